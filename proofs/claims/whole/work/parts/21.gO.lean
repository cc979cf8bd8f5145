abbrev mX12_signOf : sm_Y := (yX12_signOf, cX12_signOf, 2, (some FieldType.int))
theorem fX12_signOf : sm_mi mX12_signOf RX12 1 := ⟨sm_in 1545 (by decide +kernel) (by decide +kernel), sm_in 1544 (by decide +kernel) (by decide +kernel), sm_in 65 (by decide +kernel) (by decide +kernel), sm_in 93 (by decide +kernel) (by decide +kernel), rfl, ⟨by decide +kernel, by decide +kernel, by decide +kernel⟩, by decide⟩
theorem dX12_signOf_0 : decode cX12_signOf 0 = .ok (.aload_n 0, 1) := dk_aload_n_0 (by decide +kernel)
theorem dX12_signOf_1 : decode cX12_signOf 1 = .ok (.getfield 97, 3) := dk_getfield 97 (b1 := 0) (b2 := 97) (by decide +kernel) (by decide +kernel) (by decide +kernel) (by decide +kernel)
theorem dX12_signOf_4 : decode cX12_signOf 4 = .ok (.iconst 2, 1) := dk_iconst_2 (by decide +kernel)
theorem dX12_signOf_5 : decode cX12_signOf 5 = .ok (.iload_n 1, 1) := dk_iload_n_1 (by decide +kernel)
theorem dX12_signOf_6 : decode cX12_signOf 6 = .ok (.imul, 1) := dk_imul (by decide +kernel)
theorem dX12_signOf_7 : decode cX12_signOf 7 = .ok (.iaload, 1) := dk_iaload (by decide +kernel)
theorem dX12_signOf_8 : decode cX12_signOf 8 = .ok (.aload_n 0, 1) := dk_aload_n_0 (by decide +kernel)
theorem dX12_signOf_9 : decode cX12_signOf 9 = .ok (.getfield 97, 3) := dk_getfield 97 (b1 := 0) (b2 := 97) (by decide +kernel) (by decide +kernel) (by decide +kernel) (by decide +kernel)
theorem dX12_signOf_12 : decode cX12_signOf 12 = .ok (.iconst 2, 1) := dk_iconst_2 (by decide +kernel)
theorem dX12_signOf_13 : decode cX12_signOf 13 = .ok (.iload_n 1, 1) := dk_iload_n_1 (by decide +kernel)
theorem dX12_signOf_14 : decode cX12_signOf 14 = .ok (.imul, 1) := dk_imul (by decide +kernel)
theorem dX12_signOf_15 : decode cX12_signOf 15 = .ok (.iconst 1, 1) := dk_iconst_1 (by decide +kernel)
theorem dX12_signOf_16 : decode cX12_signOf 16 = .ok (.iadd, 1) := dk_iadd (by decide +kernel)
theorem dX12_signOf_17 : decode cX12_signOf 17 = .ok (.iaload, 1) := dk_iaload (by decide +kernel)
theorem dX12_signOf_18 : decode cX12_signOf 18 = .ok (.if_icmp .ne 7, 3) := dk_if_icmp_ne 7 (b1 := 0) (b2 := 7) (by decide +kernel) (by decide +kernel) (by decide +kernel) (by decide +kernel)
theorem dX12_signOf_25 : decode cX12_signOf 25 = .ok (.iconst (-1), 1) := dk_iconst_m1 (by decide +kernel)
theorem dX12_signOf_26 : decode cX12_signOf 26 = .ok (.aload_n 0, 1) := dk_aload_n_0 (by decide +kernel)
theorem dX12_signOf_27 : decode cX12_signOf 27 = .ok (.getfield 76, 3) := dk_getfield 76 (b1 := 0) (b2 := 76) (by decide +kernel) (by decide +kernel) (by decide +kernel) (by decide +kernel)
theorem dX12_signOf_30 : decode cX12_signOf 30 = .ok (.iload_n 1, 1) := dk_iload_n_1 (by decide +kernel)
theorem dX12_signOf_31 : decode cX12_signOf 31 = .ok (.iaload, 1) := dk_iaload (by decide +kernel)
theorem dX12_signOf_32 : decode cX12_signOf 32 = .ok (.imul, 1) := dk_imul (by decide +kernel)
theorem dX12_signOf_33 : decode cX12_signOf 33 = .ok (.ireturn, 1) := dk_ireturn (by decide +kernel)
theorem dX12_signOf_21 : decode cX12_signOf 21 = .ok (.iconst 1, 1) := dk_iconst_1 (by decide +kernel)
theorem dX12_signOf_22 : decode cX12_signOf 22 = .ok (.goto 4, 3) := dk_goto 4 (b1 := 0) (b2 := 4) (by decide +kernel) (by decide +kernel) (by decide +kernel) (by decide +kernel)
set_option maxRecDepth 20000 in
theorem vX12_signOf_0 {E : sm_E} {L : sm_S → Prop} {d : Nat} {x1 : Int32}  {m : sm_M} {Q : Int32 → sm_M → Prop} (hly : ∀ S, L S → ly S) (hd : 1 ≤ d) 
  (h : (vp_in ((2 : Int32) * x1) 48) ∧ (vp_in (((2 : Int32) * x1) + 1) 48) ∧ (¬ (m.1 137 ((2 : Int32) * x1).toNatClampNeg) = (m.1 137 (((2 : Int32) * x1) + 1).toNatClampNeg) →
      (vp_in x1 24) ∧ Q ((-1 : Int32) * (m.1 130 x1.toNatClampNeg)) m) ∧
   ((m.1 137 ((2 : Int32) * x1).toNatClampNeg) = (m.1 137 (((2 : Int32) * x1) + 1).toNatClampNeg) →
      (vp_in x1 24) ∧ Q ((1 : Int32) * (m.1 130 x1.toNatClampNeg)) m)) :
  sm_callI E L mX12_signOf d 0 0 [.ref (sm_B E + 109), .int x1] m Q := by
  refine sm_enter (by decide +kernel) (by simp [lg_sl, Value.category]) ?_
  refine sm_aload_n (Y := mX12_signOf) (pc := 0) 0 0 rfl rfl dX12_signOf_0 ?_
  refine gf_RX12_97 (Y := mX12_signOf) (pc := 1) (b := 137) rfl ((lk_109 hly) _) (lf_109_48 hly _) dX12_signOf_1 ?_
  refine sm_iconst (Y := mX12_signOf) (pc := 4) 2 (by decide) dX12_signOf_4 ?_
  refine sm_iload_n (Y := mX12_signOf) (pc := 5) 1 1 rfl rfl dX12_signOf_5 ?_
  refine sm_imul (Y := mX12_signOf) (pc := 6) dX12_signOf_6 ?_
  obtain ⟨hn_1, h⟩ := h
  refine sm_iald (Y := mX12_signOf) (pc := 7) (la_137 hly _) hn_1 dX12_signOf_7 ?_
  refine sm_aload_n (Y := mX12_signOf) (pc := 8) 0 0 rfl rfl dX12_signOf_8 ?_
  refine gf_RX12_97 (Y := mX12_signOf) (pc := 9) (b := 137) rfl ((lk_109 hly) _) (lf_109_48 hly _) dX12_signOf_9 ?_
  refine sm_iconst (Y := mX12_signOf) (pc := 12) 2 (by decide) dX12_signOf_12 ?_
  refine sm_iload_n (Y := mX12_signOf) (pc := 13) 1 1 rfl rfl dX12_signOf_13 ?_
  refine sm_imul (Y := mX12_signOf) (pc := 14) dX12_signOf_14 ?_
  refine sm_iconst (Y := mX12_signOf) (pc := 15) 1 (by decide) dX12_signOf_15 ?_
  refine sm_iadd (Y := mX12_signOf) (pc := 16) dX12_signOf_16 ?_
  obtain ⟨hn_2, h⟩ := h
  refine sm_iald (Y := mX12_signOf) (pc := 17) (la_137 hly _) hn_2 dX12_signOf_17 ?_
  refine sm_icmp_ne (Y := mX12_signOf) (pc := 18) 25 (by decide) dX12_signOf_18 (fun hc => ?_) (fun hc => ?_)
  · replace h := h.1 hc
    refine sm_iconst (Y := mX12_signOf) (pc := 25) (-1) (by decide) dX12_signOf_25 ?_
    refine sm_aload_n (Y := mX12_signOf) (pc := 26) 0 0 rfl rfl dX12_signOf_26 ?_
    refine gf_RX12_76 (Y := mX12_signOf) (pc := 27) (b := 130) rfl ((lk_109 hly) _) (lf_109_39 hly _) dX12_signOf_27 ?_
    refine sm_iload_n (Y := mX12_signOf) (pc := 30) 1 1 rfl rfl dX12_signOf_30 ?_
    obtain ⟨hn_3, h⟩ := h
    refine sm_iald (Y := mX12_signOf) (pc := 31) (la_130 hly _) hn_3 dX12_signOf_31 ?_
    refine sm_imul (Y := mX12_signOf) (pc := 32) dX12_signOf_32 ?_
    exact sm_iret (Y := mX12_signOf) (pc := 33) rfl rfl rfl dX12_signOf_33 ⟨_, rfl, h⟩
  · replace h := h.2 hc
    refine sm_iconst (Y := mX12_signOf) (pc := 21) 1 (by decide) dX12_signOf_21 ?_
    refine sm_goto (Y := mX12_signOf) (pc := 22) 26 (by decide) dX12_signOf_22 ?_
    refine sm_aload_n (Y := mX12_signOf) (pc := 26) 0 0 rfl rfl dX12_signOf_26 ?_
    refine gf_RX12_76 (Y := mX12_signOf) (pc := 27) (b := 130) rfl ((lk_109 hly) _) (lf_109_39 hly _) dX12_signOf_27 ?_
    refine sm_iload_n (Y := mX12_signOf) (pc := 30) 1 1 rfl rfl dX12_signOf_30 ?_
    obtain ⟨hn_4, h⟩ := h
    refine sm_iald (Y := mX12_signOf) (pc := 31) (la_130 hly _) hn_4 dX12_signOf_31 ?_
    refine sm_imul (Y := mX12_signOf) (pc := 32) dX12_signOf_32 ?_
    exact sm_iret (Y := mX12_signOf) (pc := 33) rfl rfl rfl dX12_signOf_33 ⟨_, rfl, h⟩
abbrev mX12_layArcs : sm_Y := (yX12_layArcs, cX12_layArcs, 7, none)
theorem fX12_layArcs : sm_mi mX12_layArcs RX12 0 := ⟨sm_in 1541 (by decide +kernel) (by decide +kernel), sm_in 1540 (by decide +kernel) (by decide +kernel), sm_in 64 (by decide +kernel) (by decide +kernel), sm_in 93 (by decide +kernel) (by decide +kernel), rfl, ⟨by decide +kernel, by decide +kernel, by decide +kernel⟩, by decide⟩
def gX12_layArcs_76 (E : sm_E) (L : sm_S → Prop) (d : Nat) (vs : List Value) (x1 : Int32) (x3 : Int32) (x4 : Int32) (x5 : Int32) (m : sm_M) (Q : sm_M → Prop) : Prop := sm_go E L mX12_layArcs d 0 0 vs 76 [(0, .ref (sm_B E + 109)), (1, .int x1), (3, .int x3), (4, .int x4), (5, .int x5)] [] m 0 0 (sm_Z E L vs 0 0 (sm_QV Q))
def gX12_layArcs_62 (E : sm_E) (L : sm_S → Prop) (d : Nat) (vs : List Value) (x1 : Int32) (s0 : Int32) (m : sm_M) (Q : sm_M → Prop) : Prop := sm_go E L mX12_layArcs d 0 0 vs 62 [(0, .ref (sm_B E + 109)), (1, .int x1)] [.int s0] m 0 0 (sm_Z E L vs 0 0 (sm_QV Q))
def gX12_layArcs_24 (E : sm_E) (L : sm_S → Prop) (d : Nat) (vs : List Value) (x1 : Int32) (x2 : Int32) (x3 : Int32) (m : sm_M) (Q : sm_M → Prop) : Prop := sm_go E L mX12_layArcs d 0 0 vs 24 [(0, .ref (sm_B E + 109)), (1, .int x1), (2, .int x2), (3, .int x3)] [] m 0 0 (sm_Z E L vs 0 0 (sm_QV Q))
def gX12_layArcs_7 (E : sm_E) (L : sm_S → Prop) (d : Nat) (vs : List Value) (x1 : Int32) (m : sm_M) (Q : sm_M → Prop) : Prop := sm_go E L mX12_layArcs d 0 0 vs 7 [(0, .ref (sm_B E + 109)), (1, .int x1)] [] m 0 0 (sm_Z E L vs 0 0 (sm_QV Q))
theorem dX12_layArcs_76 : decode cX12_layArcs 76 = .ok (.iload 5, 2) := dk_iload 5 (b := 5) (by decide +kernel) (by decide +kernel) (by decide +kernel)
theorem dX12_layArcs_78 : decode cX12_layArcs 78 = .ok (.aload_n 0, 1) := dk_aload_n_0 (by decide +kernel)
theorem dX12_layArcs_79 : decode cX12_layArcs 79 = .ok (.getfield 103, 3) := dk_getfield 103 (b1 := 0) (b2 := 103) (by decide +kernel) (by decide +kernel) (by decide +kernel) (by decide +kernel)
theorem dX12_layArcs_82 : decode cX12_layArcs 82 = .ok (.iload_n 1, 1) := dk_iload_n_1 (by decide +kernel)
theorem dX12_layArcs_83 : decode cX12_layArcs 83 = .ok (.iconst 1, 1) := dk_iconst_1 (by decide +kernel)
theorem dX12_layArcs_84 : decode cX12_layArcs 84 = .ok (.iadd, 1) := dk_iadd (by decide +kernel)
theorem dX12_layArcs_85 : decode cX12_layArcs 85 = .ok (.iaload, 1) := dk_iaload (by decide +kernel)
theorem dX12_layArcs_86 : decode cX12_layArcs 86 = .ok (.if_icmp .ge 85, 3) := dk_if_icmp_ge 85 (b1 := 0) (b2 := 85) (by decide +kernel) (by decide +kernel) (by decide +kernel) (by decide +kernel)
theorem dX12_layArcs_171 : decode cX12_layArcs 171 = .ok (.aload_n 0, 1) := dk_aload_n_0 (by decide +kernel)
theorem dX12_layArcs_172 : decode cX12_layArcs 172 = .ok (.dup, 1) := dk_dup (by decide +kernel)
theorem dX12_layArcs_173 : decode cX12_layArcs 173 = .ok (.getfield 320, 3) := dk_getfield 320 (b1 := 1) (b2 := 64) (by decide +kernel) (by decide +kernel) (by decide +kernel) (by decide +kernel)
theorem dX12_layArcs_176 : decode cX12_layArcs 176 = .ok (.iload_n 3, 1) := dk_iload_n_3 (by decide +kernel)
theorem dX12_layArcs_177 : decode cX12_layArcs 177 = .ok (.iadd, 1) := dk_iadd (by decide +kernel)
theorem dX12_layArcs_178 : decode cX12_layArcs 178 = .ok (.putfield 320, 3) := dk_putfield 320 (b1 := 1) (b2 := 64) (by decide +kernel) (by decide +kernel) (by decide +kernel) (by decide +kernel)
theorem dX12_layArcs_181 : decode cX12_layArcs 181 = .ok (.iinc 1 1, 3) := dk_iinc 1 1 (b1 := 1) (b2 := 1) (by decide +kernel) (by decide +kernel) (by decide +kernel) (by decide +kernel) (by decide +kernel)
theorem dX12_layArcs_184 : decode cX12_layArcs 184 = .ok (.goto (-177), 3) := dk_goto (-177) (b1 := 255) (b2 := 79) (by decide +kernel) (by decide +kernel) (by decide +kernel) (by decide +kernel)
theorem dX12_layArcs_89 : decode cX12_layArcs 89 = .ok (.aload_n 0, 1) := dk_aload_n_0 (by decide +kernel)
theorem dX12_layArcs_90 : decode cX12_layArcs 90 = .ok (.getfield 100, 3) := dk_getfield 100 (b1 := 0) (b2 := 100) (by decide +kernel) (by decide +kernel) (by decide +kernel) (by decide +kernel)
theorem dX12_layArcs_93 : decode cX12_layArcs 93 = .ok (.iload 5, 2) := dk_iload 5 (b := 5) (by decide +kernel) (by decide +kernel) (by decide +kernel)
theorem dX12_layArcs_95 : decode cX12_layArcs 95 = .ok (.iaload, 1) := dk_iaload (by decide +kernel)
theorem dX12_layArcs_96 : decode cX12_layArcs 96 = .ok (.iconst 2, 1) := dk_iconst_2 (by decide +kernel)
theorem dX12_layArcs_97 : decode cX12_layArcs 97 = .ok (.idiv, 1) := dk_idiv (by decide +kernel)
theorem dX12_layArcs_98 : decode cX12_layArcs 98 = .ok (.istore 6, 2) := dk_istore 6 (b := 6) (by decide +kernel) (by decide +kernel) (by decide +kernel)
theorem dX12_layArcs_100 : decode cX12_layArcs 100 = .ok (.aload_n 0, 1) := dk_aload_n_0 (by decide +kernel)
theorem dX12_layArcs_101 : decode cX12_layArcs 101 = .ok (.getfield 100, 3) := dk_getfield 100 (b1 := 0) (b2 := 100) (by decide +kernel) (by decide +kernel) (by decide +kernel) (by decide +kernel)
theorem dX12_layArcs_104 : decode cX12_layArcs 104 = .ok (.iload 5, 2) := dk_iload 5 (b := 5) (by decide +kernel) (by decide +kernel) (by decide +kernel)
theorem dX12_layArcs_106 : decode cX12_layArcs 106 = .ok (.iaload, 1) := dk_iaload (by decide +kernel)
theorem dX12_layArcs_107 : decode cX12_layArcs 107 = .ok (.iconst 2, 1) := dk_iconst_2 (by decide +kernel)
theorem dX12_layArcs_108 : decode cX12_layArcs 108 = .ok (.irem, 1) := dk_irem (by decide +kernel)
theorem dX12_layArcs_109 : decode cX12_layArcs 109 = .ok (.ifCond .ne 20, 3) := dk_ifCond_ne 20 (b1 := 0) (b2 := 20) (by decide +kernel) (by decide +kernel) (by decide +kernel) (by decide +kernel)
theorem dX12_layArcs_129 : decode cX12_layArcs 129 = .ok (.aload_n 0, 1) := dk_aload_n_0 (by decide +kernel)
theorem dX12_layArcs_130 : decode cX12_layArcs 130 = .ok (.getfield 112, 3) := dk_getfield 112 (b1 := 0) (b2 := 112) (by decide +kernel) (by decide +kernel) (by decide +kernel) (by decide +kernel)
theorem dX12_layArcs_133 : decode cX12_layArcs 133 = .ok (.iload 6, 2) := dk_iload 6 (b := 6) (by decide +kernel) (by decide +kernel) (by decide +kernel)
theorem dX12_layArcs_135 : decode cX12_layArcs 135 = .ok (.aload_n 0, 1) := dk_aload_n_0 (by decide +kernel)
theorem dX12_layArcs_136 : decode cX12_layArcs 136 = .ok (.getfield 320, 3) := dk_getfield 320 (b1 := 1) (b2 := 64) (by decide +kernel) (by decide +kernel) (by decide +kernel) (by decide +kernel)
theorem dX12_layArcs_139 : decode cX12_layArcs 139 = .ok (.iload 4, 2) := dk_iload 4 (b := 4) (by decide +kernel) (by decide +kernel) (by decide +kernel)
theorem dX12_layArcs_141 : decode cX12_layArcs 141 = .ok (.iadd, 1) := dk_iadd (by decide +kernel)
theorem dX12_layArcs_142 : decode cX12_layArcs 142 = .ok (.iastore, 1) := dk_iastore (by decide +kernel)
theorem dX12_layArcs_143 : decode cX12_layArcs 143 = .ok (.iload 4, 2) := dk_iload 4 (b := 4) (by decide +kernel) (by decide +kernel) (by decide +kernel)
theorem dX12_layArcs_145 : decode cX12_layArcs 145 = .ok (.iconst 1, 1) := dk_iconst_1 (by decide +kernel)
theorem dX12_layArcs_146 : decode cX12_layArcs 146 = .ok (.iadd, 1) := dk_iadd (by decide +kernel)
theorem dX12_layArcs_147 : decode cX12_layArcs 147 = .ok (.iload_n 3, 1) := dk_iload_n_3 (by decide +kernel)
theorem dX12_layArcs_148 : decode cX12_layArcs 148 = .ok (.irem, 1) := dk_irem (by decide +kernel)
theorem dX12_layArcs_149 : decode cX12_layArcs 149 = .ok (.istore 4, 2) := dk_istore 4 (b := 4) (by decide +kernel) (by decide +kernel) (by decide +kernel)
theorem dX12_layArcs_151 : decode cX12_layArcs 151 = .ok (.aload_n 0, 1) := dk_aload_n_0 (by decide +kernel)
theorem dX12_layArcs_152 : decode cX12_layArcs 152 = .ok (.getfield 115, 3) := dk_getfield 115 (b1 := 0) (b2 := 115) (by decide +kernel) (by decide +kernel) (by decide +kernel) (by decide +kernel)
theorem dX12_layArcs_155 : decode cX12_layArcs 155 = .ok (.iload 6, 2) := dk_iload 6 (b := 6) (by decide +kernel) (by decide +kernel) (by decide +kernel)
theorem dX12_layArcs_157 : decode cX12_layArcs 157 = .ok (.aload_n 0, 1) := dk_aload_n_0 (by decide +kernel)
theorem dX12_layArcs_158 : decode cX12_layArcs 158 = .ok (.getfield 320, 3) := dk_getfield 320 (b1 := 1) (b2 := 64) (by decide +kernel) (by decide +kernel) (by decide +kernel) (by decide +kernel)
theorem dX12_layArcs_161 : decode cX12_layArcs 161 = .ok (.iload 4, 2) := dk_iload 4 (b := 4) (by decide +kernel) (by decide +kernel) (by decide +kernel)
theorem dX12_layArcs_163 : decode cX12_layArcs 163 = .ok (.iadd, 1) := dk_iadd (by decide +kernel)
theorem dX12_layArcs_164 : decode cX12_layArcs 164 = .ok (.iastore, 1) := dk_iastore (by decide +kernel)
theorem dX12_layArcs_165 : decode cX12_layArcs 165 = .ok (.iinc 5 1, 3) := dk_iinc 5 1 (b1 := 5) (b2 := 1) (by decide +kernel) (by decide +kernel) (by decide +kernel) (by decide +kernel) (by decide +kernel)
theorem dX12_layArcs_168 : decode cX12_layArcs 168 = .ok (.goto (-92), 3) := dk_goto (-92) (b1 := 255) (b2 := 164) (by decide +kernel) (by decide +kernel) (by decide +kernel) (by decide +kernel)
theorem dX12_layArcs_112 : decode cX12_layArcs 112 = .ok (.aload_n 0, 1) := dk_aload_n_0 (by decide +kernel)
theorem dX12_layArcs_113 : decode cX12_layArcs 113 = .ok (.getfield 109, 3) := dk_getfield 109 (b1 := 0) (b2 := 109) (by decide +kernel) (by decide +kernel) (by decide +kernel) (by decide +kernel)
theorem dX12_layArcs_116 : decode cX12_layArcs 116 = .ok (.iload 6, 2) := dk_iload 6 (b := 6) (by decide +kernel) (by decide +kernel) (by decide +kernel)
theorem dX12_layArcs_118 : decode cX12_layArcs 118 = .ok (.aload_n 0, 1) := dk_aload_n_0 (by decide +kernel)
theorem dX12_layArcs_119 : decode cX12_layArcs 119 = .ok (.getfield 320, 3) := dk_getfield 320 (b1 := 1) (b2 := 64) (by decide +kernel) (by decide +kernel) (by decide +kernel) (by decide +kernel)
theorem dX12_layArcs_122 : decode cX12_layArcs 122 = .ok (.iload 4, 2) := dk_iload 4 (b := 4) (by decide +kernel) (by decide +kernel) (by decide +kernel)
theorem dX12_layArcs_124 : decode cX12_layArcs 124 = .ok (.iadd, 1) := dk_iadd (by decide +kernel)
theorem dX12_layArcs_125 : decode cX12_layArcs 125 = .ok (.iastore, 1) := dk_iastore (by decide +kernel)
theorem dX12_layArcs_126 : decode cX12_layArcs 126 = .ok (.goto 39, 3) := dk_goto 39 (b1 := 0) (b2 := 39) (by decide +kernel) (by decide +kernel) (by decide +kernel) (by decide +kernel)
set_option maxRecDepth 20000 in
theorem vX12_layArcs_76 {E : sm_E} {L : sm_S → Prop} {d : Nat} {vs : List Value} {x1 : Int32} {x3 : Int32} {x4 : Int32} {x5 : Int32}  {m : sm_M} {Q : sm_M → Prop} (hly : ∀ S, L S → ly S) (hd : 1 ≤ d) 
  (h : (vp_in (x1 + 1) 50) ∧ ((m.1 139 (x1 + 1).toNatClampNeg) ≤ x5 →
      ∀ m_2 : sm_M, m_2 = sm_wI m 109 58 ((m.1 109 58) + x3) →
      ∀ x1_3 : Int32, x1_3 = x1 + 1 →
      gX12_layArcs_7 E L d vs x1_3 m_2 Q) ∧
   (¬ (m.1 139 (x1 + 1).toNatClampNeg) ≤ x5 →
      (vp_in x5 48) ∧ ∀ x6_5 : Int32, x6_5 = (m.1 138 x5.toNatClampNeg) / 2 →
      (vp_in x5 48) ∧ (¬ (sm_rem (m.1 138 x5.toNatClampNeg) 2) = 0 →
         (vp_in x6_5 24) ∧ ∀ m_7 : sm_M, m_7 = sm_wI m 142 x6_5.toNatClampNeg ((m.1 109 58) + x4) →
         (¬ x3 = 0) ∧ ∀ x4_10 : Int32, x4_10 = sm_rem (x4 + 1) x3 →
         (vp_in x6_5 24) ∧ ∀ m_11 : sm_M, m_11 = sm_wI m_7 143 x6_5.toNatClampNeg ((m_7.1 109 58) + x4_10) →
         ∀ x5_13 : Int32, x5_13 = x5 + 1 →
         gX12_layArcs_76 E L d vs x1 x3 x4_10 x5_13 m_11 Q) ∧
      ((sm_rem (m.1 138 x5.toNatClampNeg) 2) = 0 →
         (vp_in x6_5 24) ∧ ∀ m_14 : sm_M, m_14 = sm_wI m 141 x6_5.toNatClampNeg ((m.1 109 58) + x4) →
         ∀ x5_16 : Int32, x5_16 = x5 + 1 →
         gX12_layArcs_76 E L d vs x1 x3 x4 x5_16 m_14 Q))) :
  gX12_layArcs_76 E L d vs x1 x3 x4 x5 m Q := by
  refine sm_iload (Y := mX12_layArcs) (pc := 76) 4 5 rfl dX12_layArcs_76 ?_
  refine sm_aload_n (Y := mX12_layArcs) (pc := 78) 0 0 rfl rfl dX12_layArcs_78 ?_
  refine gf_RX12_103 (Y := mX12_layArcs) (pc := 79) (b := 139) rfl ((lk_109 hly) _) (lf_109_50 hly _) dX12_layArcs_79 ?_
  refine sm_iload_n (Y := mX12_layArcs) (pc := 82) 1 1 rfl rfl dX12_layArcs_82 ?_
  refine sm_iconst (Y := mX12_layArcs) (pc := 83) 1 (by decide) dX12_layArcs_83 ?_
  refine sm_iadd (Y := mX12_layArcs) (pc := 84) dX12_layArcs_84 ?_
  obtain ⟨hn_1, h⟩ := h
  refine sm_iald (Y := mX12_layArcs) (pc := 85) (la_139 hly _) hn_1 dX12_layArcs_85 ?_
  refine sm_icmp_ge (Y := mX12_layArcs) (pc := 86) 171 (by decide) dX12_layArcs_86 (fun hc => ?_) (fun hc => ?_)
  · replace h := h.1 hc
    refine sm_aload_n (Y := mX12_layArcs) (pc := 171) 0 0 rfl rfl dX12_layArcs_171 ?_
    refine sm_dup (Y := mX12_layArcs) (pc := 172) rfl dX12_layArcs_172 ?_
    refine gf_RX12_320 (Y := mX12_layArcs) (pc := 173) rfl ((lk_109 hly) _) dX12_layArcs_173 ?_
    refine sm_iload_n (Y := mX12_layArcs) (pc := 176) 2 3 rfl rfl dX12_layArcs_176 ?_
    refine sm_iadd (Y := mX12_layArcs) (pc := 177) dX12_layArcs_177 ?_
    refine pf_RX12_320 (Y := mX12_layArcs) (pc := 178) rfl ((lk_109 hly) _) dX12_layArcs_178 (fun m_2 em_2 => ?_)
    replace h := h m_2 em_2
    refine sm_iinc (Y := mX12_layArcs) (pc := 181) (fun y => [(1, .int y), (0, .ref (sm_B E + 109)), (3, .int x3), (4, .int x4), (5, .int x5)]) 1 1 rfl (by decide) (fun _ => rfl) dX12_layArcs_181 (fun x1_3 ex1_3 => ?_)
    replace h := h x1_3 ex1_3
    refine sm_goto (Y := mX12_layArcs) (pc := 184) 7 (by decide) dX12_layArcs_184 ?_
    refine sm_sub [1, 0] rfl ?_
    exact h
  · replace h := h.2 hc
    refine sm_aload_n (Y := mX12_layArcs) (pc := 89) 0 0 rfl rfl dX12_layArcs_89 ?_
    refine gf_RX12_100 (Y := mX12_layArcs) (pc := 90) (b := 138) rfl ((lk_109 hly) _) (lf_109_49 hly _) dX12_layArcs_90 ?_
    refine sm_iload (Y := mX12_layArcs) (pc := 93) 4 5 rfl dX12_layArcs_93 ?_
    obtain ⟨hn_4, h⟩ := h
    refine sm_iald (Y := mX12_layArcs) (pc := 95) (la_138 hly _) hn_4 dX12_layArcs_95 ?_
    refine sm_iconst (Y := mX12_layArcs) (pc := 96) 2 (by decide) dX12_layArcs_96 ?_
    refine sm_idiv (Y := mX12_layArcs) (pc := 97) (by decide) dX12_layArcs_97 ?_
    refine sm_istore (Y := mX12_layArcs) (pc := 98) (fun y => [(6, .int y), (0, .ref (sm_B E + 109)), (1, .int x1), (3, .int x3), (4, .int x4), (5, .int x5)]) 6 (by decide) (fun _ => rfl) dX12_layArcs_98 (fun x6_5 ex6_5 => ?_)
    replace h := h x6_5 ex6_5
    refine sm_aload_n (Y := mX12_layArcs) (pc := 100) 1 0 rfl rfl dX12_layArcs_100 ?_
    refine gf_RX12_100 (Y := mX12_layArcs) (pc := 101) (b := 138) rfl ((lk_109 hly) _) (lf_109_49 hly _) dX12_layArcs_101 ?_
    refine sm_iload (Y := mX12_layArcs) (pc := 104) 5 5 rfl dX12_layArcs_104 ?_
    obtain ⟨hn_6, h⟩ := h
    refine sm_iald (Y := mX12_layArcs) (pc := 106) (la_138 hly _) hn_6 dX12_layArcs_106 ?_
    refine sm_iconst (Y := mX12_layArcs) (pc := 107) 2 (by decide) dX12_layArcs_107 ?_
    refine sm_irem (Y := mX12_layArcs) (pc := 108) (by decide) dX12_layArcs_108 ?_
    refine sm_if_ne (Y := mX12_layArcs) (pc := 109) 129 (by decide) dX12_layArcs_109 (fun hc => ?_) (fun hc => ?_)
    · replace h := h.1 hc
      refine sm_aload_n (Y := mX12_layArcs) (pc := 129) 1 0 rfl rfl dX12_layArcs_129 ?_
      refine gf_RX12_112 (Y := mX12_layArcs) (pc := 130) (b := 142) rfl ((lk_109 hly) _) (lf_109_56 hly _) dX12_layArcs_130 ?_
      refine sm_iload (Y := mX12_layArcs) (pc := 133) 0 6 rfl dX12_layArcs_133 ?_
      refine sm_aload_n (Y := mX12_layArcs) (pc := 135) 1 0 rfl rfl dX12_layArcs_135 ?_
      refine gf_RX12_320 (Y := mX12_layArcs) (pc := 136) rfl ((lk_109 hly) _) dX12_layArcs_136 ?_
      refine sm_iload (Y := mX12_layArcs) (pc := 139) 4 4 rfl dX12_layArcs_139 ?_
      refine sm_iadd (Y := mX12_layArcs) (pc := 141) dX12_layArcs_141 ?_
      obtain ⟨hn_8, h⟩ := h
      refine sm_iast (Y := mX12_layArcs) (pc := 142) (la_142 hly _) hn_8 dX12_layArcs_142 (fun m_7 em_7 => ?_)
      replace h := h m_7 em_7
      refine sm_iload (Y := mX12_layArcs) (pc := 143) 4 4 rfl dX12_layArcs_143 ?_
      refine sm_iconst (Y := mX12_layArcs) (pc := 145) 1 (by decide) dX12_layArcs_145 ?_
      refine sm_iadd (Y := mX12_layArcs) (pc := 146) dX12_layArcs_146 ?_
      refine sm_iload_n (Y := mX12_layArcs) (pc := 147) 3 3 rfl rfl dX12_layArcs_147 ?_
      obtain ⟨hn_9, h⟩ := h
      refine sm_irem (Y := mX12_layArcs) (pc := 148) hn_9 dX12_layArcs_148 ?_
      refine sm_istore (Y := mX12_layArcs) (pc := 149) (fun y => [(4, .int y), (6, .int x6_5), (0, .ref (sm_B E + 109)), (1, .int x1), (3, .int x3), (5, .int x5)]) 4 (by decide) (fun _ => rfl) dX12_layArcs_149 (fun x4_10 ex4_10 => ?_)
      replace h := h x4_10 ex4_10
      refine sm_aload_n (Y := mX12_layArcs) (pc := 151) 2 0 rfl rfl dX12_layArcs_151 ?_
      refine gf_RX12_115 (Y := mX12_layArcs) (pc := 152) (b := 143) rfl ((lk_109 hly) _) (lf_109_57 hly _) dX12_layArcs_152 ?_
      refine sm_iload (Y := mX12_layArcs) (pc := 155) 1 6 rfl dX12_layArcs_155 ?_
      refine sm_aload_n (Y := mX12_layArcs) (pc := 157) 2 0 rfl rfl dX12_layArcs_157 ?_
      refine gf_RX12_320 (Y := mX12_layArcs) (pc := 158) rfl ((lk_109 hly) _) dX12_layArcs_158 ?_
      refine sm_iload (Y := mX12_layArcs) (pc := 161) 0 4 rfl dX12_layArcs_161 ?_
      refine sm_iadd (Y := mX12_layArcs) (pc := 163) dX12_layArcs_163 ?_
      obtain ⟨hn_12, h⟩ := h
      refine sm_iast (Y := mX12_layArcs) (pc := 164) (la_143 hly _) hn_12 dX12_layArcs_164 (fun m_11 em_11 => ?_)
      replace h := h m_11 em_11
      refine sm_iinc (Y := mX12_layArcs) (pc := 165) (fun y => [(5, .int y), (4, .int x4_10), (6, .int x6_5), (0, .ref (sm_B E + 109)), (1, .int x1), (3, .int x3)]) 5 5 rfl (by decide) (fun _ => rfl) dX12_layArcs_165 (fun x5_13 ex5_13 => ?_)
      replace h := h x5_13 ex5_13
      refine sm_goto (Y := mX12_layArcs) (pc := 168) 76 (by decide) dX12_layArcs_168 ?_
      refine sm_sub [3, 4, 5, 1, 0] rfl ?_
      exact h
    · replace h := h.2 hc
      refine sm_aload_n (Y := mX12_layArcs) (pc := 112) 1 0 rfl rfl dX12_layArcs_112 ?_
      refine gf_RX12_109 (Y := mX12_layArcs) (pc := 113) (b := 141) rfl ((lk_109 hly) _) (lf_109_55 hly _) dX12_layArcs_113 ?_
      refine sm_iload (Y := mX12_layArcs) (pc := 116) 0 6 rfl dX12_layArcs_116 ?_
      refine sm_aload_n (Y := mX12_layArcs) (pc := 118) 1 0 rfl rfl dX12_layArcs_118 ?_
      refine gf_RX12_320 (Y := mX12_layArcs) (pc := 119) rfl ((lk_109 hly) _) dX12_layArcs_119 ?_
      refine sm_iload (Y := mX12_layArcs) (pc := 122) 4 4 rfl dX12_layArcs_122 ?_
      refine sm_iadd (Y := mX12_layArcs) (pc := 124) dX12_layArcs_124 ?_
      obtain ⟨hn_15, h⟩ := h
      refine sm_iast (Y := mX12_layArcs) (pc := 125) (la_141 hly _) hn_15 dX12_layArcs_125 (fun m_14 em_14 => ?_)
      replace h := h m_14 em_14
      refine sm_goto (Y := mX12_layArcs) (pc := 126) 165 (by decide) dX12_layArcs_126 ?_
      refine sm_iinc (Y := mX12_layArcs) (pc := 165) (fun y => [(5, .int y), (6, .int x6_5), (0, .ref (sm_B E + 109)), (1, .int x1), (3, .int x3), (4, .int x4)]) 5 5 rfl (by decide) (fun _ => rfl) dX12_layArcs_165 (fun x5_16 ex5_16 => ?_)
      replace h := h x5_16 ex5_16
      refine sm_goto (Y := mX12_layArcs) (pc := 168) 76 (by decide) dX12_layArcs_168 ?_
      refine sm_sub [2, 3, 4, 5, 0] rfl ?_
      exact h
theorem dX12_layArcs_62 : decode cX12_layArcs 62 = .ok (.istore_n 3, 1) := dk_istore_n_3 (by decide +kernel)
theorem dX12_layArcs_63 : decode cX12_layArcs 63 = .ok (.iload_n 3, 1) := dk_iload_n_3 (by decide +kernel)
theorem dX12_layArcs_64 : decode cX12_layArcs 64 = .ok (.iconst 1, 1) := dk_iconst_1 (by decide +kernel)
theorem dX12_layArcs_65 : decode cX12_layArcs 65 = .ok (.isub, 1) := dk_isub (by decide +kernel)
theorem dX12_layArcs_66 : decode cX12_layArcs 66 = .ok (.istore 4, 2) := dk_istore 4 (b := 4) (by decide +kernel) (by decide +kernel) (by decide +kernel)
theorem dX12_layArcs_68 : decode cX12_layArcs 68 = .ok (.aload_n 0, 1) := dk_aload_n_0 (by decide +kernel)
theorem dX12_layArcs_69 : decode cX12_layArcs 69 = .ok (.getfield 103, 3) := dk_getfield 103 (b1 := 0) (b2 := 103) (by decide +kernel) (by decide +kernel) (by decide +kernel) (by decide +kernel)
theorem dX12_layArcs_72 : decode cX12_layArcs 72 = .ok (.iload_n 1, 1) := dk_iload_n_1 (by decide +kernel)
theorem dX12_layArcs_73 : decode cX12_layArcs 73 = .ok (.iaload, 1) := dk_iaload (by decide +kernel)
theorem dX12_layArcs_74 : decode cX12_layArcs 74 = .ok (.istore 5, 2) := dk_istore 5 (b := 5) (by decide +kernel) (by decide +kernel) (by decide +kernel)
set_option maxRecDepth 20000 in
theorem vX12_layArcs_62 {E : sm_E} {L : sm_S → Prop} {d : Nat} {vs : List Value} {x1 : Int32} {s0 : Int32}  {m : sm_M} {Q : sm_M → Prop} (hly : ∀ S, L S → ly S) (hd : 1 ≤ d) 
  (h : ∀ x4_2 : Int32, x4_2 = s0 - 1 →
   (vp_in x1 50) ∧ ∀ x5_4 : Int32, x5_4 = m.1 139 x1.toNatClampNeg →
   gX12_layArcs_76 E L d vs x1 s0 x4_2 x5_4 m Q) :
  gX12_layArcs_62 E L d vs x1 s0 m Q := by
  refine sm_istore0_n (Y := mX12_layArcs) (pc := 62) [(3, .int s0), (0, .ref (sm_B E + 109)), (1, .int x1)] 3 rfl (by decide) rfl dX12_layArcs_62 ?_
  refine sm_iload_n (Y := mX12_layArcs) (pc := 63) 0 3 rfl rfl dX12_layArcs_63 ?_
  refine sm_iconst (Y := mX12_layArcs) (pc := 64) 1 (by decide) dX12_layArcs_64 ?_
  refine sm_isub (Y := mX12_layArcs) (pc := 65) dX12_layArcs_65 ?_
  refine sm_istore (Y := mX12_layArcs) (pc := 66) (fun y => [(4, .int y), (3, .int s0), (0, .ref (sm_B E + 109)), (1, .int x1)]) 4 (by decide) (fun _ => rfl) dX12_layArcs_66 (fun x4_2 ex4_2 => ?_)
  replace h := h x4_2 ex4_2
  refine sm_aload_n (Y := mX12_layArcs) (pc := 68) 2 0 rfl rfl dX12_layArcs_68 ?_
  refine gf_RX12_103 (Y := mX12_layArcs) (pc := 69) (b := 139) rfl ((lk_109 hly) _) (lf_109_50 hly _) dX12_layArcs_69 ?_
  refine sm_iload_n (Y := mX12_layArcs) (pc := 72) 3 1 rfl rfl dX12_layArcs_72 ?_
  obtain ⟨hn_3, h⟩ := h
  refine sm_iald (Y := mX12_layArcs) (pc := 73) (la_139 hly _) hn_3 dX12_layArcs_73 ?_
  refine sm_istore (Y := mX12_layArcs) (pc := 74) (fun y => [(5, .int y), (4, .int x4_2), (3, .int s0), (0, .ref (sm_B E + 109)), (1, .int x1)]) 5 (by decide) (fun _ => rfl) dX12_layArcs_74 (fun x5_4 ex5_4 => ?_)
  replace h := h x5_4 ex5_4
  refine sm_sub [3, 4, 2, 1, 0] rfl ?_
  exact h
theorem dX12_layArcs_24 : decode cX12_layArcs 24 = .ok (.iload_n 3, 1) := dk_iload_n_3 (by decide +kernel)
theorem dX12_layArcs_25 : decode cX12_layArcs 25 = .ok (.aload_n 0, 1) := dk_aload_n_0 (by decide +kernel)
theorem dX12_layArcs_26 : decode cX12_layArcs 26 = .ok (.getfield 103, 3) := dk_getfield 103 (b1 := 0) (b2 := 103) (by decide +kernel) (by decide +kernel) (by decide +kernel) (by decide +kernel)
theorem dX12_layArcs_29 : decode cX12_layArcs 29 = .ok (.iload_n 1, 1) := dk_iload_n_1 (by decide +kernel)
theorem dX12_layArcs_30 : decode cX12_layArcs 30 = .ok (.iconst 1, 1) := dk_iconst_1 (by decide +kernel)
theorem dX12_layArcs_31 : decode cX12_layArcs 31 = .ok (.iadd, 1) := dk_iadd (by decide +kernel)
theorem dX12_layArcs_32 : decode cX12_layArcs 32 = .ok (.iaload, 1) := dk_iaload (by decide +kernel)
theorem dX12_layArcs_33 : decode cX12_layArcs 33 = .ok (.if_icmp .ge 20, 3) := dk_if_icmp_ge 20 (b1 := 0) (b2 := 20) (by decide +kernel) (by decide +kernel) (by decide +kernel) (by decide +kernel)
theorem dX12_layArcs_53 : decode cX12_layArcs 53 = .ok (.iload_n 2, 1) := dk_iload_n_2 (by decide +kernel)
theorem dX12_layArcs_54 : decode cX12_layArcs 54 = .ok (.ifCond .ne 7, 3) := dk_ifCond_ne 7 (b1 := 0) (b2 := 7) (by decide +kernel) (by decide +kernel) (by decide +kernel) (by decide +kernel)
theorem dX12_layArcs_61 : decode cX12_layArcs 61 = .ok (.iload_n 2, 1) := dk_iload_n_2 (by decide +kernel)
theorem dX12_layArcs_57 : decode cX12_layArcs 57 = .ok (.iconst 1, 1) := dk_iconst_1 (by decide +kernel)
theorem dX12_layArcs_58 : decode cX12_layArcs 58 = .ok (.goto 4, 3) := dk_goto 4 (b1 := 0) (b2 := 4) (by decide +kernel) (by decide +kernel) (by decide +kernel) (by decide +kernel)
theorem dX12_layArcs_36 : decode cX12_layArcs 36 = .ok (.iload_n 2, 1) := dk_iload_n_2 (by decide +kernel)
theorem dX12_layArcs_37 : decode cX12_layArcs 37 = .ok (.aload_n 0, 1) := dk_aload_n_0 (by decide +kernel)
theorem dX12_layArcs_38 : decode cX12_layArcs 38 = .ok (.getfield 100, 3) := dk_getfield 100 (b1 := 0) (b2 := 100) (by decide +kernel) (by decide +kernel) (by decide +kernel) (by decide +kernel)
theorem dX12_layArcs_41 : decode cX12_layArcs 41 = .ok (.iload_n 3, 1) := dk_iload_n_3 (by decide +kernel)
theorem dX12_layArcs_42 : decode cX12_layArcs 42 = .ok (.iaload, 1) := dk_iaload (by decide +kernel)
theorem dX12_layArcs_43 : decode cX12_layArcs 43 = .ok (.iconst 2, 1) := dk_iconst_2 (by decide +kernel)
theorem dX12_layArcs_44 : decode cX12_layArcs 44 = .ok (.irem, 1) := dk_irem (by decide +kernel)
theorem dX12_layArcs_45 : decode cX12_layArcs 45 = .ok (.iadd, 1) := dk_iadd (by decide +kernel)
theorem dX12_layArcs_46 : decode cX12_layArcs 46 = .ok (.istore_n 2, 1) := dk_istore_n_2 (by decide +kernel)
theorem dX12_layArcs_47 : decode cX12_layArcs 47 = .ok (.iinc 3 1, 3) := dk_iinc 3 1 (b1 := 3) (b2 := 1) (by decide +kernel) (by decide +kernel) (by decide +kernel) (by decide +kernel) (by decide +kernel)
theorem dX12_layArcs_50 : decode cX12_layArcs 50 = .ok (.goto (-26), 3) := dk_goto (-26) (b1 := 255) (b2 := 230) (by decide +kernel) (by decide +kernel) (by decide +kernel) (by decide +kernel)
set_option maxRecDepth 20000 in
theorem vX12_layArcs_24 {E : sm_E} {L : sm_S → Prop} {d : Nat} {vs : List Value} {x1 : Int32} {x2 : Int32} {x3 : Int32}  {m : sm_M} {Q : sm_M → Prop} (hly : ∀ S, L S → ly S) (hd : 1 ≤ d) 
  (h : (vp_in (x1 + 1) 50) ∧ ((m.1 139 (x1 + 1).toNatClampNeg) ≤ x3 →
      (¬ x2 = 0 →
         gX12_layArcs_62 E L d vs x1 x2 m Q) ∧
      (x2 = 0 →
         gX12_layArcs_62 E L d vs x1 1 m Q)) ∧
   (¬ (m.1 139 (x1 + 1).toNatClampNeg) ≤ x3 →
      (vp_in x3 48) ∧ ∀ x2_3 : Int32, x2_3 = x2 + (sm_rem (m.1 138 x3.toNatClampNeg) 2) →
      ∀ x3_4 : Int32, x3_4 = x3 + 1 →
      gX12_layArcs_24 E L d vs x1 x2_3 x3_4 m Q)) :
  gX12_layArcs_24 E L d vs x1 x2 x3 m Q := by
  refine sm_iload_n (Y := mX12_layArcs) (pc := 24) 3 3 rfl rfl dX12_layArcs_24 ?_
  refine sm_aload_n (Y := mX12_layArcs) (pc := 25) 0 0 rfl rfl dX12_layArcs_25 ?_
  refine gf_RX12_103 (Y := mX12_layArcs) (pc := 26) (b := 139) rfl ((lk_109 hly) _) (lf_109_50 hly _) dX12_layArcs_26 ?_
  refine sm_iload_n (Y := mX12_layArcs) (pc := 29) 1 1 rfl rfl dX12_layArcs_29 ?_
  refine sm_iconst (Y := mX12_layArcs) (pc := 30) 1 (by decide) dX12_layArcs_30 ?_
  refine sm_iadd (Y := mX12_layArcs) (pc := 31) dX12_layArcs_31 ?_
  obtain ⟨hn_1, h⟩ := h
  refine sm_iald (Y := mX12_layArcs) (pc := 32) (la_139 hly _) hn_1 dX12_layArcs_32 ?_
  refine sm_icmp_ge (Y := mX12_layArcs) (pc := 33) 53 (by decide) dX12_layArcs_33 (fun hc => ?_) (fun hc => ?_)
  · replace h := h.1 hc
    refine sm_iload_n (Y := mX12_layArcs) (pc := 53) 2 2 rfl rfl dX12_layArcs_53 ?_
    refine sm_if_ne (Y := mX12_layArcs) (pc := 54) 61 (by decide) dX12_layArcs_54 (fun hc => ?_) (fun hc => ?_)
    · replace h := h.1 hc
      refine sm_iload_n (Y := mX12_layArcs) (pc := 61) 2 2 rfl rfl dX12_layArcs_61 ?_
      refine sm_sub [0, 1] rfl ?_
      exact h
    · replace h := h.2 hc
      refine sm_iconst (Y := mX12_layArcs) (pc := 57) 1 (by decide) dX12_layArcs_57 ?_
      refine sm_goto (Y := mX12_layArcs) (pc := 58) 62 (by decide) dX12_layArcs_58 ?_
      refine sm_sub [0, 1] rfl ?_
      exact h
  · replace h := h.2 hc
    refine sm_iload_n (Y := mX12_layArcs) (pc := 36) 2 2 rfl rfl dX12_layArcs_36 ?_
    refine sm_aload_n (Y := mX12_layArcs) (pc := 37) 0 0 rfl rfl dX12_layArcs_37 ?_
    refine gf_RX12_100 (Y := mX12_layArcs) (pc := 38) (b := 138) rfl ((lk_109 hly) _) (lf_109_49 hly _) dX12_layArcs_38 ?_
    refine sm_iload_n (Y := mX12_layArcs) (pc := 41) 3 3 rfl rfl dX12_layArcs_41 ?_
    obtain ⟨hn_2, h⟩ := h
    refine sm_iald (Y := mX12_layArcs) (pc := 42) (la_138 hly _) hn_2 dX12_layArcs_42 ?_
    refine sm_iconst (Y := mX12_layArcs) (pc := 43) 2 (by decide) dX12_layArcs_43 ?_
    refine sm_irem (Y := mX12_layArcs) (pc := 44) (by decide) dX12_layArcs_44 ?_
    refine sm_iadd (Y := mX12_layArcs) (pc := 45) dX12_layArcs_45 ?_
    refine sm_istore_n (Y := mX12_layArcs) (pc := 46) (fun y => [(2, .int y), (0, .ref (sm_B E + 109)), (1, .int x1), (3, .int x3)]) 2 rfl (by decide) (fun _ => rfl) dX12_layArcs_46 (fun x2_3 ex2_3 => ?_)
    replace h := h x2_3 ex2_3
    refine sm_iinc (Y := mX12_layArcs) (pc := 47) (fun y => [(3, .int y), (2, .int x2_3), (0, .ref (sm_B E + 109)), (1, .int x1)]) 3 3 rfl (by decide) (fun _ => rfl) dX12_layArcs_47 (fun x3_4 ex3_4 => ?_)
    replace h := h x3_4 ex3_4
    refine sm_goto (Y := mX12_layArcs) (pc := 50) 24 (by decide) dX12_layArcs_50 ?_
    refine sm_sub [2, 3, 1, 0] rfl ?_
    exact h
theorem dX12_layArcs_7 : decode cX12_layArcs 7 = .ok (.iload_n 1, 1) := dk_iload_n_1 (by decide +kernel)
theorem dX12_layArcs_8 : decode cX12_layArcs 8 = .ok (.aload_n 0, 1) := dk_aload_n_0 (by decide +kernel)
theorem dX12_layArcs_9 : decode cX12_layArcs 9 = .ok (.getfield 305, 3) := dk_getfield 305 (b1 := 1) (b2 := 49) (by decide +kernel) (by decide +kernel) (by decide +kernel) (by decide +kernel)
theorem dX12_layArcs_12 : decode cX12_layArcs 12 = .ok (.if_icmp .ge 175, 3) := dk_if_icmp_ge 175 (b1 := 0) (b2 := 175) (by decide +kernel) (by decide +kernel) (by decide +kernel) (by decide +kernel)
theorem dX12_layArcs_187 : decode cX12_layArcs 187 = .ok (.aload_n 0, 1) := dk_aload_n_0 (by decide +kernel)
theorem dX12_layArcs_188 : decode cX12_layArcs 188 = .ok (.dup, 1) := dk_dup (by decide +kernel)
theorem dX12_layArcs_189 : decode cX12_layArcs 189 = .ok (.getfield 320, 3) := dk_getfield 320 (b1 := 1) (b2 := 64) (by decide +kernel) (by decide +kernel) (by decide +kernel) (by decide +kernel)
theorem dX12_layArcs_192 : decode cX12_layArcs 192 = .ok (.aload_n 0, 1) := dk_aload_n_0 (by decide +kernel)
theorem dX12_layArcs_193 : decode cX12_layArcs 193 = .ok (.getfield 314, 3) := dk_getfield 314 (b1 := 1) (b2 := 58) (by decide +kernel) (by decide +kernel) (by decide +kernel) (by decide +kernel)
theorem dX12_layArcs_196 : decode cX12_layArcs 196 = .ok (.iadd, 1) := dk_iadd (by decide +kernel)
theorem dX12_layArcs_197 : decode cX12_layArcs 197 = .ok (.putfield 320, 3) := dk_putfield 320 (b1 := 1) (b2 := 64) (by decide +kernel) (by decide +kernel) (by decide +kernel) (by decide +kernel)
theorem dX12_layArcs_200 : decode cX12_layArcs 200 = .ok (.return_, 1) := dk_return_ (by decide +kernel)
theorem dX12_layArcs_15 : decode cX12_layArcs 15 = .ok (.iconst 0, 1) := dk_iconst_0 (by decide +kernel)
theorem dX12_layArcs_16 : decode cX12_layArcs 16 = .ok (.istore_n 2, 1) := dk_istore_n_2 (by decide +kernel)
theorem dX12_layArcs_17 : decode cX12_layArcs 17 = .ok (.aload_n 0, 1) := dk_aload_n_0 (by decide +kernel)
theorem dX12_layArcs_18 : decode cX12_layArcs 18 = .ok (.getfield 103, 3) := dk_getfield 103 (b1 := 0) (b2 := 103) (by decide +kernel) (by decide +kernel) (by decide +kernel) (by decide +kernel)
theorem dX12_layArcs_21 : decode cX12_layArcs 21 = .ok (.iload_n 1, 1) := dk_iload_n_1 (by decide +kernel)
theorem dX12_layArcs_22 : decode cX12_layArcs 22 = .ok (.iaload, 1) := dk_iaload (by decide +kernel)
theorem dX12_layArcs_23 : decode cX12_layArcs 23 = .ok (.istore_n 3, 1) := dk_istore_n_3 (by decide +kernel)
set_option maxRecDepth 20000 in
theorem vX12_layArcs_7 {E : sm_E} {L : sm_S → Prop} {d : Nat} {vs : List Value} {x1 : Int32}  {m : sm_M} {Q : sm_M → Prop} (hly : ∀ S, L S → ly S) (hd : 1 ≤ d) 
  (h : ((m.1 109 52) ≤ x1 →
      ∀ m_1 : sm_M, m_1 = sm_wI m 109 58 ((m.1 109 58) + (m.1 109 54)) →
      Q m_1) ∧
   (¬ (m.1 109 52) ≤ x1 →
      (vp_in x1 50) ∧ ∀ x3_4 : Int32, x3_4 = m.1 139 x1.toNatClampNeg →
      gX12_layArcs_24 E L d vs x1 0 x3_4 m Q)) :
  gX12_layArcs_7 E L d vs x1 m Q := by
  refine sm_iload_n (Y := mX12_layArcs) (pc := 7) 1 1 rfl rfl dX12_layArcs_7 ?_
  refine sm_aload_n (Y := mX12_layArcs) (pc := 8) 0 0 rfl rfl dX12_layArcs_8 ?_
  refine gf_RX12_305 (Y := mX12_layArcs) (pc := 9) rfl ((lk_109 hly) _) dX12_layArcs_9 ?_
  refine sm_icmp_ge (Y := mX12_layArcs) (pc := 12) 187 (by decide) dX12_layArcs_12 (fun hc => ?_) (fun hc => ?_)
  · replace h := h.1 hc
    refine sm_aload_n (Y := mX12_layArcs) (pc := 187) 0 0 rfl rfl dX12_layArcs_187 ?_
    refine sm_dup (Y := mX12_layArcs) (pc := 188) rfl dX12_layArcs_188 ?_
    refine gf_RX12_320 (Y := mX12_layArcs) (pc := 189) rfl ((lk_109 hly) _) dX12_layArcs_189 ?_
    refine sm_aload_n (Y := mX12_layArcs) (pc := 192) 0 0 rfl rfl dX12_layArcs_192 ?_
    refine gf_RX12_314 (Y := mX12_layArcs) (pc := 193) rfl ((lk_109 hly) _) dX12_layArcs_193 ?_
    refine sm_iadd (Y := mX12_layArcs) (pc := 196) dX12_layArcs_196 ?_
    refine pf_RX12_320 (Y := mX12_layArcs) (pc := 197) rfl ((lk_109 hly) _) dX12_layArcs_197 (fun m_1 em_1 => ?_)
    replace h := h m_1 em_1
    exact sm_vret (Y := mX12_layArcs) (pc := 200) rfl rfl rfl dX12_layArcs_200 ⟨rfl, h⟩
  · replace h := h.2 hc
    refine sm_iconst (Y := mX12_layArcs) (pc := 15) 0 (by decide) dX12_layArcs_15 ?_
    refine sm_istore0_n (Y := mX12_layArcs) (pc := 16) [(2, .int 0), (0, .ref (sm_B E + 109)), (1, .int x1)] 2 rfl (by decide) rfl dX12_layArcs_16 ?_
    refine sm_aload_n (Y := mX12_layArcs) (pc := 17) 1 0 rfl rfl dX12_layArcs_17 ?_
    refine gf_RX12_103 (Y := mX12_layArcs) (pc := 18) (b := 139) rfl ((lk_109 hly) _) (lf_109_50 hly _) dX12_layArcs_18 ?_
    refine sm_iload_n (Y := mX12_layArcs) (pc := 21) 2 1 rfl rfl dX12_layArcs_21 ?_
    obtain ⟨hn_3, h⟩ := h
    refine sm_iald (Y := mX12_layArcs) (pc := 22) (la_139 hly _) hn_3 dX12_layArcs_22 ?_
    refine sm_istore_n (Y := mX12_layArcs) (pc := 23) (fun y => [(3, .int y), (2, .int 0), (0, .ref (sm_B E + 109)), (1, .int x1)]) 3 rfl (by decide) (fun _ => rfl) dX12_layArcs_23 (fun x3_4 ex3_4 => ?_)
    replace h := h x3_4 ex3_4
    refine sm_sub [2, 3, 1, 0] rfl ?_
    exact h
theorem dX12_layArcs_0 : decode cX12_layArcs 0 = .ok (.aload_n 0, 1) := dk_aload_n_0 (by decide +kernel)
theorem dX12_layArcs_1 : decode cX12_layArcs 1 = .ok (.iconst 0, 1) := dk_iconst_0 (by decide +kernel)
theorem dX12_layArcs_2 : decode cX12_layArcs 2 = .ok (.putfield 320, 3) := dk_putfield 320 (b1 := 1) (b2 := 64) (by decide +kernel) (by decide +kernel) (by decide +kernel) (by decide +kernel)
theorem dX12_layArcs_5 : decode cX12_layArcs 5 = .ok (.iconst 0, 1) := dk_iconst_0 (by decide +kernel)
theorem dX12_layArcs_6 : decode cX12_layArcs 6 = .ok (.istore_n 1, 1) := dk_istore_n_1 (by decide +kernel)
set_option maxRecDepth 20000 in
theorem vX12_layArcs_0 {E : sm_E} {L : sm_S → Prop} {d : Nat}   {m : sm_M} {Q : sm_M → Prop} (hly : ∀ S, L S → ly S) (hd : 1 ≤ d) 
  (h : ∀ m_1 : sm_M, m_1 = sm_wI m 109 58 0 →
   gX12_layArcs_7 E L d ([.ref (sm_B E + 109)]) 0 m_1 Q) :
  sm_callV E L mX12_layArcs d 0 0 [.ref (sm_B E + 109)] m Q := by
  refine sm_enter (by decide +kernel) (by simp [lg_sl, Value.category]) ?_
  refine sm_aload_n (Y := mX12_layArcs) (pc := 0) 0 0 rfl rfl dX12_layArcs_0 ?_
  refine sm_iconst (Y := mX12_layArcs) (pc := 1) 0 (by decide) dX12_layArcs_1 ?_
  refine pf_RX12_320 (Y := mX12_layArcs) (pc := 2) rfl ((lk_109 hly) _) dX12_layArcs_2 (fun m_1 em_1 => ?_)
  replace h := h m_1 em_1
  refine sm_iconst (Y := mX12_layArcs) (pc := 5) 0 (by decide) dX12_layArcs_5 ?_
  refine sm_istore0_n (Y := mX12_layArcs) (pc := 6) [(1, .int 0), (0, .ref (sm_B E + 109))] 1 rfl (by decide) rfl dX12_layArcs_6 ?_
  refine sm_sub [1, 0] rfl ?_
  exact h
abbrev mX12_link : sm_Y := (yX12_link, cX12_link, 7, (some FieldType.int))
theorem fX12_link : sm_mi mX12_link RX12 3 := ⟨sm_in 1508 (by decide +kernel) (by decide +kernel), sm_in 1506 (by decide +kernel) (by decide +kernel), sm_in 1507 (by decide +kernel) (by decide +kernel), sm_in 93 (by decide +kernel) (by decide +kernel), rfl, ⟨by decide +kernel, by decide +kernel, by decide +kernel⟩, by decide⟩
def gX12_link_94 (E : sm_E) (L : sm_S → Prop) (d : Nat) (vs : List Value) (x3 : Int32) (x4 : Int32) (s0 : Int64) (m : sm_M) (Q : Int32 → sm_M → Prop) : Prop := sm_go E L mX12_link d 0 0 vs 94 [(0, .ref (sm_B E + 109)), (3, .int x3), (4, .int x4)] [.long s0] m 0 0 (sm_Z E L vs 0 0 (sm_QI Q))
def gX12_link_48 (E : sm_E) (L : sm_S → Prop) (d : Nat) (vs : List Value) (x1 : Int32) (x2 : Int32) (x3 : Int32) (x4 : Int32) (x5 : Int32) (m : sm_M) (Q : Int32 → sm_M → Prop) : Prop := sm_go E L mX12_link d 0 0 vs 48 [(0, .ref (sm_B E + 109)), (1, .int x1), (2, .int x2), (3, .int x3), (4, .int x4), (5, .int x5)] [] m 0 0 (sm_Z E L vs 0 0 (sm_QI Q))
theorem dX12_link_94 : decode cX12_link 94 = .ok (.lstore 5, 2) := dk_lstore 5 (b := 5) (by decide +kernel) (by decide +kernel) (by decide +kernel)
theorem dX12_link_96 : decode cX12_link 96 = .ok (.iload_n 3, 1) := dk_iload_n_3 (by decide +kernel)
theorem dX12_link_97 : decode cX12_link 97 = .ok (.ifCond .ne 10, 3) := dk_ifCond_ne 10 (b1 := 0) (b2 := 10) (by decide +kernel) (by decide +kernel) (by decide +kernel) (by decide +kernel)
theorem dX12_link_107 : decode cX12_link 107 = .ok (.iload_n 3, 1) := dk_iload_n_3 (by decide +kernel)
theorem dX12_link_108 : decode cX12_link 108 = .ok (.iconst 1, 1) := dk_iconst_1 (by decide +kernel)
theorem dX12_link_109 : decode cX12_link 109 = .ok (.if_icmp .ne 10, 3) := dk_if_icmp_ne 10 (b1 := 0) (b2 := 10) (by decide +kernel) (by decide +kernel) (by decide +kernel) (by decide +kernel)
theorem dX12_link_119 : decode cX12_link 119 = .ok (.iload_n 3, 1) := dk_iload_n_3 (by decide +kernel)
theorem dX12_link_120 : decode cX12_link 120 = .ok (.iconst 2, 1) := dk_iconst_2 (by decide +kernel)
theorem dX12_link_121 : decode cX12_link 121 = .ok (.if_icmp .ne 10, 3) := dk_if_icmp_ne 10 (b1 := 0) (b2 := 10) (by decide +kernel) (by decide +kernel) (by decide +kernel) (by decide +kernel)
theorem dX12_link_131 : decode cX12_link 131 = .ok (.iload_n 3, 1) := dk_iload_n_3 (by decide +kernel)
theorem dX12_link_132 : decode cX12_link 132 = .ok (.iconst 3, 1) := dk_iconst_3 (by decide +kernel)
theorem dX12_link_133 : decode cX12_link 133 = .ok (.if_icmp .ne 8, 3) := dk_if_icmp_ne 8 (b1 := 0) (b2 := 8) (by decide +kernel) (by decide +kernel) (by decide +kernel) (by decide +kernel)
theorem dX12_link_141 : decode cX12_link 141 = .ok (.lload 5, 2) := dk_lload 5 (b := 5) (by decide +kernel) (by decide +kernel) (by decide +kernel)
theorem dX12_link_143 : decode cX12_link 143 = .ok (.lconst 0, 1) := dk_lconst_0 (by decide +kernel)
theorem dX12_link_144 : decode cX12_link 144 = .ok (.lcmp, 1) := dk_lcmp (by decide +kernel)
theorem dX12_link_145 : decode cX12_link 145 = .ok (.ifCond .ge 9, 3) := dk_ifCond_ge 9 (b1 := 0) (b2 := 9) (by decide +kernel) (by decide +kernel) (by decide +kernel) (by decide +kernel)
theorem dX12_link_154 : decode cX12_link 154 = .ok (.lload 5, 2) := dk_lload 5 (b := 5) (by decide +kernel) (by decide +kernel) (by decide +kernel)
theorem dX12_link_156 : decode cX12_link 156 = .ok (.l2i, 1) := dk_l2i (by decide +kernel)
theorem dX12_link_157 : decode cX12_link 157 = .ok (.ireturn, 1) := dk_ireturn (by decide +kernel)
theorem dX12_link_148 : decode cX12_link 148 = .ok (.lload 5, 2) := dk_lload 5 (b := 5) (by decide +kernel) (by decide +kernel) (by decide +kernel)
theorem dX12_link_150 : decode cX12_link 150 = .ok (.lneg, 1) := dk_lneg (by decide +kernel)
theorem dX12_link_151 : decode cX12_link 151 = .ok (.goto 5, 3) := dk_goto 5 (b1 := 0) (b2 := 5) (by decide +kernel) (by decide +kernel) (by decide +kernel) (by decide +kernel)
theorem dX12_link_136 : decode cX12_link 136 = .ok (.iload 4, 2) := dk_iload 4 (b := 4) (by decide +kernel) (by decide +kernel) (by decide +kernel)
theorem dX12_link_138 : decode cX12_link 138 = .ok (.goto 19, 3) := dk_goto 19 (b1 := 0) (b2 := 19) (by decide +kernel) (by decide +kernel) (by decide +kernel) (by decide +kernel)
theorem dX12_link_124 : decode cX12_link 124 = .ok (.aload_n 0, 1) := dk_aload_n_0 (by decide +kernel)
theorem dX12_link_125 : decode cX12_link 125 = .ok (.getfield 320, 3) := dk_getfield 320 (b1 := 1) (b2 := 64) (by decide +kernel) (by decide +kernel) (by decide +kernel) (by decide +kernel)
theorem dX12_link_128 : decode cX12_link 128 = .ok (.goto 29, 3) := dk_goto 29 (b1 := 0) (b2 := 29) (by decide +kernel) (by decide +kernel) (by decide +kernel) (by decide +kernel)
theorem dX12_link_112 : decode cX12_link 112 = .ok (.aload_n 0, 1) := dk_aload_n_0 (by decide +kernel)
theorem dX12_link_113 : decode cX12_link 113 = .ok (.getfield 314, 3) := dk_getfield 314 (b1 := 1) (b2 := 58) (by decide +kernel) (by decide +kernel) (by decide +kernel) (by decide +kernel)
theorem dX12_link_116 : decode cX12_link 116 = .ok (.goto 41, 3) := dk_goto 41 (b1 := 0) (b2 := 41) (by decide +kernel) (by decide +kernel) (by decide +kernel) (by decide +kernel)
theorem dX12_link_100 : decode cX12_link 100 = .ok (.aload_n 0, 1) := dk_aload_n_0 (by decide +kernel)
theorem dX12_link_101 : decode cX12_link 101 = .ok (.getfield 305, 3) := dk_getfield 305 (b1 := 1) (b2 := 49) (by decide +kernel) (by decide +kernel) (by decide +kernel) (by decide +kernel)
theorem dX12_link_104 : decode cX12_link 104 = .ok (.goto 53, 3) := dk_goto 53 (b1 := 0) (b2 := 53) (by decide +kernel) (by decide +kernel) (by decide +kernel) (by decide +kernel)
set_option maxRecDepth 20000 in
theorem vX12_link_94 {E : sm_E} {L : sm_S → Prop} {d : Nat} {vs : List Value} {x3 : Int32} {x4 : Int32} {s0 : Int64}  {m : sm_M} {Q : Int32 → sm_M → Prop} (hly : ∀ S, L S → ly S) (hd : 5 ≤ d) 
  (h : (¬ x3 = 0 →
      (¬ x3 = 1 →
         (¬ x3 = 2 →
            (¬ x3 = 3 →
               (0 ≤ s0 →
                  Q (s0.toInt32) m) ∧
               (¬ 0 ≤ s0 →
                  Q ((-s0).toInt32) m)) ∧
            (x3 = 3 →
               Q x4 m)) ∧
         (x3 = 2 →
            Q (m.1 109 58) m)) ∧
      (x3 = 1 →
         Q (m.1 109 54) m)) ∧
   (x3 = 0 →
      Q (m.1 109 52) m)) :
  gX12_link_94 E L d vs x3 x4 s0 m Q := by
  refine sm_lstore0 (Y := mX12_link) (pc := 94) [(5, .long s0), (0, .ref (sm_B E + 109)), (3, .int x3), (4, .int x4)] 5 (by decide) rfl dX12_link_94 ?_
  refine sm_iload_n (Y := mX12_link) (pc := 96) 2 3 rfl rfl dX12_link_96 ?_
  refine sm_if_ne (Y := mX12_link) (pc := 97) 107 (by decide) dX12_link_97 (fun hc => ?_) (fun hc => ?_)
  · replace h := h.1 hc
    refine sm_iload_n (Y := mX12_link) (pc := 107) 2 3 rfl rfl dX12_link_107 ?_
    refine sm_iconst (Y := mX12_link) (pc := 108) 1 (by decide) dX12_link_108 ?_
    refine sm_icmp_ne (Y := mX12_link) (pc := 109) 119 (by decide) dX12_link_109 (fun hc => ?_) (fun hc => ?_)
    · replace h := h.1 hc
      refine sm_iload_n (Y := mX12_link) (pc := 119) 2 3 rfl rfl dX12_link_119 ?_
      refine sm_iconst (Y := mX12_link) (pc := 120) 2 (by decide) dX12_link_120 ?_
      refine sm_icmp_ne (Y := mX12_link) (pc := 121) 131 (by decide) dX12_link_121 (fun hc => ?_) (fun hc => ?_)
      · replace h := h.1 hc
        refine sm_iload_n (Y := mX12_link) (pc := 131) 2 3 rfl rfl dX12_link_131 ?_
        refine sm_iconst (Y := mX12_link) (pc := 132) 3 (by decide) dX12_link_132 ?_
        refine sm_icmp_ne (Y := mX12_link) (pc := 133) 141 (by decide) dX12_link_133 (fun hc => ?_) (fun hc => ?_)
        · replace h := h.1 hc
          refine sm_lload (Y := mX12_link) (pc := 141) 0 5 rfl dX12_link_141 ?_
          refine sm_lconst (Y := mX12_link) (pc := 143) 0 (by decide) dX12_link_143 ?_
          refine sm_lif_ge (Y := mX12_link) (pc := 144) 154 (by decide) dX12_link_144 dX12_link_145 (fun hc => ?_) (fun hc => ?_)
          · replace h := h.1 hc
            refine sm_lload (Y := mX12_link) (pc := 154) 0 5 rfl dX12_link_154 ?_
            refine sm_l2i (Y := mX12_link) (pc := 156) dX12_link_156 ?_
            exact sm_iret (Y := mX12_link) (pc := 157) rfl rfl rfl dX12_link_157 ⟨_, rfl, h⟩
          · replace h := h.2 hc
            refine sm_lload (Y := mX12_link) (pc := 148) 0 5 rfl dX12_link_148 ?_
            refine sm_lneg (Y := mX12_link) (pc := 150) dX12_link_150 ?_
            refine sm_goto (Y := mX12_link) (pc := 151) 156 (by decide) dX12_link_151 ?_
            refine sm_l2i (Y := mX12_link) (pc := 156) dX12_link_156 ?_
            exact sm_iret (Y := mX12_link) (pc := 157) rfl rfl rfl dX12_link_157 ⟨_, rfl, h⟩
        · replace h := h.2 hc
          refine sm_iload (Y := mX12_link) (pc := 136) 3 4 rfl dX12_link_136 ?_
          refine sm_goto (Y := mX12_link) (pc := 138) 157 (by decide) dX12_link_138 ?_
          exact sm_iret (Y := mX12_link) (pc := 157) rfl rfl rfl dX12_link_157 ⟨_, rfl, h⟩
      · replace h := h.2 hc
        refine sm_aload_n (Y := mX12_link) (pc := 124) 1 0 rfl rfl dX12_link_124 ?_
        refine gf_RX12_320 (Y := mX12_link) (pc := 125) rfl ((lk_109 hly) _) dX12_link_125 ?_
        refine sm_goto (Y := mX12_link) (pc := 128) 157 (by decide) dX12_link_128 ?_
        exact sm_iret (Y := mX12_link) (pc := 157) rfl rfl rfl dX12_link_157 ⟨_, rfl, h⟩
    · replace h := h.2 hc
      refine sm_aload_n (Y := mX12_link) (pc := 112) 1 0 rfl rfl dX12_link_112 ?_
      refine gf_RX12_314 (Y := mX12_link) (pc := 113) rfl ((lk_109 hly) _) dX12_link_113 ?_
      refine sm_goto (Y := mX12_link) (pc := 116) 157 (by decide) dX12_link_116 ?_
      exact sm_iret (Y := mX12_link) (pc := 157) rfl rfl rfl dX12_link_157 ⟨_, rfl, h⟩
  · replace h := h.2 hc
    refine sm_aload_n (Y := mX12_link) (pc := 100) 1 0 rfl rfl dX12_link_100 ?_
    refine gf_RX12_305 (Y := mX12_link) (pc := 101) rfl ((lk_109 hly) _) dX12_link_101 ?_
    refine sm_goto (Y := mX12_link) (pc := 104) 157 (by decide) dX12_link_104 ?_
    exact sm_iret (Y := mX12_link) (pc := 157) rfl rfl rfl dX12_link_157 ⟨_, rfl, h⟩
theorem dX12_link_48 : decode cX12_link 48 = .ok (.iload 5, 2) := dk_iload 5 (b := 5) (by decide +kernel) (by decide +kernel) (by decide +kernel)
theorem dX12_link_50 : decode cX12_link 50 = .ok (.aload_n 0, 1) := dk_aload_n_0 (by decide +kernel)
theorem dX12_link_51 : decode cX12_link 51 = .ok (.getfield 286, 3) := dk_getfield 286 (b1 := 1) (b2 := 30) (by decide +kernel) (by decide +kernel) (by decide +kernel) (by decide +kernel)
theorem dX12_link_54 : decode cX12_link 54 = .ok (.if_icmp .ge 20, 3) := dk_if_icmp_ge 20 (b1 := 0) (b2 := 20) (by decide +kernel) (by decide +kernel) (by decide +kernel) (by decide +kernel)
theorem dX12_link_74 : decode cX12_link 74 = .ok (.aload_n 0, 1) := dk_aload_n_0 (by decide +kernel)
theorem dX12_link_75 : decode cX12_link 75 = .ok (.iload_n 1, 1) := dk_iload_n_1 (by decide +kernel)
theorem dX12_link_76 : decode cX12_link 76 = .ok (.invokevirtual 176, 3) := dk_invokevirtual 176 (b1 := 0) (b2 := 176) (by decide +kernel) (by decide +kernel) (by decide +kernel) (by decide +kernel)
theorem dX12_link_79 : decode cX12_link 79 = .ok (.iload_n 2, 1) := dk_iload_n_2 (by decide +kernel)
theorem dX12_link_80 : decode cX12_link 80 = .ok (.ifCond .ne 10, 3) := dk_ifCond_ne 10 (b1 := 0) (b2 := 10) (by decide +kernel) (by decide +kernel) (by decide +kernel) (by decide +kernel)
theorem dX12_link_90 : decode cX12_link 90 = .ok (.aload_n 0, 1) := dk_aload_n_0 (by decide +kernel)
theorem dX12_link_91 : decode cX12_link 91 = .ok (.getfield 152, 3) := dk_getfield 152 (b1 := 0) (b2 := 152) (by decide +kernel) (by decide +kernel) (by decide +kernel) (by decide +kernel)
theorem dX12_link_83 : decode cX12_link 83 = .ok (.aload_n 0, 1) := dk_aload_n_0 (by decide +kernel)
theorem dX12_link_84 : decode cX12_link 84 = .ok (.getfield 148, 3) := dk_getfield 148 (b1 := 0) (b2 := 148) (by decide +kernel) (by decide +kernel) (by decide +kernel) (by decide +kernel)
theorem dX12_link_87 : decode cX12_link 87 = .ok (.goto 7, 3) := dk_goto 7 (b1 := 0) (b2 := 7) (by decide +kernel) (by decide +kernel) (by decide +kernel) (by decide +kernel)
theorem dX12_link_57 : decode cX12_link 57 = .ok (.iload 4, 2) := dk_iload 4 (b := 4) (by decide +kernel) (by decide +kernel) (by decide +kernel)
theorem dX12_link_59 : decode cX12_link 59 = .ok (.aload_n 0, 1) := dk_aload_n_0 (by decide +kernel)
theorem dX12_link_60 : decode cX12_link 60 = .ok (.iload 5, 2) := dk_iload 5 (b := 5) (by decide +kernel) (by decide +kernel) (by decide +kernel)
theorem wRX12_331 : Cond.methodLink RX12 331 yX12_signOf ∈ sm_T := sm_in 1542 (by decide +kernel) (by decide +kernel)
theorem dX12_link_62 : decode cX12_link 62 = .ok (.invokevirtual 331, 3) := dk_invokevirtual 331 (b1 := 1) (b2 := 75) (by decide +kernel) (by decide +kernel) (by decide +kernel) (by decide +kernel)
theorem dX12_link_65 : decode cX12_link 65 = .ok (.iadd, 1) := dk_iadd (by decide +kernel)
theorem dX12_link_66 : decode cX12_link 66 = .ok (.istore 4, 2) := dk_istore 4 (b := 4) (by decide +kernel) (by decide +kernel) (by decide +kernel)
theorem dX12_link_68 : decode cX12_link 68 = .ok (.iinc 5 1, 3) := dk_iinc 5 1 (b1 := 5) (b2 := 1) (by decide +kernel) (by decide +kernel) (by decide +kernel) (by decide +kernel) (by decide +kernel)
theorem dX12_link_71 : decode cX12_link 71 = .ok (.goto (-23), 3) := dk_goto (-23) (b1 := 255) (b2 := 233) (by decide +kernel) (by decide +kernel) (by decide +kernel) (by decide +kernel)
set_option maxRecDepth 20000 in
theorem vX12_link_48 {E : sm_E} {L : sm_S → Prop} {d : Nat} {vs : List Value} {x1 : Int32} {x2 : Int32} {x3 : Int32} {x4 : Int32} {x5 : Int32}  {m : sm_M} {Q : Int32 → sm_M → Prop} (hly : ∀ S, L S → ly S) (hd : 5 ≤ d) 
  (h : ((m.1 109 45) ≤ x5 →
      sm_callV E L mX12_measured 3 0 0 [.ref (sm_B E + 109), .int x1] m (fun m_1 =>
      (¬ x2 = 0 →
         gX12_link_94 E L d vs x3 x4 (m_1.2.1 109 24) m_1 Q) ∧
      (x2 = 0 →
         gX12_link_94 E L d vs x3 x4 (m_1.2.1 109 23) m_1 Q))) ∧
   (¬ (m.1 109 45) ≤ x5 →
      sm_callI E L mX12_signOf 1 0 0 [.ref (sm_B E + 109), .int x5] m (fun r_3 m_2 =>
      ∀ x4_4 : Int32, x4_4 = x4 + r_3 →
      ∀ x5_5 : Int32, x5_5 = x5 + 1 →
      gX12_link_48 E L d vs x1 x2 x3 x4_4 x5_5 m_2 Q))) :
  gX12_link_48 E L d vs x1 x2 x3 x4 x5 m Q := by
  refine sm_iload (Y := mX12_link) (pc := 48) 5 5 rfl dX12_link_48 ?_
  refine sm_aload_n (Y := mX12_link) (pc := 50) 0 0 rfl rfl dX12_link_50 ?_
  refine gf_RX12_286 (Y := mX12_link) (pc := 51) rfl ((lk_109 hly) _) dX12_link_51 ?_
  refine sm_icmp_ge (Y := mX12_link) (pc := 54) 74 (by decide) dX12_link_54 (fun hc => ?_) (fun hc => ?_)
  · replace h := h.1 hc
    refine sm_aload_n (Y := mX12_link) (pc := 74) 0 0 rfl rfl dX12_link_74 ?_
    refine sm_iload_n (Y := mX12_link) (pc := 75) 1 1 rfl rfl dX12_link_75 ?_
    refine sm_iv_V (Y := mX12_link) (pc := 76) (As := [.int x1]) (a := 109) fX12_measured wRX12_176 (lk_109 hly) (by decide) rfl rfl rfl (Nat.le_trans (by decide) hd) (Nat.le_of_ble_eq_true rfl) ⟨Nat.le_refl _, Nat.le_refl _⟩ dX12_link_76 rfl (sm_monoV h (fun m_1 h => ?_))
    refine sm_iload_n (Y := mX12_link) (pc := 79) 2 2 rfl rfl dX12_link_79 ?_
    refine sm_if_ne (Y := mX12_link) (pc := 80) 90 (by decide) dX12_link_80 (fun hc => ?_) (fun hc => ?_)
    · replace h := h.1 hc
      refine sm_aload_n (Y := mX12_link) (pc := 90) 0 0 rfl rfl dX12_link_90 ?_
      refine gf_RX12_152 (Y := mX12_link) (pc := 91) rfl ((lk_109 hly) _) dX12_link_91 ?_
      refine sm_sub [0, 3, 4] rfl ?_
      exact h
    · replace h := h.2 hc
      refine sm_aload_n (Y := mX12_link) (pc := 83) 0 0 rfl rfl dX12_link_83 ?_
      refine gf_RX12_148 (Y := mX12_link) (pc := 84) rfl ((lk_109 hly) _) dX12_link_84 ?_
      refine sm_goto (Y := mX12_link) (pc := 87) 94 (by decide) dX12_link_87 ?_
      refine sm_sub [0, 3, 4] rfl ?_
      exact h
  · replace h := h.2 hc
    refine sm_iload (Y := mX12_link) (pc := 57) 4 4 rfl dX12_link_57 ?_
    refine sm_aload_n (Y := mX12_link) (pc := 59) 0 0 rfl rfl dX12_link_59 ?_
    refine sm_iload (Y := mX12_link) (pc := 60) 5 5 rfl dX12_link_60 ?_
    refine sm_iv_I (Y := mX12_link) (pc := 62) (As := [.int x5]) (a := 109) fX12_signOf wRX12_331 (lk_109 hly) (by decide) rfl rfl rfl (Nat.le_trans (by decide) hd) (Nat.le_of_ble_eq_true rfl) ⟨Nat.le_refl _, Nat.le_refl _⟩ dX12_link_62 rfl (sm_monoI h (fun r_3 m_2 h => ?_))
    refine sm_iadd (Y := mX12_link) (pc := 65) dX12_link_65 ?_
    refine sm_istore (Y := mX12_link) (pc := 66) (fun y => [(4, .int y), (0, .ref (sm_B E + 109)), (1, .int x1), (2, .int x2), (3, .int x3), (5, .int x5)]) 4 (by decide) (fun _ => rfl) dX12_link_66 (fun x4_4 ex4_4 => ?_)
    replace h := h x4_4 ex4_4
    refine sm_iinc (Y := mX12_link) (pc := 68) (fun y => [(5, .int y), (4, .int x4_4), (0, .ref (sm_B E + 109)), (1, .int x1), (2, .int x2), (3, .int x3)]) 5 5 rfl (by decide) (fun _ => rfl) dX12_link_68 (fun x5_5 ex5_5 => ?_)
    replace h := h x5_5 ex5_5
    refine sm_goto (Y := mX12_link) (pc := 71) 48 (by decide) dX12_link_71 ?_
    refine sm_sub [2, 3, 4, 5, 1, 0] rfl ?_
    exact h
theorem dX12_link_0 : decode cX12_link 0 = .ok (.iload_n 1, 1) := dk_iload_n_1 (by decide +kernel)
theorem dX12_link_1 : decode cX12_link 1 = .ok (.invokestatic 184, 3) := dk_invokestatic 184 (b1 := 0) (b2 := 184) (by decide +kernel) (by decide +kernel) (by decide +kernel) (by decide +kernel)
theorem dX12_link_4 : decode cX12_link 4 = .ok (.ifCond .eq 22, 3) := dk_ifCond_eq 22 (b1 := 0) (b2 := 22) (by decide +kernel) (by decide +kernel) (by decide +kernel) (by decide +kernel)
theorem dX12_link_26 : decode cX12_link 26 = .ok (.aload_n 0, 1) := dk_aload_n_0 (by decide +kernel)
theorem dX12_link_27 : decode cX12_link 27 = .ok (.iconst 1, 1) := dk_iconst_1 (by decide +kernel)
theorem dX12_link_28 : decode cX12_link 28 = .ok (.invokevirtual 194, 3) := dk_invokevirtual 194 (b1 := 0) (b2 := 194) (by decide +kernel) (by decide +kernel) (by decide +kernel) (by decide +kernel)
theorem dX12_link_31 : decode cX12_link 31 = .ok (.ireturn, 1) := dk_ireturn (by decide +kernel)
theorem dX12_link_7 : decode cX12_link 7 = .ok (.iload_n 2, 1) := dk_iload_n_2 (by decide +kernel)
theorem dX12_link_8 : decode cX12_link 8 = .ok (.invokestatic 214, 3) := dk_invokestatic 214 (b1 := 0) (b2 := 214) (by decide +kernel) (by decide +kernel) (by decide +kernel) (by decide +kernel)
theorem dX12_link_11 : decode cX12_link 11 = .ok (.ifCond .eq 15, 3) := dk_ifCond_eq 15 (b1 := 0) (b2 := 15) (by decide +kernel) (by decide +kernel) (by decide +kernel) (by decide +kernel)
theorem dX12_link_14 : decode cX12_link 14 = .ok (.iload_n 3, 1) := dk_iload_n_3 (by decide +kernel)
theorem dX12_link_15 : decode cX12_link 15 = .ok (.i2l, 1) := dk_i2l (by decide +kernel)
theorem dX12_link_16 : decode cX12_link 16 = .ok (.lconst 0, 1) := dk_lconst_0 (by decide +kernel)
theorem wRX12_323 : Cond.constantLong RX12 323 4 ∈ sm_T := sm_in 1509 (by decide +kernel) (by decide +kernel)
theorem dX12_link_17 : decode cX12_link 17 = .ok (.ldc2_w 323, 3) := dk_ldc2_w 323 (b1 := 1) (b2 := 67) (by decide +kernel) (by decide +kernel) (by decide +kernel) (by decide +kernel)
theorem dX12_link_20 : decode cX12_link 20 = .ok (.invokestatic 190, 3) := dk_invokestatic 190 (b1 := 0) (b2 := 190) (by decide +kernel) (by decide +kernel) (by decide +kernel) (by decide +kernel)
theorem dX12_link_23 : decode cX12_link 23 = .ok (.ifCond .ne 9, 3) := dk_ifCond_ne 9 (b1 := 0) (b2 := 9) (by decide +kernel) (by decide +kernel) (by decide +kernel) (by decide +kernel)
theorem dX12_link_32 : decode cX12_link 32 = .ok (.aload_n 0, 1) := dk_aload_n_0 (by decide +kernel)
theorem dX12_link_33 : decode cX12_link 33 = .ok (.iload_n 1, 1) := dk_iload_n_1 (by decide +kernel)
theorem dX12_link_34 : decode cX12_link 34 = .ok (.iload_n 2, 1) := dk_iload_n_2 (by decide +kernel)
theorem wRX12_325 : Cond.methodLink RX12 325 yX12_curves ∈ sm_T := sm_in 1510 (by decide +kernel) (by decide +kernel)
theorem dX12_link_35 : decode cX12_link 35 = .ok (.invokevirtual 325, 3) := dk_invokevirtual 325 (b1 := 1) (b2 := 69) (by decide +kernel) (by decide +kernel) (by decide +kernel) (by decide +kernel)
theorem dX12_link_38 : decode cX12_link 38 = .ok (.aload_n 0, 1) := dk_aload_n_0 (by decide +kernel)
theorem wRX12_328 : Cond.methodLink RX12 328 yX12_layArcs ∈ sm_T := sm_in 1538 (by decide +kernel) (by decide +kernel)
theorem dX12_link_39 : decode cX12_link 39 = .ok (.invokevirtual 328, 3) := dk_invokevirtual 328 (b1 := 1) (b2 := 72) (by decide +kernel) (by decide +kernel) (by decide +kernel) (by decide +kernel)
theorem dX12_link_42 : decode cX12_link 42 = .ok (.iconst 0, 1) := dk_iconst_0 (by decide +kernel)
theorem dX12_link_43 : decode cX12_link 43 = .ok (.istore 4, 2) := dk_istore 4 (b := 4) (by decide +kernel) (by decide +kernel) (by decide +kernel)
theorem dX12_link_45 : decode cX12_link 45 = .ok (.iconst 0, 1) := dk_iconst_0 (by decide +kernel)
theorem dX12_link_46 : decode cX12_link 46 = .ok (.istore 5, 2) := dk_istore 5 (b := 5) (by decide +kernel) (by decide +kernel) (by decide +kernel)
set_option maxRecDepth 20000 in
theorem vX12_link_0 {E : sm_E} {L : sm_S → Prop} {d : Nat} {x1 : Int32} {x2 : Int32} {x3 : Int32}  {m : sm_M} {Q : Int32 → sm_M → Prop} (hly : ∀ S, L S → ly S) (hd : 5 ≤ d) 
  (h : sm_callI E L mX12_isSlot 1 0 0 [.int x1] m (fun r_2 m_1 =>
   (r_2 = 0 →
      sm_callI E L mX12_finds 1 0 0 [.ref (sm_B E + 109), .int 1] m_1 (fun r_4 m_3 =>
      Q r_4 m_3)) ∧
   (¬ r_2 = 0 →
      sm_callI E L mX12_isPart 1 0 0 [.int x2] m_1 (fun r_6 m_5 =>
      (r_6 = 0 →
         sm_callI E L mX12_finds 1 0 0 [.ref (sm_B E + 109), .int 1] m_5 (fun r_8 m_7 =>
         Q r_8 m_7)) ∧
      (¬ r_6 = 0 →
         sm_callI E L mX12_isIn 1 0 0 [.long (x3.toInt64), .long 0, .long 4] m_5 (fun r_10 m_9 =>
         (¬ r_10 = 0 →
            sm_callV E L mX12_curves 4 0 0 [.ref (sm_B E + 109), .int x1, .int x2] m_9 (fun m_11 =>
            sm_callV E L mX12_layArcs 1 0 0 [.ref (sm_B E + 109)] m_11 (fun m_12 =>
            gX12_link_48 E L d ([.ref (sm_B E + 109), .int x1, .int x2, .int x3]) x1 x2 x3 0 0 m_12 Q))) ∧
         (r_10 = 0 →
            sm_callI E L mX12_finds 1 0 0 [.ref (sm_B E + 109), .int 1] m_9 (fun r_16 m_15 =>
            Q r_16 m_15)))))))) :
  sm_callI E L mX12_link d 0 0 [.ref (sm_B E + 109), .int x1, .int x2, .int x3] m Q := by
  refine sm_enter (by decide +kernel) (by simp [lg_sl, Value.category]) ?_
  refine sm_iload_n (Y := mX12_link) (pc := 0) 1 1 rfl rfl dX12_link_0 ?_
  refine sm_is_I (Y := mX12_link) (pc := 1) (As := [.int x1]) fX12_isSlot wRX12_184 rfl (Nat.le_trans (by decide) hd) (Nat.le_of_ble_eq_true rfl) ⟨Nat.le_refl _, Nat.le_refl _⟩ dX12_link_1 rfl (sm_monoI h (fun r_2 m_1 h => ?_))
  refine sm_if_eq (Y := mX12_link) (pc := 4) 26 (by decide) dX12_link_4 (fun hc => ?_) (fun hc => ?_)
  · replace h := h.1 hc
    refine sm_aload_n (Y := mX12_link) (pc := 26) 0 0 rfl rfl dX12_link_26 ?_
    refine sm_iconst (Y := mX12_link) (pc := 27) 1 (by decide) dX12_link_27 ?_
    refine sm_iv_I (Y := mX12_link) (pc := 28) (As := [.int 1]) (a := 109) fX12_finds wRX12_194 (lk_109 hly) (by decide) rfl rfl rfl (Nat.le_trans (by decide) hd) (Nat.le_of_ble_eq_true rfl) ⟨Nat.le_refl _, Nat.le_refl _⟩ dX12_link_28 rfl (sm_monoI h (fun r_4 m_3 h => ?_))
    exact sm_iret (Y := mX12_link) (pc := 31) rfl rfl rfl dX12_link_31 ⟨_, rfl, h⟩
  · replace h := h.2 hc
    refine sm_iload_n (Y := mX12_link) (pc := 7) 2 2 rfl rfl dX12_link_7 ?_
    refine sm_is_I (Y := mX12_link) (pc := 8) (As := [.int x2]) fX12_isPart wRX12_214 rfl (Nat.le_trans (by decide) hd) (Nat.le_of_ble_eq_true rfl) ⟨Nat.le_refl _, Nat.le_refl _⟩ dX12_link_8 rfl (sm_monoI h (fun r_6 m_5 h => ?_))
    refine sm_if_eq (Y := mX12_link) (pc := 11) 26 (by decide) dX12_link_11 (fun hc => ?_) (fun hc => ?_)
    · replace h := h.1 hc
      refine sm_aload_n (Y := mX12_link) (pc := 26) 0 0 rfl rfl dX12_link_26 ?_
      refine sm_iconst (Y := mX12_link) (pc := 27) 1 (by decide) dX12_link_27 ?_
      refine sm_iv_I (Y := mX12_link) (pc := 28) (As := [.int 1]) (a := 109) fX12_finds wRX12_194 (lk_109 hly) (by decide) rfl rfl rfl (Nat.le_trans (by decide) hd) (Nat.le_of_ble_eq_true rfl) ⟨Nat.le_refl _, Nat.le_refl _⟩ dX12_link_28 rfl (sm_monoI h (fun r_8 m_7 h => ?_))
      exact sm_iret (Y := mX12_link) (pc := 31) rfl rfl rfl dX12_link_31 ⟨_, rfl, h⟩
    · replace h := h.2 hc
      refine sm_iload_n (Y := mX12_link) (pc := 14) 3 3 rfl rfl dX12_link_14 ?_
      refine sm_i2l (Y := mX12_link) (pc := 15) dX12_link_15 ?_
      refine sm_lconst (Y := mX12_link) (pc := 16) 0 (by decide) dX12_link_16 ?_
      refine sm_ldc2_w (Y := mX12_link) (pc := 17) 4 wRX12_323 dX12_link_17 ?_
      refine sm_is_I (Y := mX12_link) (pc := 20) (As := [.long (x3.toInt64), .long 0, .long 4]) fX12_isIn wRX12_190 rfl (Nat.le_trans (by decide) hd) (Nat.le_of_ble_eq_true rfl) ⟨Nat.le_refl _, Nat.le_refl _⟩ dX12_link_20 rfl (sm_monoI h (fun r_10 m_9 h => ?_))
      refine sm_if_ne (Y := mX12_link) (pc := 23) 32 (by decide) dX12_link_23 (fun hc => ?_) (fun hc => ?_)
      · replace h := h.1 hc
        refine sm_aload_n (Y := mX12_link) (pc := 32) 0 0 rfl rfl dX12_link_32 ?_
        refine sm_iload_n (Y := mX12_link) (pc := 33) 1 1 rfl rfl dX12_link_33 ?_
        refine sm_iload_n (Y := mX12_link) (pc := 34) 2 2 rfl rfl dX12_link_34 ?_
        refine sm_iv_V (Y := mX12_link) (pc := 35) (As := [.int x1, .int x2]) (a := 109) fX12_curves wRX12_325 (lk_109 hly) (by decide) rfl rfl rfl (Nat.le_trans (by decide) hd) (Nat.le_of_ble_eq_true rfl) ⟨Nat.le_refl _, Nat.le_refl _⟩ dX12_link_35 rfl (sm_monoV h (fun m_11 h => ?_))
        refine sm_aload_n (Y := mX12_link) (pc := 38) 0 0 rfl rfl dX12_link_38 ?_
        refine sm_iv_V (Y := mX12_link) (pc := 39) (As := []) (a := 109) fX12_layArcs wRX12_328 (lk_109 hly) (by decide) rfl rfl rfl (Nat.le_trans (by decide) hd) (Nat.le_of_ble_eq_true rfl) ⟨Nat.le_refl _, Nat.le_refl _⟩ dX12_link_39 rfl (sm_monoV h (fun m_12 h => ?_))
        refine sm_iconst (Y := mX12_link) (pc := 42) 0 (by decide) dX12_link_42 ?_
        refine sm_istore0 (Y := mX12_link) (pc := 43) [(4, .int 0), (0, .ref (sm_B E + 109)), (1, .int x1), (2, .int x2), (3, .int x3)] 4 (by decide) rfl dX12_link_43 ?_
        refine sm_iconst (Y := mX12_link) (pc := 45) 0 (by decide) dX12_link_45 ?_
        refine sm_istore0 (Y := mX12_link) (pc := 46) [(5, .int 0), (4, .int 0), (0, .ref (sm_B E + 109)), (1, .int x1), (2, .int x2), (3, .int x3)] 5 (by decide) rfl dX12_link_46 ?_
        refine sm_sub [2, 3, 4, 5, 1, 0] rfl ?_
        exact h
      · replace h := h.2 hc
        refine sm_aload_n (Y := mX12_link) (pc := 26) 0 0 rfl rfl dX12_link_26 ?_
        refine sm_iconst (Y := mX12_link) (pc := 27) 1 (by decide) dX12_link_27 ?_
        refine sm_iv_I (Y := mX12_link) (pc := 28) (As := [.int 1]) (a := 109) fX12_finds wRX12_194 (lk_109 hly) (by decide) rfl rfl rfl (Nat.le_trans (by decide) hd) (Nat.le_of_ble_eq_true rfl) ⟨Nat.le_refl _, Nat.le_refl _⟩ dX12_link_28 rfl (sm_monoI h (fun r_16 m_15 h => ?_))
        exact sm_iret (Y := mX12_link) (pc := 31) rfl rfl rfl dX12_link_31 ⟨_, rfl, h⟩
abbrev mX12_crossing : sm_Y := (yX12_crossing, cX12_crossing, 5, (some FieldType.int))
theorem fX12_crossing : sm_mi mX12_crossing RX12 4 := ⟨sm_in 1549 (by decide +kernel) (by decide +kernel), sm_in 1547 (by decide +kernel) (by decide +kernel), sm_in 1548 (by decide +kernel) (by decide +kernel), sm_in 93 (by decide +kernel) (by decide +kernel), rfl, ⟨by decide +kernel, by decide +kernel, by decide +kernel⟩, by decide⟩
theorem dX12_crossing_0 : decode cX12_crossing 0 = .ok (.iload_n 1, 1) := dk_iload_n_1 (by decide +kernel)
theorem dX12_crossing_1 : decode cX12_crossing 1 = .ok (.invokestatic 184, 3) := dk_invokestatic 184 (b1 := 0) (b2 := 184) (by decide +kernel) (by decide +kernel) (by decide +kernel) (by decide +kernel)
theorem dX12_crossing_4 : decode cX12_crossing 4 = .ok (.ifCond .eq 23, 3) := dk_ifCond_eq 23 (b1 := 0) (b2 := 23) (by decide +kernel) (by decide +kernel) (by decide +kernel) (by decide +kernel)
theorem dX12_crossing_27 : decode cX12_crossing 27 = .ok (.aload_n 0, 1) := dk_aload_n_0 (by decide +kernel)
theorem dX12_crossing_28 : decode cX12_crossing 28 = .ok (.iconst 1, 1) := dk_iconst_1 (by decide +kernel)
theorem dX12_crossing_29 : decode cX12_crossing 29 = .ok (.invokevirtual 194, 3) := dk_invokevirtual 194 (b1 := 0) (b2 := 194) (by decide +kernel) (by decide +kernel) (by decide +kernel) (by decide +kernel)
theorem dX12_crossing_32 : decode cX12_crossing 32 = .ok (.ireturn, 1) := dk_ireturn (by decide +kernel)
theorem dX12_crossing_7 : decode cX12_crossing 7 = .ok (.iload_n 2, 1) := dk_iload_n_2 (by decide +kernel)
theorem dX12_crossing_8 : decode cX12_crossing 8 = .ok (.invokestatic 214, 3) := dk_invokestatic 214 (b1 := 0) (b2 := 214) (by decide +kernel) (by decide +kernel) (by decide +kernel) (by decide +kernel)
theorem dX12_crossing_11 : decode cX12_crossing 11 = .ok (.ifCond .eq 16, 3) := dk_ifCond_eq 16 (b1 := 0) (b2 := 16) (by decide +kernel) (by decide +kernel) (by decide +kernel) (by decide +kernel)
theorem dX12_crossing_14 : decode cX12_crossing 14 = .ok (.iload 4, 2) := dk_iload 4 (b := 4) (by decide +kernel) (by decide +kernel) (by decide +kernel)
theorem dX12_crossing_16 : decode cX12_crossing 16 = .ok (.i2l, 1) := dk_i2l (by decide +kernel)
theorem dX12_crossing_17 : decode cX12_crossing 17 = .ok (.lconst 0, 1) := dk_lconst_0 (by decide +kernel)
theorem wRX12_334 : Cond.constantLong RX12 334 2 ∈ sm_T := sm_in 1550 (by decide +kernel) (by decide +kernel)
theorem dX12_crossing_18 : decode cX12_crossing 18 = .ok (.ldc2_w 334, 3) := dk_ldc2_w 334 (b1 := 1) (b2 := 78) (by decide +kernel) (by decide +kernel) (by decide +kernel) (by decide +kernel)
theorem dX12_crossing_21 : decode cX12_crossing 21 = .ok (.invokestatic 190, 3) := dk_invokestatic 190 (b1 := 0) (b2 := 190) (by decide +kernel) (by decide +kernel) (by decide +kernel) (by decide +kernel)
theorem dX12_crossing_24 : decode cX12_crossing 24 = .ok (.ifCond .ne 9, 3) := dk_ifCond_ne 9 (b1 := 0) (b2 := 9) (by decide +kernel) (by decide +kernel) (by decide +kernel) (by decide +kernel)
theorem dX12_crossing_33 : decode cX12_crossing 33 = .ok (.aload_n 0, 1) := dk_aload_n_0 (by decide +kernel)
theorem dX12_crossing_34 : decode cX12_crossing 34 = .ok (.iload_n 1, 1) := dk_iload_n_1 (by decide +kernel)
theorem dX12_crossing_35 : decode cX12_crossing 35 = .ok (.iload_n 2, 1) := dk_iload_n_2 (by decide +kernel)
theorem dX12_crossing_36 : decode cX12_crossing 36 = .ok (.invokevirtual 325, 3) := dk_invokevirtual 325 (b1 := 1) (b2 := 69) (by decide +kernel) (by decide +kernel) (by decide +kernel) (by decide +kernel)
theorem dX12_crossing_39 : decode cX12_crossing 39 = .ok (.iload_n 3, 1) := dk_iload_n_3 (by decide +kernel)
theorem dX12_crossing_40 : decode cX12_crossing 40 = .ok (.i2l, 1) := dk_i2l (by decide +kernel)
theorem dX12_crossing_41 : decode cX12_crossing 41 = .ok (.lconst 0, 1) := dk_lconst_0 (by decide +kernel)
theorem dX12_crossing_42 : decode cX12_crossing 42 = .ok (.aload_n 0, 1) := dk_aload_n_0 (by decide +kernel)
theorem dX12_crossing_43 : decode cX12_crossing 43 = .ok (.getfield 286, 3) := dk_getfield 286 (b1 := 1) (b2 := 30) (by decide +kernel) (by decide +kernel) (by decide +kernel) (by decide +kernel)
theorem dX12_crossing_46 : decode cX12_crossing 46 = .ok (.iconst 1, 1) := dk_iconst_1 (by decide +kernel)
theorem dX12_crossing_47 : decode cX12_crossing 47 = .ok (.isub, 1) := dk_isub (by decide +kernel)
theorem dX12_crossing_48 : decode cX12_crossing 48 = .ok (.i2l, 1) := dk_i2l (by decide +kernel)
theorem dX12_crossing_49 : decode cX12_crossing 49 = .ok (.invokestatic 190, 3) := dk_invokestatic 190 (b1 := 0) (b2 := 190) (by decide +kernel) (by decide +kernel) (by decide +kernel) (by decide +kernel)
theorem dX12_crossing_52 : decode cX12_crossing 52 = .ok (.ifCond .ne 9, 3) := dk_ifCond_ne 9 (b1 := 0) (b2 := 9) (by decide +kernel) (by decide +kernel) (by decide +kernel) (by decide +kernel)
theorem dX12_crossing_61 : decode cX12_crossing 61 = .ok (.iload 4, 2) := dk_iload 4 (b := 4) (by decide +kernel) (by decide +kernel) (by decide +kernel)
theorem dX12_crossing_63 : decode cX12_crossing 63 = .ok (.iconst 2, 1) := dk_iconst_2 (by decide +kernel)
theorem dX12_crossing_64 : decode cX12_crossing 64 = .ok (.if_icmp .ge 17, 3) := dk_if_icmp_ge 17 (b1 := 0) (b2 := 17) (by decide +kernel) (by decide +kernel) (by decide +kernel) (by decide +kernel)
theorem dX12_crossing_81 : decode cX12_crossing 81 = .ok (.aload_n 0, 1) := dk_aload_n_0 (by decide +kernel)
theorem dX12_crossing_82 : decode cX12_crossing 82 = .ok (.iload_n 3, 1) := dk_iload_n_3 (by decide +kernel)
theorem dX12_crossing_83 : decode cX12_crossing 83 = .ok (.invokevirtual 331, 3) := dk_invokevirtual 331 (b1 := 1) (b2 := 75) (by decide +kernel) (by decide +kernel) (by decide +kernel) (by decide +kernel)
theorem dX12_crossing_86 : decode cX12_crossing 86 = .ok (.ireturn, 1) := dk_ireturn (by decide +kernel)
theorem dX12_crossing_67 : decode cX12_crossing 67 = .ok (.aload_n 0, 1) := dk_aload_n_0 (by decide +kernel)
theorem dX12_crossing_68 : decode cX12_crossing 68 = .ok (.getfield 94, 3) := dk_getfield 94 (b1 := 0) (b2 := 94) (by decide +kernel) (by decide +kernel) (by decide +kernel) (by decide +kernel)
theorem dX12_crossing_71 : decode cX12_crossing 71 = .ok (.iconst 2, 1) := dk_iconst_2 (by decide +kernel)
theorem dX12_crossing_72 : decode cX12_crossing 72 = .ok (.iload_n 3, 1) := dk_iload_n_3 (by decide +kernel)
theorem dX12_crossing_73 : decode cX12_crossing 73 = .ok (.imul, 1) := dk_imul (by decide +kernel)
theorem dX12_crossing_74 : decode cX12_crossing 74 = .ok (.iload 4, 2) := dk_iload 4 (b := 4) (by decide +kernel) (by decide +kernel) (by decide +kernel)
theorem dX12_crossing_76 : decode cX12_crossing 76 = .ok (.iadd, 1) := dk_iadd (by decide +kernel)
theorem dX12_crossing_77 : decode cX12_crossing 77 = .ok (.iaload, 1) := dk_iaload (by decide +kernel)
theorem dX12_crossing_78 : decode cX12_crossing 78 = .ok (.goto 8, 3) := dk_goto 8 (b1 := 0) (b2 := 8) (by decide +kernel) (by decide +kernel) (by decide +kernel) (by decide +kernel)
theorem dX12_crossing_55 : decode cX12_crossing 55 = .ok (.aload_n 0, 1) := dk_aload_n_0 (by decide +kernel)
theorem dX12_crossing_56 : decode cX12_crossing 56 = .ok (.iconst 1, 1) := dk_iconst_1 (by decide +kernel)
theorem dX12_crossing_57 : decode cX12_crossing 57 = .ok (.invokevirtual 194, 3) := dk_invokevirtual 194 (b1 := 0) (b2 := 194) (by decide +kernel) (by decide +kernel) (by decide +kernel) (by decide +kernel)
theorem dX12_crossing_60 : decode cX12_crossing 60 = .ok (.ireturn, 1) := dk_ireturn (by decide +kernel)
set_option maxRecDepth 20000 in
theorem vX12_crossing_0 {E : sm_E} {L : sm_S → Prop} {d : Nat} {x1 : Int32} {x2 : Int32} {x3 : Int32} {x4 : Int32}  {m : sm_M} {Q : Int32 → sm_M → Prop} (hly : ∀ S, L S → ly S) (hd : 5 ≤ d) 
  (h : sm_callI E L mX12_isSlot 1 0 0 [.int x1] m (fun r_2 m_1 =>
   (r_2 = 0 →
      sm_callI E L mX12_finds 1 0 0 [.ref (sm_B E + 109), .int 1] m_1 (fun r_4 m_3 =>
      Q r_4 m_3)) ∧
   (¬ r_2 = 0 →
      sm_callI E L mX12_isPart 1 0 0 [.int x2] m_1 (fun r_6 m_5 =>
      (r_6 = 0 →
         sm_callI E L mX12_finds 1 0 0 [.ref (sm_B E + 109), .int 1] m_5 (fun r_8 m_7 =>
         Q r_8 m_7)) ∧
      (¬ r_6 = 0 →
         sm_callI E L mX12_isIn 1 0 0 [.long (x4.toInt64), .long 0, .long 2] m_5 (fun r_10 m_9 =>
         (¬ r_10 = 0 →
            sm_callV E L mX12_curves 4 0 0 [.ref (sm_B E + 109), .int x1, .int x2] m_9 (fun m_11 =>
            sm_callI E L mX12_isIn 1 0 0 [.long (x3.toInt64), .long 0, .long (((m_11.1 109 45) - 1).toInt64)] m_11 (fun r_13 m_12 =>
            (¬ r_13 = 0 →
               (2 ≤ x4 →
                  sm_callI E L mX12_signOf 1 0 0 [.ref (sm_B E + 109), .int x3] m_12 (fun r_15 m_14 =>
                  Q r_15 m_14)) ∧
               (¬ 2 ≤ x4 →
                  (vp_in (((2 : Int32) * x3) + x4) 48) ∧ Q (m_12.1 136 (((2 : Int32) * x3) + x4).toNatClampNeg) m_12)) ∧
            (r_13 = 0 →
               sm_callI E L mX12_finds 1 0 0 [.ref (sm_B E + 109), .int 1] m_12 (fun r_18 m_17 =>
               Q r_18 m_17))))) ∧
         (r_10 = 0 →
            sm_callI E L mX12_finds 1 0 0 [.ref (sm_B E + 109), .int 1] m_9 (fun r_20 m_19 =>
            Q r_20 m_19)))))))) :
  sm_callI E L mX12_crossing d 0 0 [.ref (sm_B E + 109), .int x1, .int x2, .int x3, .int x4] m Q := by
  refine sm_enter (by decide +kernel) (by simp [lg_sl, Value.category]) ?_
  refine sm_iload_n (Y := mX12_crossing) (pc := 0) 1 1 rfl rfl dX12_crossing_0 ?_
  refine sm_is_I (Y := mX12_crossing) (pc := 1) (As := [.int x1]) fX12_isSlot wRX12_184 rfl (Nat.le_trans (by decide) hd) (Nat.le_of_ble_eq_true rfl) ⟨Nat.le_refl _, Nat.le_refl _⟩ dX12_crossing_1 rfl (sm_monoI h (fun r_2 m_1 h => ?_))
  refine sm_if_eq (Y := mX12_crossing) (pc := 4) 27 (by decide) dX12_crossing_4 (fun hc => ?_) (fun hc => ?_)
  · replace h := h.1 hc
    refine sm_aload_n (Y := mX12_crossing) (pc := 27) 0 0 rfl rfl dX12_crossing_27 ?_
    refine sm_iconst (Y := mX12_crossing) (pc := 28) 1 (by decide) dX12_crossing_28 ?_
    refine sm_iv_I (Y := mX12_crossing) (pc := 29) (As := [.int 1]) (a := 109) fX12_finds wRX12_194 (lk_109 hly) (by decide) rfl rfl rfl (Nat.le_trans (by decide) hd) (Nat.le_of_ble_eq_true rfl) ⟨Nat.le_refl _, Nat.le_refl _⟩ dX12_crossing_29 rfl (sm_monoI h (fun r_4 m_3 h => ?_))
    exact sm_iret (Y := mX12_crossing) (pc := 32) rfl rfl rfl dX12_crossing_32 ⟨_, rfl, h⟩
  · replace h := h.2 hc
    refine sm_iload_n (Y := mX12_crossing) (pc := 7) 2 2 rfl rfl dX12_crossing_7 ?_
    refine sm_is_I (Y := mX12_crossing) (pc := 8) (As := [.int x2]) fX12_isPart wRX12_214 rfl (Nat.le_trans (by decide) hd) (Nat.le_of_ble_eq_true rfl) ⟨Nat.le_refl _, Nat.le_refl _⟩ dX12_crossing_8 rfl (sm_monoI h (fun r_6 m_5 h => ?_))
    refine sm_if_eq (Y := mX12_crossing) (pc := 11) 27 (by decide) dX12_crossing_11 (fun hc => ?_) (fun hc => ?_)
    · replace h := h.1 hc
      refine sm_aload_n (Y := mX12_crossing) (pc := 27) 0 0 rfl rfl dX12_crossing_27 ?_
      refine sm_iconst (Y := mX12_crossing) (pc := 28) 1 (by decide) dX12_crossing_28 ?_
      refine sm_iv_I (Y := mX12_crossing) (pc := 29) (As := [.int 1]) (a := 109) fX12_finds wRX12_194 (lk_109 hly) (by decide) rfl rfl rfl (Nat.le_trans (by decide) hd) (Nat.le_of_ble_eq_true rfl) ⟨Nat.le_refl _, Nat.le_refl _⟩ dX12_crossing_29 rfl (sm_monoI h (fun r_8 m_7 h => ?_))
      exact sm_iret (Y := mX12_crossing) (pc := 32) rfl rfl rfl dX12_crossing_32 ⟨_, rfl, h⟩
    · replace h := h.2 hc
      refine sm_iload (Y := mX12_crossing) (pc := 14) 4 4 rfl dX12_crossing_14 ?_
      refine sm_i2l (Y := mX12_crossing) (pc := 16) dX12_crossing_16 ?_
      refine sm_lconst (Y := mX12_crossing) (pc := 17) 0 (by decide) dX12_crossing_17 ?_
      refine sm_ldc2_w (Y := mX12_crossing) (pc := 18) 2 wRX12_334 dX12_crossing_18 ?_
      refine sm_is_I (Y := mX12_crossing) (pc := 21) (As := [.long (x4.toInt64), .long 0, .long 2]) fX12_isIn wRX12_190 rfl (Nat.le_trans (by decide) hd) (Nat.le_of_ble_eq_true rfl) ⟨Nat.le_refl _, Nat.le_refl _⟩ dX12_crossing_21 rfl (sm_monoI h (fun r_10 m_9 h => ?_))
      refine sm_if_ne (Y := mX12_crossing) (pc := 24) 33 (by decide) dX12_crossing_24 (fun hc => ?_) (fun hc => ?_)
      · replace h := h.1 hc
        refine sm_aload_n (Y := mX12_crossing) (pc := 33) 0 0 rfl rfl dX12_crossing_33 ?_
        refine sm_iload_n (Y := mX12_crossing) (pc := 34) 1 1 rfl rfl dX12_crossing_34 ?_
        refine sm_iload_n (Y := mX12_crossing) (pc := 35) 2 2 rfl rfl dX12_crossing_35 ?_
        refine sm_iv_V (Y := mX12_crossing) (pc := 36) (As := [.int x1, .int x2]) (a := 109) fX12_curves wRX12_325 (lk_109 hly) (by decide) rfl rfl rfl (Nat.le_trans (by decide) hd) (Nat.le_of_ble_eq_true rfl) ⟨Nat.le_refl _, Nat.le_refl _⟩ dX12_crossing_36 rfl (sm_monoV h (fun m_11 h => ?_))
        refine sm_iload_n (Y := mX12_crossing) (pc := 39) 3 3 rfl rfl dX12_crossing_39 ?_
        refine sm_i2l (Y := mX12_crossing) (pc := 40) dX12_crossing_40 ?_
        refine sm_lconst (Y := mX12_crossing) (pc := 41) 0 (by decide) dX12_crossing_41 ?_
        refine sm_aload_n (Y := mX12_crossing) (pc := 42) 0 0 rfl rfl dX12_crossing_42 ?_
        refine gf_RX12_286 (Y := mX12_crossing) (pc := 43) rfl ((lk_109 hly) _) dX12_crossing_43 ?_
        refine sm_iconst (Y := mX12_crossing) (pc := 46) 1 (by decide) dX12_crossing_46 ?_
        refine sm_isub (Y := mX12_crossing) (pc := 47) dX12_crossing_47 ?_
        refine sm_i2l (Y := mX12_crossing) (pc := 48) dX12_crossing_48 ?_
        refine sm_is_I (Y := mX12_crossing) (pc := 49) (As := [.long (x3.toInt64), .long 0, .long (((m_11.1 109 45) - 1).toInt64)]) fX12_isIn wRX12_190 rfl (Nat.le_trans (by decide) hd) (Nat.le_of_ble_eq_true rfl) ⟨Nat.le_refl _, Nat.le_refl _⟩ dX12_crossing_49 rfl (sm_monoI h (fun r_13 m_12 h => ?_))
        refine sm_if_ne (Y := mX12_crossing) (pc := 52) 61 (by decide) dX12_crossing_52 (fun hc => ?_) (fun hc => ?_)
        · replace h := h.1 hc
          refine sm_iload (Y := mX12_crossing) (pc := 61) 4 4 rfl dX12_crossing_61 ?_
          refine sm_iconst (Y := mX12_crossing) (pc := 63) 2 (by decide) dX12_crossing_63 ?_
          refine sm_icmp_ge (Y := mX12_crossing) (pc := 64) 81 (by decide) dX12_crossing_64 (fun hc => ?_) (fun hc => ?_)
          · replace h := h.1 hc
            refine sm_aload_n (Y := mX12_crossing) (pc := 81) 0 0 rfl rfl dX12_crossing_81 ?_
            refine sm_iload_n (Y := mX12_crossing) (pc := 82) 3 3 rfl rfl dX12_crossing_82 ?_
            refine sm_iv_I (Y := mX12_crossing) (pc := 83) (As := [.int x3]) (a := 109) fX12_signOf wRX12_331 (lk_109 hly) (by decide) rfl rfl rfl (Nat.le_trans (by decide) hd) (Nat.le_of_ble_eq_true rfl) ⟨Nat.le_refl _, Nat.le_refl _⟩ dX12_crossing_83 rfl (sm_monoI h (fun r_15 m_14 h => ?_))
            exact sm_iret (Y := mX12_crossing) (pc := 86) rfl rfl rfl dX12_crossing_86 ⟨_, rfl, h⟩
          · replace h := h.2 hc
            refine sm_aload_n (Y := mX12_crossing) (pc := 67) 0 0 rfl rfl dX12_crossing_67 ?_
            refine gf_RX12_94 (Y := mX12_crossing) (pc := 68) (b := 136) rfl ((lk_109 hly) _) (lf_109_47 hly _) dX12_crossing_68 ?_
            refine sm_iconst (Y := mX12_crossing) (pc := 71) 2 (by decide) dX12_crossing_71 ?_
            refine sm_iload_n (Y := mX12_crossing) (pc := 72) 3 3 rfl rfl dX12_crossing_72 ?_
            refine sm_imul (Y := mX12_crossing) (pc := 73) dX12_crossing_73 ?_
            refine sm_iload (Y := mX12_crossing) (pc := 74) 4 4 rfl dX12_crossing_74 ?_
            refine sm_iadd (Y := mX12_crossing) (pc := 76) dX12_crossing_76 ?_
            obtain ⟨hn_16, h⟩ := h
            refine sm_iald (Y := mX12_crossing) (pc := 77) (la_136 hly _) hn_16 dX12_crossing_77 ?_
            refine sm_goto (Y := mX12_crossing) (pc := 78) 86 (by decide) dX12_crossing_78 ?_
            exact sm_iret (Y := mX12_crossing) (pc := 86) rfl rfl rfl dX12_crossing_86 ⟨_, rfl, h⟩
        · replace h := h.2 hc
          refine sm_aload_n (Y := mX12_crossing) (pc := 55) 0 0 rfl rfl dX12_crossing_55 ?_
          refine sm_iconst (Y := mX12_crossing) (pc := 56) 1 (by decide) dX12_crossing_56 ?_
          refine sm_iv_I (Y := mX12_crossing) (pc := 57) (As := [.int 1]) (a := 109) fX12_finds wRX12_194 (lk_109 hly) (by decide) rfl rfl rfl (Nat.le_trans (by decide) hd) (Nat.le_of_ble_eq_true rfl) ⟨Nat.le_refl _, Nat.le_refl _⟩ dX12_crossing_57 rfl (sm_monoI h (fun r_18 m_17 h => ?_))
          exact sm_iret (Y := mX12_crossing) (pc := 60) rfl rfl rfl dX12_crossing_60 ⟨_, rfl, h⟩
      · replace h := h.2 hc
        refine sm_aload_n (Y := mX12_crossing) (pc := 27) 0 0 rfl rfl dX12_crossing_27 ?_
        refine sm_iconst (Y := mX12_crossing) (pc := 28) 1 (by decide) dX12_crossing_28 ?_
        refine sm_iv_I (Y := mX12_crossing) (pc := 29) (As := [.int 1]) (a := 109) fX12_finds wRX12_194 (lk_109 hly) (by decide) rfl rfl rfl (Nat.le_trans (by decide) hd) (Nat.le_of_ble_eq_true rfl) ⟨Nat.le_refl _, Nat.le_refl _⟩ dX12_crossing_29 rfl (sm_monoI h (fun r_20 m_19 h => ?_))
        exact sm_iret (Y := mX12_crossing) (pc := 32) rfl rfl rfl dX12_crossing_32 ⟨_, rfl, h⟩
abbrev mX12_linked : sm_Y := (yX12_linked, cX12_linked, 9, (some FieldType.int))
theorem fX12_linked : sm_mi mX12_linked RX12 4 := ⟨sm_in 1554 (by decide +kernel) (by decide +kernel), sm_in 1552 (by decide +kernel) (by decide +kernel), sm_in 1553 (by decide +kernel) (by decide +kernel), sm_in 93 (by decide +kernel) (by decide +kernel), rfl, ⟨by decide +kernel, by decide +kernel, by decide +kernel⟩, by decide⟩
def gX12_linked_131 (E : sm_E) (L : sm_S → Prop) (d : Nat) (vs : List Value) (x3 : Int32) (x4 : Int32) (x6 : Int32) (x7 : Int32) (x8 : Int32) (s0 : Int32) (m : sm_M) (Q : Int32 → sm_M → Prop) : Prop := sm_go E L mX12_linked d 0 0 vs 131 [(0, .ref (sm_B E + 109)), (3, .int x3), (4, .int x4), (6, .int x6), (7, .int x7), (8, .int x8)] [.int s0] m 0 0 (sm_Z E L vs 0 0 (sm_QI Q))
def gX12_linked_83 (E : sm_E) (L : sm_S → Prop) (d : Nat) (vs : List Value) (x3 : Int32) (x4 : Int32) (x5 : Int32) (x6 : Int32) (m : sm_M) (Q : Int32 → sm_M → Prop) : Prop := sm_go E L mX12_linked d 0 0 vs 83 [(0, .ref (sm_B E + 109)), (3, .int x3), (4, .int x4), (5, .int x5), (6, .int x6)] [] m 0 0 (sm_Z E L vs 0 0 (sm_QI Q))
theorem dX12_linked_131 : decode cX12_linked 131 = .ok (.iload 7, 2) := dk_iload 7 (b := 7) (by decide +kernel) (by decide +kernel) (by decide +kernel)
theorem dX12_linked_133 : decode cX12_linked 133 = .ok (.iload 4, 2) := dk_iload 4 (b := 4) (by decide +kernel) (by decide +kernel) (by decide +kernel)
theorem dX12_linked_135 : decode cX12_linked 135 = .ok (.if_icmp .ne 18, 3) := dk_if_icmp_ne 18 (b1 := 0) (b2 := 18) (by decide +kernel) (by decide +kernel) (by decide +kernel) (by decide +kernel)
theorem dX12_linked_153 : decode cX12_linked 153 = .ok (.iconst 0, 1) := dk_iconst_0 (by decide +kernel)
theorem dX12_linked_154 : decode cX12_linked 154 = .ok (.iadd, 1) := dk_iadd (by decide +kernel)
theorem dX12_linked_155 : decode cX12_linked 155 = .ok (.istore 5, 2) := dk_istore 5 (b := 5) (by decide +kernel) (by decide +kernel) (by decide +kernel)
theorem dX12_linked_157 : decode cX12_linked 157 = .ok (.iinc 6 1, 3) := dk_iinc 6 1 (b1 := 6) (b2 := 1) (by decide +kernel) (by decide +kernel) (by decide +kernel) (by decide +kernel) (by decide +kernel)
theorem dX12_linked_160 : decode cX12_linked 160 = .ok (.goto (-77), 3) := dk_goto (-77) (b1 := 255) (b2 := 179) (by decide +kernel) (by decide +kernel) (by decide +kernel) (by decide +kernel)
theorem dX12_linked_138 : decode cX12_linked 138 = .ok (.iload 8, 2) := dk_iload 8 (b := 8) (by decide +kernel) (by decide +kernel) (by decide +kernel)
theorem dX12_linked_140 : decode cX12_linked 140 = .ok (.iload_n 3, 1) := dk_iload_n_3 (by decide +kernel)
theorem dX12_linked_141 : decode cX12_linked 141 = .ok (.if_icmp .ne 12, 3) := dk_if_icmp_ne 12 (b1 := 0) (b2 := 12) (by decide +kernel) (by decide +kernel) (by decide +kernel) (by decide +kernel)
theorem dX12_linked_144 : decode cX12_linked 144 = .ok (.aload_n 0, 1) := dk_aload_n_0 (by decide +kernel)
theorem dX12_linked_145 : decode cX12_linked 145 = .ok (.iload 6, 2) := dk_iload 6 (b := 6) (by decide +kernel) (by decide +kernel) (by decide +kernel)
theorem dX12_linked_147 : decode cX12_linked 147 = .ok (.invokevirtual 331, 3) := dk_invokevirtual 331 (b1 := 1) (b2 := 75) (by decide +kernel) (by decide +kernel) (by decide +kernel) (by decide +kernel)
theorem dX12_linked_150 : decode cX12_linked 150 = .ok (.goto 4, 3) := dk_goto 4 (b1 := 0) (b2 := 4) (by decide +kernel) (by decide +kernel) (by decide +kernel) (by decide +kernel)
set_option maxRecDepth 20000 in
theorem vX12_linked_131 {E : sm_E} {L : sm_S → Prop} {d : Nat} {vs : List Value} {x3 : Int32} {x4 : Int32} {x6 : Int32} {x7 : Int32} {x8 : Int32} {s0 : Int32}  {m : sm_M} {Q : Int32 → sm_M → Prop} (hly : ∀ S, L S → ly S) (hd : 5 ≤ d) 
  (h : (¬ x7 = x4 →
      ∀ x5_1 : Int32, x5_1 = s0 + 0 →
      ∀ x6_2 : Int32, x6_2 = x6 + 1 →
      gX12_linked_83 E L d vs x3 x4 x5_1 x6_2 m Q) ∧
   (x7 = x4 →
      (¬ x8 = x3 →
         ∀ x5_3 : Int32, x5_3 = s0 + 0 →
         ∀ x6_4 : Int32, x6_4 = x6 + 1 →
         gX12_linked_83 E L d vs x3 x4 x5_3 x6_4 m Q) ∧
      (x8 = x3 →
         sm_callI E L mX12_signOf 1 0 0 [.ref (sm_B E + 109), .int x6] m (fun r_6 m_5 =>
         ∀ x5_7 : Int32, x5_7 = s0 + r_6 →
         ∀ x6_8 : Int32, x6_8 = x6 + 1 →
         gX12_linked_83 E L d vs x3 x4 x5_7 x6_8 m_5 Q)))) :
  gX12_linked_131 E L d vs x3 x4 x6 x7 x8 s0 m Q := by
  refine sm_iload (Y := mX12_linked) (pc := 131) 4 7 rfl dX12_linked_131 ?_
  refine sm_iload (Y := mX12_linked) (pc := 133) 2 4 rfl dX12_linked_133 ?_
  refine sm_icmp_ne (Y := mX12_linked) (pc := 135) 153 (by decide) dX12_linked_135 (fun hc => ?_) (fun hc => ?_)
  · replace h := h.1 hc
    refine sm_iconst (Y := mX12_linked) (pc := 153) 0 (by decide) dX12_linked_153 ?_
    refine sm_iadd (Y := mX12_linked) (pc := 154) dX12_linked_154 ?_
    refine sm_istore (Y := mX12_linked) (pc := 155) (fun y => [(5, .int y), (0, .ref (sm_B E + 109)), (3, .int x3), (4, .int x4), (6, .int x6), (7, .int x7), (8, .int x8)]) 5 (by decide) (fun _ => rfl) dX12_linked_155 (fun x5_1 ex5_1 => ?_)
    replace h := h x5_1 ex5_1
    refine sm_iinc (Y := mX12_linked) (pc := 157) (fun y => [(6, .int y), (5, .int x5_1), (0, .ref (sm_B E + 109)), (3, .int x3), (4, .int x4), (7, .int x7), (8, .int x8)]) 4 6 rfl (by decide) (fun _ => rfl) dX12_linked_157 (fun x6_2 ex6_2 => ?_)
    replace h := h x6_2 ex6_2
    refine sm_goto (Y := mX12_linked) (pc := 160) 83 (by decide) dX12_linked_160 ?_
    refine sm_sub [2, 3, 4, 1, 0] rfl ?_
    exact h
  · replace h := h.2 hc
    refine sm_iload (Y := mX12_linked) (pc := 138) 5 8 rfl dX12_linked_138 ?_
    refine sm_iload_n (Y := mX12_linked) (pc := 140) 1 3 rfl rfl dX12_linked_140 ?_
    refine sm_icmp_ne (Y := mX12_linked) (pc := 141) 153 (by decide) dX12_linked_141 (fun hc => ?_) (fun hc => ?_)
    · replace h := h.1 hc
      refine sm_iconst (Y := mX12_linked) (pc := 153) 0 (by decide) dX12_linked_153 ?_
      refine sm_iadd (Y := mX12_linked) (pc := 154) dX12_linked_154 ?_
      refine sm_istore (Y := mX12_linked) (pc := 155) (fun y => [(5, .int y), (0, .ref (sm_B E + 109)), (3, .int x3), (4, .int x4), (6, .int x6), (7, .int x7), (8, .int x8)]) 5 (by decide) (fun _ => rfl) dX12_linked_155 (fun x5_3 ex5_3 => ?_)
      replace h := h x5_3 ex5_3
      refine sm_iinc (Y := mX12_linked) (pc := 157) (fun y => [(6, .int y), (5, .int x5_3), (0, .ref (sm_B E + 109)), (3, .int x3), (4, .int x4), (7, .int x7), (8, .int x8)]) 4 6 rfl (by decide) (fun _ => rfl) dX12_linked_157 (fun x6_4 ex6_4 => ?_)
      replace h := h x6_4 ex6_4
      refine sm_goto (Y := mX12_linked) (pc := 160) 83 (by decide) dX12_linked_160 ?_
      refine sm_sub [2, 3, 4, 1, 0] rfl ?_
      exact h
    · replace h := h.2 hc
      refine sm_aload_n (Y := mX12_linked) (pc := 144) 0 0 rfl rfl dX12_linked_144 ?_
      refine sm_iload (Y := mX12_linked) (pc := 145) 3 6 rfl dX12_linked_145 ?_
      refine sm_iv_I (Y := mX12_linked) (pc := 147) (As := [.int x6]) (a := 109) fX12_signOf wRX12_331 (lk_109 hly) (by decide) rfl rfl rfl (Nat.le_trans (by decide) hd) (Nat.le_of_ble_eq_true rfl) ⟨Nat.le_refl _, Nat.le_refl _⟩ dX12_linked_147 rfl (sm_monoI h (fun r_6 m_5 h => ?_))
      refine sm_goto (Y := mX12_linked) (pc := 150) 154 (by decide) dX12_linked_150 ?_
      refine sm_iadd (Y := mX12_linked) (pc := 154) dX12_linked_154 ?_
      refine sm_istore (Y := mX12_linked) (pc := 155) (fun y => [(5, .int y), (0, .ref (sm_B E + 109)), (3, .int x3), (4, .int x4), (6, .int x6), (7, .int x7), (8, .int x8)]) 5 (by decide) (fun _ => rfl) dX12_linked_155 (fun x5_7 ex5_7 => ?_)
      replace h := h x5_7 ex5_7
      refine sm_iinc (Y := mX12_linked) (pc := 157) (fun y => [(6, .int y), (5, .int x5_7), (0, .ref (sm_B E + 109)), (3, .int x3), (4, .int x4), (7, .int x7), (8, .int x8)]) 4 6 rfl (by decide) (fun _ => rfl) dX12_linked_157 (fun x6_8 ex6_8 => ?_)
      replace h := h x6_8 ex6_8
      refine sm_goto (Y := mX12_linked) (pc := 160) 83 (by decide) dX12_linked_160 ?_
      refine sm_sub [2, 3, 4, 1, 0] rfl ?_
      exact h
theorem dX12_linked_83 : decode cX12_linked 83 = .ok (.iload 6, 2) := dk_iload 6 (b := 6) (by decide +kernel) (by decide +kernel) (by decide +kernel)
theorem dX12_linked_85 : decode cX12_linked 85 = .ok (.aload_n 0, 1) := dk_aload_n_0 (by decide +kernel)
theorem dX12_linked_86 : decode cX12_linked 86 = .ok (.getfield 286, 3) := dk_getfield 286 (b1 := 1) (b2 := 30) (by decide +kernel) (by decide +kernel) (by decide +kernel) (by decide +kernel)
theorem dX12_linked_89 : decode cX12_linked 89 = .ok (.if_icmp .ge 74, 3) := dk_if_icmp_ge 74 (b1 := 0) (b2 := 74) (by decide +kernel) (by decide +kernel) (by decide +kernel) (by decide +kernel)
theorem dX12_linked_163 : decode cX12_linked 163 = .ok (.iload 5, 2) := dk_iload 5 (b := 5) (by decide +kernel) (by decide +kernel) (by decide +kernel)
theorem dX12_linked_165 : decode cX12_linked 165 = .ok (.iconst 2, 1) := dk_iconst_2 (by decide +kernel)
theorem dX12_linked_166 : decode cX12_linked 166 = .ok (.idiv, 1) := dk_idiv (by decide +kernel)
theorem dX12_linked_167 : decode cX12_linked 167 = .ok (.ireturn, 1) := dk_ireturn (by decide +kernel)
theorem dX12_linked_92 : decode cX12_linked 92 = .ok (.aload_n 0, 1) := dk_aload_n_0 (by decide +kernel)
theorem dX12_linked_93 : decode cX12_linked 93 = .ok (.getfield 94, 3) := dk_getfield 94 (b1 := 0) (b2 := 94) (by decide +kernel) (by decide +kernel) (by decide +kernel) (by decide +kernel)
theorem dX12_linked_96 : decode cX12_linked 96 = .ok (.iconst 2, 1) := dk_iconst_2 (by decide +kernel)
theorem dX12_linked_97 : decode cX12_linked 97 = .ok (.iload 6, 2) := dk_iload 6 (b := 6) (by decide +kernel) (by decide +kernel) (by decide +kernel)
theorem dX12_linked_99 : decode cX12_linked 99 = .ok (.imul, 1) := dk_imul (by decide +kernel)
theorem dX12_linked_100 : decode cX12_linked 100 = .ok (.iaload, 1) := dk_iaload (by decide +kernel)
theorem dX12_linked_101 : decode cX12_linked 101 = .ok (.istore 7, 2) := dk_istore 7 (b := 7) (by decide +kernel) (by decide +kernel) (by decide +kernel)
theorem dX12_linked_103 : decode cX12_linked 103 = .ok (.aload_n 0, 1) := dk_aload_n_0 (by decide +kernel)
theorem dX12_linked_104 : decode cX12_linked 104 = .ok (.getfield 94, 3) := dk_getfield 94 (b1 := 0) (b2 := 94) (by decide +kernel) (by decide +kernel) (by decide +kernel) (by decide +kernel)
theorem dX12_linked_107 : decode cX12_linked 107 = .ok (.iconst 2, 1) := dk_iconst_2 (by decide +kernel)
theorem dX12_linked_108 : decode cX12_linked 108 = .ok (.iload 6, 2) := dk_iload 6 (b := 6) (by decide +kernel) (by decide +kernel) (by decide +kernel)
theorem dX12_linked_110 : decode cX12_linked 110 = .ok (.imul, 1) := dk_imul (by decide +kernel)
theorem dX12_linked_111 : decode cX12_linked 111 = .ok (.iconst 1, 1) := dk_iconst_1 (by decide +kernel)
theorem dX12_linked_112 : decode cX12_linked 112 = .ok (.iadd, 1) := dk_iadd (by decide +kernel)
theorem dX12_linked_113 : decode cX12_linked 113 = .ok (.iaload, 1) := dk_iaload (by decide +kernel)
theorem dX12_linked_114 : decode cX12_linked 114 = .ok (.istore 8, 2) := dk_istore 8 (b := 8) (by decide +kernel) (by decide +kernel) (by decide +kernel)
theorem dX12_linked_116 : decode cX12_linked 116 = .ok (.iload 5, 2) := dk_iload 5 (b := 5) (by decide +kernel) (by decide +kernel) (by decide +kernel)
theorem dX12_linked_118 : decode cX12_linked 118 = .ok (.iload 7, 2) := dk_iload 7 (b := 7) (by decide +kernel) (by decide +kernel) (by decide +kernel)
theorem dX12_linked_120 : decode cX12_linked 120 = .ok (.iload_n 3, 1) := dk_iload_n_3 (by decide +kernel)
theorem dX12_linked_121 : decode cX12_linked 121 = .ok (.if_icmp .ne 10, 3) := dk_if_icmp_ne 10 (b1 := 0) (b2 := 10) (by decide +kernel) (by decide +kernel) (by decide +kernel) (by decide +kernel)
theorem dX12_linked_124 : decode cX12_linked 124 = .ok (.iload 8, 2) := dk_iload 8 (b := 8) (by decide +kernel) (by decide +kernel) (by decide +kernel)
theorem dX12_linked_126 : decode cX12_linked 126 = .ok (.iload 4, 2) := dk_iload 4 (b := 4) (by decide +kernel) (by decide +kernel) (by decide +kernel)
theorem dX12_linked_128 : decode cX12_linked 128 = .ok (.if_icmp .eq 16, 3) := dk_if_icmp_eq 16 (b1 := 0) (b2 := 16) (by decide +kernel) (by decide +kernel) (by decide +kernel) (by decide +kernel)
set_option maxRecDepth 20000 in
theorem vX12_linked_83 {E : sm_E} {L : sm_S → Prop} {d : Nat} {vs : List Value} {x3 : Int32} {x4 : Int32} {x5 : Int32} {x6 : Int32}  {m : sm_M} {Q : Int32 → sm_M → Prop} (hly : ∀ S, L S → ly S) (hd : 5 ≤ d) 
  (h : ((m.1 109 45) ≤ x6 →
      Q (x5 / 2) m) ∧
   (¬ (m.1 109 45) ≤ x6 →
      (vp_in ((2 : Int32) * x6) 48) ∧ ∀ x7_2 : Int32, x7_2 = m.1 136 ((2 : Int32) * x6).toNatClampNeg →
      (vp_in (((2 : Int32) * x6) + 1) 48) ∧ ∀ x8_4 : Int32, x8_4 = m.1 136 (((2 : Int32) * x6) + 1).toNatClampNeg →
      (¬ x7_2 = x3 →
         gX12_linked_131 E L d vs x3 x4 x6 x7_2 x8_4 x5 m Q) ∧
      (x7_2 = x3 →
         (x8_4 = x4 →
            sm_callI E L mX12_signOf 1 0 0 [.ref (sm_B E + 109), .int x6] m (fun r_6 m_5 =>
            ∀ x5_7 : Int32, x5_7 = x5 + r_6 →
            ∀ x6_8 : Int32, x6_8 = x6 + 1 →
            gX12_linked_83 E L d vs x3 x4 x5_7 x6_8 m_5 Q)) ∧
         (¬ x8_4 = x4 →
            gX12_linked_131 E L d vs x3 x4 x6 x7_2 x8_4 x5 m Q)))) :
  gX12_linked_83 E L d vs x3 x4 x5 x6 m Q := by
  refine sm_iload (Y := mX12_linked) (pc := 83) 4 6 rfl dX12_linked_83 ?_
  refine sm_aload_n (Y := mX12_linked) (pc := 85) 0 0 rfl rfl dX12_linked_85 ?_
  refine gf_RX12_286 (Y := mX12_linked) (pc := 86) rfl ((lk_109 hly) _) dX12_linked_86 ?_
  refine sm_icmp_ge (Y := mX12_linked) (pc := 89) 163 (by decide) dX12_linked_89 (fun hc => ?_) (fun hc => ?_)
  · replace h := h.1 hc
    refine sm_iload (Y := mX12_linked) (pc := 163) 3 5 rfl dX12_linked_163 ?_
    refine sm_iconst (Y := mX12_linked) (pc := 165) 2 (by decide) dX12_linked_165 ?_
    refine sm_idiv (Y := mX12_linked) (pc := 166) (by decide) dX12_linked_166 ?_
    exact sm_iret (Y := mX12_linked) (pc := 167) rfl rfl rfl dX12_linked_167 ⟨_, rfl, h⟩
  · replace h := h.2 hc
    refine sm_aload_n (Y := mX12_linked) (pc := 92) 0 0 rfl rfl dX12_linked_92 ?_
    refine gf_RX12_94 (Y := mX12_linked) (pc := 93) (b := 136) rfl ((lk_109 hly) _) (lf_109_47 hly _) dX12_linked_93 ?_
    refine sm_iconst (Y := mX12_linked) (pc := 96) 2 (by decide) dX12_linked_96 ?_
    refine sm_iload (Y := mX12_linked) (pc := 97) 4 6 rfl dX12_linked_97 ?_
    refine sm_imul (Y := mX12_linked) (pc := 99) dX12_linked_99 ?_
    obtain ⟨hn_1, h⟩ := h
    refine sm_iald (Y := mX12_linked) (pc := 100) (la_136 hly _) hn_1 dX12_linked_100 ?_
    refine sm_istore (Y := mX12_linked) (pc := 101) (fun y => [(7, .int y), (0, .ref (sm_B E + 109)), (3, .int x3), (4, .int x4), (5, .int x5), (6, .int x6)]) 7 (by decide) (fun _ => rfl) dX12_linked_101 (fun x7_2 ex7_2 => ?_)
    replace h := h x7_2 ex7_2
    refine sm_aload_n (Y := mX12_linked) (pc := 103) 1 0 rfl rfl dX12_linked_103 ?_
    refine gf_RX12_94 (Y := mX12_linked) (pc := 104) (b := 136) rfl ((lk_109 hly) _) (lf_109_47 hly _) dX12_linked_104 ?_
    refine sm_iconst (Y := mX12_linked) (pc := 107) 2 (by decide) dX12_linked_107 ?_
    refine sm_iload (Y := mX12_linked) (pc := 108) 5 6 rfl dX12_linked_108 ?_
    refine sm_imul (Y := mX12_linked) (pc := 110) dX12_linked_110 ?_
    refine sm_iconst (Y := mX12_linked) (pc := 111) 1 (by decide) dX12_linked_111 ?_
    refine sm_iadd (Y := mX12_linked) (pc := 112) dX12_linked_112 ?_
    obtain ⟨hn_3, h⟩ := h
    refine sm_iald (Y := mX12_linked) (pc := 113) (la_136 hly _) hn_3 dX12_linked_113 ?_
    refine sm_istore (Y := mX12_linked) (pc := 114) (fun y => [(8, .int y), (7, .int x7_2), (0, .ref (sm_B E + 109)), (3, .int x3), (4, .int x4), (5, .int x5), (6, .int x6)]) 8 (by decide) (fun _ => rfl) dX12_linked_114 (fun x8_4 ex8_4 => ?_)
    replace h := h x8_4 ex8_4
    refine sm_iload (Y := mX12_linked) (pc := 116) 5 5 rfl dX12_linked_116 ?_
    refine sm_iload (Y := mX12_linked) (pc := 118) 1 7 rfl dX12_linked_118 ?_
    refine sm_iload_n (Y := mX12_linked) (pc := 120) 3 3 rfl rfl dX12_linked_120 ?_
    refine sm_icmp_ne (Y := mX12_linked) (pc := 121) 131 (by decide) dX12_linked_121 (fun hc => ?_) (fun hc => ?_)
    · replace h := h.1 hc
      refine sm_sub [2, 3, 4, 6, 1, 0] rfl ?_
      exact h
    · replace h := h.2 hc
      refine sm_iload (Y := mX12_linked) (pc := 124) 0 8 rfl dX12_linked_124 ?_
      refine sm_iload (Y := mX12_linked) (pc := 126) 4 4 rfl dX12_linked_126 ?_
      refine sm_icmp_eq (Y := mX12_linked) (pc := 128) 144 (by decide) dX12_linked_128 (fun hc => ?_) (fun hc => ?_)
      · replace h := h.1 hc
        refine sm_aload_n (Y := mX12_linked) (pc := 144) 2 0 rfl rfl dX12_linked_144 ?_
        refine sm_iload (Y := mX12_linked) (pc := 145) 6 6 rfl dX12_linked_145 ?_
        refine sm_iv_I (Y := mX12_linked) (pc := 147) (As := [.int x6]) (a := 109) fX12_signOf wRX12_331 (lk_109 hly) (by decide) rfl rfl rfl (Nat.le_trans (by decide) hd) (Nat.le_of_ble_eq_true rfl) ⟨Nat.le_refl _, Nat.le_refl _⟩ dX12_linked_147 rfl (sm_monoI h (fun r_6 m_5 h => ?_))
        refine sm_goto (Y := mX12_linked) (pc := 150) 154 (by decide) dX12_linked_150 ?_
        refine sm_iadd (Y := mX12_linked) (pc := 154) dX12_linked_154 ?_
        refine sm_istore (Y := mX12_linked) (pc := 155) (fun y => [(5, .int y), (8, .int x8_4), (7, .int x7_2), (0, .ref (sm_B E + 109)), (3, .int x3), (4, .int x4), (6, .int x6)]) 5 (by decide) (fun _ => rfl) dX12_linked_155 (fun x5_7 ex5_7 => ?_)
        replace h := h x5_7 ex5_7
        refine sm_iinc (Y := mX12_linked) (pc := 157) (fun y => [(6, .int y), (5, .int x5_7), (8, .int x8_4), (7, .int x7_2), (0, .ref (sm_B E + 109)), (3, .int x3), (4, .int x4)]) 6 6 rfl (by decide) (fun _ => rfl) dX12_linked_157 (fun x6_8 ex6_8 => ?_)
        replace h := h x6_8 ex6_8
        refine sm_goto (Y := mX12_linked) (pc := 160) 83 (by decide) dX12_linked_160 ?_
        refine sm_sub [4, 5, 6, 1, 0] rfl ?_
        exact h
      · replace h := h.2 hc
        refine sm_sub [2, 3, 4, 6, 1, 0] rfl ?_
        exact h
theorem dX12_linked_0 : decode cX12_linked 0 = .ok (.iload_n 1, 1) := dk_iload_n_1 (by decide +kernel)
theorem dX12_linked_1 : decode cX12_linked 1 = .ok (.invokestatic 184, 3) := dk_invokestatic 184 (b1 := 0) (b2 := 184) (by decide +kernel) (by decide +kernel) (by decide +kernel) (by decide +kernel)
theorem dX12_linked_4 : decode cX12_linked 4 = .ok (.ifCond .eq 10, 3) := dk_ifCond_eq 10 (b1 := 0) (b2 := 10) (by decide +kernel) (by decide +kernel) (by decide +kernel) (by decide +kernel)
theorem dX12_linked_14 : decode cX12_linked 14 = .ok (.aload_n 0, 1) := dk_aload_n_0 (by decide +kernel)
theorem dX12_linked_15 : decode cX12_linked 15 = .ok (.iconst 1, 1) := dk_iconst_1 (by decide +kernel)
theorem dX12_linked_16 : decode cX12_linked 16 = .ok (.invokevirtual 194, 3) := dk_invokevirtual 194 (b1 := 0) (b2 := 194) (by decide +kernel) (by decide +kernel) (by decide +kernel) (by decide +kernel)
theorem dX12_linked_19 : decode cX12_linked 19 = .ok (.ireturn, 1) := dk_ireturn (by decide +kernel)
theorem dX12_linked_7 : decode cX12_linked 7 = .ok (.iload_n 2, 1) := dk_iload_n_2 (by decide +kernel)
theorem dX12_linked_8 : decode cX12_linked 8 = .ok (.invokestatic 214, 3) := dk_invokestatic 214 (b1 := 0) (b2 := 214) (by decide +kernel) (by decide +kernel) (by decide +kernel) (by decide +kernel)
theorem dX12_linked_11 : decode cX12_linked 11 = .ok (.ifCond .ne 9, 3) := dk_ifCond_ne 9 (b1 := 0) (b2 := 9) (by decide +kernel) (by decide +kernel) (by decide +kernel) (by decide +kernel)
theorem dX12_linked_20 : decode cX12_linked 20 = .ok (.aload_n 0, 1) := dk_aload_n_0 (by decide +kernel)
theorem dX12_linked_21 : decode cX12_linked 21 = .ok (.iload_n 1, 1) := dk_iload_n_1 (by decide +kernel)
theorem dX12_linked_22 : decode cX12_linked 22 = .ok (.iload_n 2, 1) := dk_iload_n_2 (by decide +kernel)
theorem dX12_linked_23 : decode cX12_linked 23 = .ok (.invokevirtual 325, 3) := dk_invokevirtual 325 (b1 := 1) (b2 := 69) (by decide +kernel) (by decide +kernel) (by decide +kernel) (by decide +kernel)
theorem dX12_linked_26 : decode cX12_linked 26 = .ok (.iload_n 3, 1) := dk_iload_n_3 (by decide +kernel)
theorem dX12_linked_27 : decode cX12_linked 27 = .ok (.i2l, 1) := dk_i2l (by decide +kernel)
theorem dX12_linked_28 : decode cX12_linked 28 = .ok (.lconst 0, 1) := dk_lconst_0 (by decide +kernel)
theorem dX12_linked_29 : decode cX12_linked 29 = .ok (.aload_n 0, 1) := dk_aload_n_0 (by decide +kernel)
theorem dX12_linked_30 : decode cX12_linked 30 = .ok (.getfield 305, 3) := dk_getfield 305 (b1 := 1) (b2 := 49) (by decide +kernel) (by decide +kernel) (by decide +kernel) (by decide +kernel)
theorem dX12_linked_33 : decode cX12_linked 33 = .ok (.iconst 1, 1) := dk_iconst_1 (by decide +kernel)
theorem dX12_linked_34 : decode cX12_linked 34 = .ok (.isub, 1) := dk_isub (by decide +kernel)
theorem dX12_linked_35 : decode cX12_linked 35 = .ok (.i2l, 1) := dk_i2l (by decide +kernel)
theorem dX12_linked_36 : decode cX12_linked 36 = .ok (.invokestatic 190, 3) := dk_invokestatic 190 (b1 := 0) (b2 := 190) (by decide +kernel) (by decide +kernel) (by decide +kernel) (by decide +kernel)
theorem dX12_linked_39 : decode cX12_linked 39 = .ok (.ifCond .eq 20, 3) := dk_ifCond_eq 20 (b1 := 0) (b2 := 20) (by decide +kernel) (by decide +kernel) (by decide +kernel) (by decide +kernel)
theorem dX12_linked_59 : decode cX12_linked 59 = .ok (.aload_n 0, 1) := dk_aload_n_0 (by decide +kernel)
theorem dX12_linked_60 : decode cX12_linked 60 = .ok (.iconst 2, 1) := dk_iconst_2 (by decide +kernel)
theorem dX12_linked_61 : decode cX12_linked 61 = .ok (.invokevirtual 194, 3) := dk_invokevirtual 194 (b1 := 0) (b2 := 194) (by decide +kernel) (by decide +kernel) (by decide +kernel) (by decide +kernel)
theorem dX12_linked_64 : decode cX12_linked 64 = .ok (.ireturn, 1) := dk_ireturn (by decide +kernel)
theorem dX12_linked_42 : decode cX12_linked 42 = .ok (.iload 4, 2) := dk_iload 4 (b := 4) (by decide +kernel) (by decide +kernel) (by decide +kernel)
theorem dX12_linked_44 : decode cX12_linked 44 = .ok (.i2l, 1) := dk_i2l (by decide +kernel)
theorem dX12_linked_45 : decode cX12_linked 45 = .ok (.lconst 0, 1) := dk_lconst_0 (by decide +kernel)
theorem dX12_linked_46 : decode cX12_linked 46 = .ok (.aload_n 0, 1) := dk_aload_n_0 (by decide +kernel)
theorem dX12_linked_47 : decode cX12_linked 47 = .ok (.getfield 305, 3) := dk_getfield 305 (b1 := 1) (b2 := 49) (by decide +kernel) (by decide +kernel) (by decide +kernel) (by decide +kernel)
theorem dX12_linked_50 : decode cX12_linked 50 = .ok (.iconst 1, 1) := dk_iconst_1 (by decide +kernel)
theorem dX12_linked_51 : decode cX12_linked 51 = .ok (.isub, 1) := dk_isub (by decide +kernel)
theorem dX12_linked_52 : decode cX12_linked 52 = .ok (.i2l, 1) := dk_i2l (by decide +kernel)
theorem dX12_linked_53 : decode cX12_linked 53 = .ok (.invokestatic 190, 3) := dk_invokestatic 190 (b1 := 0) (b2 := 190) (by decide +kernel) (by decide +kernel) (by decide +kernel) (by decide +kernel)
theorem dX12_linked_56 : decode cX12_linked 56 = .ok (.ifCond .ne 9, 3) := dk_ifCond_ne 9 (b1 := 0) (b2 := 9) (by decide +kernel) (by decide +kernel) (by decide +kernel) (by decide +kernel)
theorem dX12_linked_65 : decode cX12_linked 65 = .ok (.iload_n 3, 1) := dk_iload_n_3 (by decide +kernel)
theorem dX12_linked_66 : decode cX12_linked 66 = .ok (.iload 4, 2) := dk_iload 4 (b := 4) (by decide +kernel) (by decide +kernel) (by decide +kernel)
theorem dX12_linked_68 : decode cX12_linked 68 = .ok (.if_icmp .ne 9, 3) := dk_if_icmp_ne 9 (b1 := 0) (b2 := 9) (by decide +kernel) (by decide +kernel) (by decide +kernel) (by decide +kernel)
theorem dX12_linked_77 : decode cX12_linked 77 = .ok (.iconst 0, 1) := dk_iconst_0 (by decide +kernel)
theorem dX12_linked_78 : decode cX12_linked 78 = .ok (.istore 5, 2) := dk_istore 5 (b := 5) (by decide +kernel) (by decide +kernel) (by decide +kernel)
theorem dX12_linked_80 : decode cX12_linked 80 = .ok (.iconst 0, 1) := dk_iconst_0 (by decide +kernel)
theorem dX12_linked_81 : decode cX12_linked 81 = .ok (.istore 6, 2) := dk_istore 6 (b := 6) (by decide +kernel) (by decide +kernel) (by decide +kernel)
theorem dX12_linked_71 : decode cX12_linked 71 = .ok (.aload_n 0, 1) := dk_aload_n_0 (by decide +kernel)
theorem dX12_linked_72 : decode cX12_linked 72 = .ok (.iconst 5, 1) := dk_iconst_5 (by decide +kernel)
theorem dX12_linked_73 : decode cX12_linked 73 = .ok (.invokevirtual 194, 3) := dk_invokevirtual 194 (b1 := 0) (b2 := 194) (by decide +kernel) (by decide +kernel) (by decide +kernel) (by decide +kernel)
theorem dX12_linked_76 : decode cX12_linked 76 = .ok (.ireturn, 1) := dk_ireturn (by decide +kernel)
set_option maxRecDepth 20000 in
theorem vX12_linked_0 {E : sm_E} {L : sm_S → Prop} {d : Nat} {x1 : Int32} {x2 : Int32} {x3 : Int32} {x4 : Int32}  {m : sm_M} {Q : Int32 → sm_M → Prop} (hly : ∀ S, L S → ly S) (hd : 5 ≤ d) 
  (h : sm_callI E L mX12_isSlot 1 0 0 [.int x1] m (fun r_2 m_1 =>
   (r_2 = 0 →
      sm_callI E L mX12_finds 1 0 0 [.ref (sm_B E + 109), .int 1] m_1 (fun r_4 m_3 =>
      Q r_4 m_3)) ∧
   (¬ r_2 = 0 →
      sm_callI E L mX12_isPart 1 0 0 [.int x2] m_1 (fun r_6 m_5 =>
      (¬ r_6 = 0 →
         sm_callV E L mX12_curves 4 0 0 [.ref (sm_B E + 109), .int x1, .int x2] m_5 (fun m_7 =>
         sm_callI E L mX12_isIn 1 0 0 [.long (x3.toInt64), .long 0, .long (((m_7.1 109 52) - 1).toInt64)] m_7 (fun r_9 m_8 =>
         (r_9 = 0 →
            sm_callI E L mX12_finds 1 0 0 [.ref (sm_B E + 109), .int 2] m_8 (fun r_11 m_10 =>
            Q r_11 m_10)) ∧
         (¬ r_9 = 0 →
            sm_callI E L mX12_isIn 1 0 0 [.long (x4.toInt64), .long 0, .long (((m_8.1 109 52) - 1).toInt64)] m_8 (fun r_13 m_12 =>
            (¬ r_13 = 0 →
               (¬ x3 = x4 →
                  gX12_linked_83 E L d ([.ref (sm_B E + 109), .int x1, .int x2, .int x3, .int x4]) x3 x4 0 0 m_12 Q) ∧
               (x3 = x4 →
                  sm_callI E L mX12_finds 1 0 0 [.ref (sm_B E + 109), .int 5] m_12 (fun r_17 m_16 =>
                  Q r_17 m_16))) ∧
            (r_13 = 0 →
               sm_callI E L mX12_finds 1 0 0 [.ref (sm_B E + 109), .int 2] m_12 (fun r_19 m_18 =>
               Q r_19 m_18))))))) ∧
      (r_6 = 0 →
         sm_callI E L mX12_finds 1 0 0 [.ref (sm_B E + 109), .int 1] m_5 (fun r_21 m_20 =>
         Q r_21 m_20)))))) :
  sm_callI E L mX12_linked d 0 0 [.ref (sm_B E + 109), .int x1, .int x2, .int x3, .int x4] m Q := by
  refine sm_enter (by decide +kernel) (by simp [lg_sl, Value.category]) ?_
  refine sm_iload_n (Y := mX12_linked) (pc := 0) 1 1 rfl rfl dX12_linked_0 ?_
  refine sm_is_I (Y := mX12_linked) (pc := 1) (As := [.int x1]) fX12_isSlot wRX12_184 rfl (Nat.le_trans (by decide) hd) (Nat.le_of_ble_eq_true rfl) ⟨Nat.le_refl _, Nat.le_refl _⟩ dX12_linked_1 rfl (sm_monoI h (fun r_2 m_1 h => ?_))
  refine sm_if_eq (Y := mX12_linked) (pc := 4) 14 (by decide) dX12_linked_4 (fun hc => ?_) (fun hc => ?_)
  · replace h := h.1 hc
    refine sm_aload_n (Y := mX12_linked) (pc := 14) 0 0 rfl rfl dX12_linked_14 ?_
    refine sm_iconst (Y := mX12_linked) (pc := 15) 1 (by decide) dX12_linked_15 ?_
    refine sm_iv_I (Y := mX12_linked) (pc := 16) (As := [.int 1]) (a := 109) fX12_finds wRX12_194 (lk_109 hly) (by decide) rfl rfl rfl (Nat.le_trans (by decide) hd) (Nat.le_of_ble_eq_true rfl) ⟨Nat.le_refl _, Nat.le_refl _⟩ dX12_linked_16 rfl (sm_monoI h (fun r_4 m_3 h => ?_))
    exact sm_iret (Y := mX12_linked) (pc := 19) rfl rfl rfl dX12_linked_19 ⟨_, rfl, h⟩
  · replace h := h.2 hc
    refine sm_iload_n (Y := mX12_linked) (pc := 7) 2 2 rfl rfl dX12_linked_7 ?_
    refine sm_is_I (Y := mX12_linked) (pc := 8) (As := [.int x2]) fX12_isPart wRX12_214 rfl (Nat.le_trans (by decide) hd) (Nat.le_of_ble_eq_true rfl) ⟨Nat.le_refl _, Nat.le_refl _⟩ dX12_linked_8 rfl (sm_monoI h (fun r_6 m_5 h => ?_))
    refine sm_if_ne (Y := mX12_linked) (pc := 11) 20 (by decide) dX12_linked_11 (fun hc => ?_) (fun hc => ?_)
    · replace h := h.1 hc
      refine sm_aload_n (Y := mX12_linked) (pc := 20) 0 0 rfl rfl dX12_linked_20 ?_
      refine sm_iload_n (Y := mX12_linked) (pc := 21) 1 1 rfl rfl dX12_linked_21 ?_
      refine sm_iload_n (Y := mX12_linked) (pc := 22) 2 2 rfl rfl dX12_linked_22 ?_
      refine sm_iv_V (Y := mX12_linked) (pc := 23) (As := [.int x1, .int x2]) (a := 109) fX12_curves wRX12_325 (lk_109 hly) (by decide) rfl rfl rfl (Nat.le_trans (by decide) hd) (Nat.le_of_ble_eq_true rfl) ⟨Nat.le_refl _, Nat.le_refl _⟩ dX12_linked_23 rfl (sm_monoV h (fun m_7 h => ?_))
      refine sm_iload_n (Y := mX12_linked) (pc := 26) 3 3 rfl rfl dX12_linked_26 ?_
      refine sm_i2l (Y := mX12_linked) (pc := 27) dX12_linked_27 ?_
      refine sm_lconst (Y := mX12_linked) (pc := 28) 0 (by decide) dX12_linked_28 ?_
      refine sm_aload_n (Y := mX12_linked) (pc := 29) 0 0 rfl rfl dX12_linked_29 ?_
      refine gf_RX12_305 (Y := mX12_linked) (pc := 30) rfl ((lk_109 hly) _) dX12_linked_30 ?_
      refine sm_iconst (Y := mX12_linked) (pc := 33) 1 (by decide) dX12_linked_33 ?_
      refine sm_isub (Y := mX12_linked) (pc := 34) dX12_linked_34 ?_
      refine sm_i2l (Y := mX12_linked) (pc := 35) dX12_linked_35 ?_
      refine sm_is_I (Y := mX12_linked) (pc := 36) (As := [.long (x3.toInt64), .long 0, .long (((m_7.1 109 52) - 1).toInt64)]) fX12_isIn wRX12_190 rfl (Nat.le_trans (by decide) hd) (Nat.le_of_ble_eq_true rfl) ⟨Nat.le_refl _, Nat.le_refl _⟩ dX12_linked_36 rfl (sm_monoI h (fun r_9 m_8 h => ?_))
      refine sm_if_eq (Y := mX12_linked) (pc := 39) 59 (by decide) dX12_linked_39 (fun hc => ?_) (fun hc => ?_)
      · replace h := h.1 hc
        refine sm_aload_n (Y := mX12_linked) (pc := 59) 0 0 rfl rfl dX12_linked_59 ?_
        refine sm_iconst (Y := mX12_linked) (pc := 60) 2 (by decide) dX12_linked_60 ?_
        refine sm_iv_I (Y := mX12_linked) (pc := 61) (As := [.int 2]) (a := 109) fX12_finds wRX12_194 (lk_109 hly) (by decide) rfl rfl rfl (Nat.le_trans (by decide) hd) (Nat.le_of_ble_eq_true rfl) ⟨Nat.le_refl _, Nat.le_refl _⟩ dX12_linked_61 rfl (sm_monoI h (fun r_11 m_10 h => ?_))
        exact sm_iret (Y := mX12_linked) (pc := 64) rfl rfl rfl dX12_linked_64 ⟨_, rfl, h⟩
      · replace h := h.2 hc
        refine sm_iload (Y := mX12_linked) (pc := 42) 4 4 rfl dX12_linked_42 ?_
        refine sm_i2l (Y := mX12_linked) (pc := 44) dX12_linked_44 ?_
        refine sm_lconst (Y := mX12_linked) (pc := 45) 0 (by decide) dX12_linked_45 ?_
        refine sm_aload_n (Y := mX12_linked) (pc := 46) 0 0 rfl rfl dX12_linked_46 ?_
        refine gf_RX12_305 (Y := mX12_linked) (pc := 47) rfl ((lk_109 hly) _) dX12_linked_47 ?_
        refine sm_iconst (Y := mX12_linked) (pc := 50) 1 (by decide) dX12_linked_50 ?_
        refine sm_isub (Y := mX12_linked) (pc := 51) dX12_linked_51 ?_
        refine sm_i2l (Y := mX12_linked) (pc := 52) dX12_linked_52 ?_
        refine sm_is_I (Y := mX12_linked) (pc := 53) (As := [.long (x4.toInt64), .long 0, .long (((m_8.1 109 52) - 1).toInt64)]) fX12_isIn wRX12_190 rfl (Nat.le_trans (by decide) hd) (Nat.le_of_ble_eq_true rfl) ⟨Nat.le_refl _, Nat.le_refl _⟩ dX12_linked_53 rfl (sm_monoI h (fun r_13 m_12 h => ?_))
        refine sm_if_ne (Y := mX12_linked) (pc := 56) 65 (by decide) dX12_linked_56 (fun hc => ?_) (fun hc => ?_)
        · replace h := h.1 hc
          refine sm_iload_n (Y := mX12_linked) (pc := 65) 3 3 rfl rfl dX12_linked_65 ?_
          refine sm_iload (Y := mX12_linked) (pc := 66) 4 4 rfl dX12_linked_66 ?_
          refine sm_icmp_ne (Y := mX12_linked) (pc := 68) 77 (by decide) dX12_linked_68 (fun hc => ?_) (fun hc => ?_)
          · replace h := h.1 hc
            refine sm_iconst (Y := mX12_linked) (pc := 77) 0 (by decide) dX12_linked_77 ?_
            refine sm_istore0 (Y := mX12_linked) (pc := 78) [(5, .int 0), (0, .ref (sm_B E + 109)), (1, .int x1), (2, .int x2), (3, .int x3), (4, .int x4)] 5 (by decide) rfl dX12_linked_78 ?_
            refine sm_iconst (Y := mX12_linked) (pc := 80) 0 (by decide) dX12_linked_80 ?_
            refine sm_istore0 (Y := mX12_linked) (pc := 81) [(6, .int 0), (5, .int 0), (0, .ref (sm_B E + 109)), (1, .int x1), (2, .int x2), (3, .int x3), (4, .int x4)] 6 (by decide) rfl dX12_linked_81 ?_
            refine sm_sub [2, 5, 6, 1, 0] rfl ?_
            exact h
          · replace h := h.2 hc
            refine sm_aload_n (Y := mX12_linked) (pc := 71) 0 0 rfl rfl dX12_linked_71 ?_
            refine sm_iconst (Y := mX12_linked) (pc := 72) 5 (by decide) dX12_linked_72 ?_
            refine sm_iv_I (Y := mX12_linked) (pc := 73) (As := [.int 5]) (a := 109) fX12_finds wRX12_194 (lk_109 hly) (by decide) rfl rfl rfl (Nat.le_trans (by decide) hd) (Nat.le_of_ble_eq_true rfl) ⟨Nat.le_refl _, Nat.le_refl _⟩ dX12_linked_73 rfl (sm_monoI h (fun r_17 m_16 h => ?_))
            exact sm_iret (Y := mX12_linked) (pc := 76) rfl rfl rfl dX12_linked_76 ⟨_, rfl, h⟩
        · replace h := h.2 hc
          refine sm_aload_n (Y := mX12_linked) (pc := 59) 0 0 rfl rfl dX12_linked_59 ?_
          refine sm_iconst (Y := mX12_linked) (pc := 60) 2 (by decide) dX12_linked_60 ?_
          refine sm_iv_I (Y := mX12_linked) (pc := 61) (As := [.int 2]) (a := 109) fX12_finds wRX12_194 (lk_109 hly) (by decide) rfl rfl rfl (Nat.le_trans (by decide) hd) (Nat.le_of_ble_eq_true rfl) ⟨Nat.le_refl _, Nat.le_refl _⟩ dX12_linked_61 rfl (sm_monoI h (fun r_19 m_18 h => ?_))
          exact sm_iret (Y := mX12_linked) (pc := 64) rfl rfl rfl dX12_linked_64 ⟨_, rfl, h⟩
    · replace h := h.2 hc
      refine sm_aload_n (Y := mX12_linked) (pc := 14) 0 0 rfl rfl dX12_linked_14 ?_
      refine sm_iconst (Y := mX12_linked) (pc := 15) 1 (by decide) dX12_linked_15 ?_
      refine sm_iv_I (Y := mX12_linked) (pc := 16) (As := [.int 1]) (a := 109) fX12_finds wRX12_194 (lk_109 hly) (by decide) rfl rfl rfl (Nat.le_trans (by decide) hd) (Nat.le_of_ble_eq_true rfl) ⟨Nat.le_refl _, Nat.le_refl _⟩ dX12_linked_16 rfl (sm_monoI h (fun r_21 m_20 h => ?_))
      exact sm_iret (Y := mX12_linked) (pc := 19) rfl rfl rfl dX12_linked_19 ⟨_, rfl, h⟩
abbrev mX12_gauss : sm_Y := (yX12_gauss, cX12_gauss, 8, (some FieldType.int))
theorem fX12_gauss : sm_mi mX12_gauss RX12 4 := ⟨sm_in 1558 (by decide +kernel) (by decide +kernel), sm_in 1556 (by decide +kernel) (by decide +kernel), sm_in 1557 (by decide +kernel) (by decide +kernel), sm_in 93 (by decide +kernel) (by decide +kernel), rfl, ⟨by decide +kernel, by decide +kernel, by decide +kernel⟩, by decide⟩
def gX12_gauss_87 (E : sm_E) (L : sm_S → Prop) (d : Nat) (vs : List Value) (x1 : Int32) (x4 : Int32) (x5 : Int32) (x6 : Int32) (m : sm_M) (Q : Int32 → sm_M → Prop) : Prop := sm_go E L mX12_gauss d 0 0 vs 87 [(0, .ref (sm_B E + 109)), (1, .int x1), (4, .int x4), (5, .int x5), (6, .int x6)] [] m 0 0 (sm_Z E L vs 0 0 (sm_QI Q))
theorem dX12_gauss_87 : decode cX12_gauss 87 = .ok (.iload 6, 2) := dk_iload 6 (b := 6) (by decide +kernel) (by decide +kernel) (by decide +kernel)
theorem dX12_gauss_89 : decode cX12_gauss 89 = .ok (.iload 5, 2) := dk_iload 5 (b := 5) (by decide +kernel) (by decide +kernel) (by decide +kernel)
theorem dX12_gauss_91 : decode cX12_gauss 91 = .ok (.if_icmp .ge 63, 3) := dk_if_icmp_ge 63 (b1 := 0) (b2 := 63) (by decide +kernel) (by decide +kernel) (by decide +kernel) (by decide +kernel)
theorem dX12_gauss_154 : decode cX12_gauss 154 = .ok (.iload 5, 2) := dk_iload 5 (b := 5) (by decide +kernel) (by decide +kernel) (by decide +kernel)
theorem dX12_gauss_156 : decode cX12_gauss 156 = .ok (.ireturn, 1) := dk_ireturn (by decide +kernel)
theorem dX12_gauss_94 : decode cX12_gauss 94 = .ok (.aload_n 0, 1) := dk_aload_n_0 (by decide +kernel)
theorem dX12_gauss_95 : decode cX12_gauss 95 = .ok (.getfield 100, 3) := dk_getfield 100 (b1 := 0) (b2 := 100) (by decide +kernel) (by decide +kernel) (by decide +kernel) (by decide +kernel)
theorem dX12_gauss_98 : decode cX12_gauss 98 = .ok (.aload_n 0, 1) := dk_aload_n_0 (by decide +kernel)
theorem dX12_gauss_99 : decode cX12_gauss 99 = .ok (.getfield 103, 3) := dk_getfield 103 (b1 := 0) (b2 := 103) (by decide +kernel) (by decide +kernel) (by decide +kernel) (by decide +kernel)
theorem dX12_gauss_102 : decode cX12_gauss 102 = .ok (.iload 4, 2) := dk_iload 4 (b := 4) (by decide +kernel) (by decide +kernel) (by decide +kernel)
theorem dX12_gauss_104 : decode cX12_gauss 104 = .ok (.iaload, 1) := dk_iaload (by decide +kernel)
theorem dX12_gauss_105 : decode cX12_gauss 105 = .ok (.iload 6, 2) := dk_iload 6 (b := 6) (by decide +kernel) (by decide +kernel) (by decide +kernel)
theorem dX12_gauss_107 : decode cX12_gauss 107 = .ok (.iadd, 1) := dk_iadd (by decide +kernel)
theorem dX12_gauss_108 : decode cX12_gauss 108 = .ok (.iaload, 1) := dk_iaload (by decide +kernel)
theorem dX12_gauss_109 : decode cX12_gauss 109 = .ok (.istore 7, 2) := dk_istore 7 (b := 7) (by decide +kernel) (by decide +kernel) (by decide +kernel)
theorem dX12_gauss_111 : decode cX12_gauss 111 = .ok (.aload_n 0, 1) := dk_aload_n_0 (by decide +kernel)
theorem dX12_gauss_112 : decode cX12_gauss 112 = .ok (.getfield 44, 3) := dk_getfield 44 (b1 := 0) (b2 := 44) (by decide +kernel) (by decide +kernel) (by decide +kernel) (by decide +kernel)
theorem dX12_gauss_115 : decode cX12_gauss 115 = .ok (.bipush 48, 2) := dk_bipush 48 (b := 48) (by decide +kernel) (by decide +kernel) (by decide +kernel)
theorem dX12_gauss_117 : decode cX12_gauss 117 = .ok (.iload_n 1, 1) := dk_iload_n_1 (by decide +kernel)
theorem dX12_gauss_118 : decode cX12_gauss 118 = .ok (.imul, 1) := dk_imul (by decide +kernel)
theorem dX12_gauss_119 : decode cX12_gauss 119 = .ok (.iload 6, 2) := dk_iload 6 (b := 6) (by decide +kernel) (by decide +kernel) (by decide +kernel)
theorem dX12_gauss_121 : decode cX12_gauss 121 = .ok (.iadd, 1) := dk_iadd (by decide +kernel)
theorem dX12_gauss_122 : decode cX12_gauss 122 = .ok (.iload 7, 2) := dk_iload 7 (b := 7) (by decide +kernel) (by decide +kernel) (by decide +kernel)
theorem dX12_gauss_124 : decode cX12_gauss 124 = .ok (.iconst 2, 1) := dk_iconst_2 (by decide +kernel)
theorem dX12_gauss_125 : decode cX12_gauss 125 = .ok (.irem, 1) := dk_irem (by decide +kernel)
theorem dX12_gauss_126 : decode cX12_gauss 126 = .ok (.ifCond .ne 13, 3) := dk_ifCond_ne 13 (b1 := 0) (b2 := 13) (by decide +kernel) (by decide +kernel) (by decide +kernel) (by decide +kernel)
theorem dX12_gauss_139 : decode cX12_gauss 139 = .ok (.iload 7, 2) := dk_iload 7 (b := 7) (by decide +kernel) (by decide +kernel) (by decide +kernel)
theorem dX12_gauss_141 : decode cX12_gauss 141 = .ok (.iconst 2, 1) := dk_iconst_2 (by decide +kernel)
theorem dX12_gauss_142 : decode cX12_gauss 142 = .ok (.idiv, 1) := dk_idiv (by decide +kernel)
theorem dX12_gauss_143 : decode cX12_gauss 143 = .ok (.iconst 1, 1) := dk_iconst_1 (by decide +kernel)
theorem dX12_gauss_144 : decode cX12_gauss 144 = .ok (.iadd, 1) := dk_iadd (by decide +kernel)
theorem dX12_gauss_145 : decode cX12_gauss 145 = .ok (.ineg, 1) := dk_ineg (by decide +kernel)
theorem dX12_gauss_146 : decode cX12_gauss 146 = .ok (.i2l, 1) := dk_i2l (by decide +kernel)
theorem dX12_gauss_147 : decode cX12_gauss 147 = .ok (.lastore, 1) := dk_lastore (by decide +kernel)
theorem dX12_gauss_148 : decode cX12_gauss 148 = .ok (.iinc 6 1, 3) := dk_iinc 6 1 (b1 := 6) (b2 := 1) (by decide +kernel) (by decide +kernel) (by decide +kernel) (by decide +kernel) (by decide +kernel)
theorem dX12_gauss_151 : decode cX12_gauss 151 = .ok (.goto (-64), 3) := dk_goto (-64) (b1 := 255) (b2 := 192) (by decide +kernel) (by decide +kernel) (by decide +kernel) (by decide +kernel)
theorem dX12_gauss_129 : decode cX12_gauss 129 = .ok (.iload 7, 2) := dk_iload 7 (b := 7) (by decide +kernel) (by decide +kernel) (by decide +kernel)
theorem dX12_gauss_131 : decode cX12_gauss 131 = .ok (.iconst 2, 1) := dk_iconst_2 (by decide +kernel)
theorem dX12_gauss_132 : decode cX12_gauss 132 = .ok (.idiv, 1) := dk_idiv (by decide +kernel)
theorem dX12_gauss_133 : decode cX12_gauss 133 = .ok (.iconst 1, 1) := dk_iconst_1 (by decide +kernel)
theorem dX12_gauss_134 : decode cX12_gauss 134 = .ok (.iadd, 1) := dk_iadd (by decide +kernel)
theorem dX12_gauss_135 : decode cX12_gauss 135 = .ok (.i2l, 1) := dk_i2l (by decide +kernel)
theorem dX12_gauss_136 : decode cX12_gauss 136 = .ok (.goto 11, 3) := dk_goto 11 (b1 := 0) (b2 := 11) (by decide +kernel) (by decide +kernel) (by decide +kernel) (by decide +kernel)
set_option maxRecDepth 20000 in
theorem vX12_gauss_87 {E : sm_E} {L : sm_S → Prop} {d : Nat} {vs : List Value} {x1 : Int32} {x4 : Int32} {x5 : Int32} {x6 : Int32}  {m : sm_M} {Q : Int32 → sm_M → Prop} (hly : ∀ S, L S → ly S) (hd : 5 ≤ d) 
  (h : (x5 ≤ x6 →
      Q x5 m) ∧
   (¬ x5 ≤ x6 →
      (vp_in x4 50) ∧ (vp_in ((m.1 139 x4.toNatClampNeg) + x6) 48) ∧ ∀ x7_3 : Int32, x7_3 = m.1 138 ((m.1 139 x4.toNatClampNeg) + x6).toNatClampNeg →
      (¬ (sm_rem x7_3 2) = 0 →
         (vp_in (((48 : Int32) * x1) + x6) 192) ∧ ∀ m_4 : sm_M, m_4 = sm_wJ m 120 (((48 : Int32) * x1) + x6).toNatClampNeg ((-((x7_3 / 2) + 1)).toInt64) →
         ∀ x6_6 : Int32, x6_6 = x6 + 1 →
         gX12_gauss_87 E L d vs x1 x4 x5 x6_6 m_4 Q) ∧
      ((sm_rem x7_3 2) = 0 →
         (vp_in (((48 : Int32) * x1) + x6) 192) ∧ ∀ m_7 : sm_M, m_7 = sm_wJ m 120 (((48 : Int32) * x1) + x6).toNatClampNeg (((x7_3 / 2) + 1).toInt64) →
         ∀ x6_9 : Int32, x6_9 = x6 + 1 →
         gX12_gauss_87 E L d vs x1 x4 x5 x6_9 m_7 Q))) :
  gX12_gauss_87 E L d vs x1 x4 x5 x6 m Q := by
  refine sm_iload (Y := mX12_gauss) (pc := 87) 4 6 rfl dX12_gauss_87 ?_
  refine sm_iload (Y := mX12_gauss) (pc := 89) 3 5 rfl dX12_gauss_89 ?_
  refine sm_icmp_ge (Y := mX12_gauss) (pc := 91) 154 (by decide) dX12_gauss_91 (fun hc => ?_) (fun hc => ?_)
  · replace h := h.1 hc
    refine sm_iload (Y := mX12_gauss) (pc := 154) 3 5 rfl dX12_gauss_154 ?_
    exact sm_iret (Y := mX12_gauss) (pc := 156) rfl rfl rfl dX12_gauss_156 ⟨_, rfl, h⟩
  · replace h := h.2 hc
    refine sm_aload_n (Y := mX12_gauss) (pc := 94) 0 0 rfl rfl dX12_gauss_94 ?_
    refine gf_RX12_100 (Y := mX12_gauss) (pc := 95) (b := 138) rfl ((lk_109 hly) _) (lf_109_49 hly _) dX12_gauss_95 ?_
    refine sm_aload_n (Y := mX12_gauss) (pc := 98) 0 0 rfl rfl dX12_gauss_98 ?_
    refine gf_RX12_103 (Y := mX12_gauss) (pc := 99) (b := 139) rfl ((lk_109 hly) _) (lf_109_50 hly _) dX12_gauss_99 ?_
    refine sm_iload (Y := mX12_gauss) (pc := 102) 2 4 rfl dX12_gauss_102 ?_
    obtain ⟨hn_1, h⟩ := h
    refine sm_iald (Y := mX12_gauss) (pc := 104) (la_139 hly _) hn_1 dX12_gauss_104 ?_
    refine sm_iload (Y := mX12_gauss) (pc := 105) 4 6 rfl dX12_gauss_105 ?_
    refine sm_iadd (Y := mX12_gauss) (pc := 107) dX12_gauss_107 ?_
    obtain ⟨hn_2, h⟩ := h
    refine sm_iald (Y := mX12_gauss) (pc := 108) (la_138 hly _) hn_2 dX12_gauss_108 ?_
    refine sm_istore (Y := mX12_gauss) (pc := 109) (fun y => [(7, .int y), (0, .ref (sm_B E + 109)), (1, .int x1), (4, .int x4), (5, .int x5), (6, .int x6)]) 7 (by decide) (fun _ => rfl) dX12_gauss_109 (fun x7_3 ex7_3 => ?_)
    replace h := h x7_3 ex7_3
    refine sm_aload_n (Y := mX12_gauss) (pc := 111) 1 0 rfl rfl dX12_gauss_111 ?_
    refine gf_RX12_44 (Y := mX12_gauss) (pc := 112) (b := 120) rfl ((lk_109 hly) _) (lf_109_16 hly _) dX12_gauss_112 ?_
    refine sm_bipush (Y := mX12_gauss) (pc := 115) 48 (by decide) dX12_gauss_115 ?_
    refine sm_iload_n (Y := mX12_gauss) (pc := 117) 2 1 rfl rfl dX12_gauss_117 ?_
    refine sm_imul (Y := mX12_gauss) (pc := 118) dX12_gauss_118 ?_
    refine sm_iload (Y := mX12_gauss) (pc := 119) 5 6 rfl dX12_gauss_119 ?_
    refine sm_iadd (Y := mX12_gauss) (pc := 121) dX12_gauss_121 ?_
    refine sm_iload (Y := mX12_gauss) (pc := 122) 0 7 rfl dX12_gauss_122 ?_
    refine sm_iconst (Y := mX12_gauss) (pc := 124) 2 (by decide) dX12_gauss_124 ?_
    refine sm_irem (Y := mX12_gauss) (pc := 125) (by decide) dX12_gauss_125 ?_
    refine sm_if_ne (Y := mX12_gauss) (pc := 126) 139 (by decide) dX12_gauss_126 (fun hc => ?_) (fun hc => ?_)
    · replace h := h.1 hc
      refine sm_iload (Y := mX12_gauss) (pc := 139) 0 7 rfl dX12_gauss_139 ?_
      refine sm_iconst (Y := mX12_gauss) (pc := 141) 2 (by decide) dX12_gauss_141 ?_
      refine sm_idiv (Y := mX12_gauss) (pc := 142) (by decide) dX12_gauss_142 ?_
      refine sm_iconst (Y := mX12_gauss) (pc := 143) 1 (by decide) dX12_gauss_143 ?_
      refine sm_iadd (Y := mX12_gauss) (pc := 144) dX12_gauss_144 ?_
      refine sm_ineg (Y := mX12_gauss) (pc := 145) dX12_gauss_145 ?_
      refine sm_i2l (Y := mX12_gauss) (pc := 146) dX12_gauss_146 ?_
      obtain ⟨hn_5, h⟩ := h
      refine sm_last (Y := mX12_gauss) (pc := 147) (la_120 hly _) hn_5 dX12_gauss_147 (fun m_4 em_4 => ?_)
      replace h := h m_4 em_4
      refine sm_iinc (Y := mX12_gauss) (pc := 148) (fun y => [(6, .int y), (7, .int x7_3), (0, .ref (sm_B E + 109)), (1, .int x1), (4, .int x4), (5, .int x5)]) 5 6 rfl (by decide) (fun _ => rfl) dX12_gauss_148 (fun x6_6 ex6_6 => ?_)
      replace h := h x6_6 ex6_6
      refine sm_goto (Y := mX12_gauss) (pc := 151) 87 (by decide) dX12_gauss_151 ?_
      refine sm_sub [2, 3, 4, 5, 0] rfl ?_
      exact h
    · replace h := h.2 hc
      refine sm_iload (Y := mX12_gauss) (pc := 129) 0 7 rfl dX12_gauss_129 ?_
      refine sm_iconst (Y := mX12_gauss) (pc := 131) 2 (by decide) dX12_gauss_131 ?_
      refine sm_idiv (Y := mX12_gauss) (pc := 132) (by decide) dX12_gauss_132 ?_
      refine sm_iconst (Y := mX12_gauss) (pc := 133) 1 (by decide) dX12_gauss_133 ?_
      refine sm_iadd (Y := mX12_gauss) (pc := 134) dX12_gauss_134 ?_
      refine sm_i2l (Y := mX12_gauss) (pc := 135) dX12_gauss_135 ?_
      refine sm_goto (Y := mX12_gauss) (pc := 136) 147 (by decide) dX12_gauss_136 ?_
      obtain ⟨hn_8, h⟩ := h
      refine sm_last (Y := mX12_gauss) (pc := 147) (la_120 hly _) hn_8 dX12_gauss_147 (fun m_7 em_7 => ?_)
      replace h := h m_7 em_7
      refine sm_iinc (Y := mX12_gauss) (pc := 148) (fun y => [(6, .int y), (7, .int x7_3), (0, .ref (sm_B E + 109)), (1, .int x1), (4, .int x4), (5, .int x5)]) 5 6 rfl (by decide) (fun _ => rfl) dX12_gauss_148 (fun x6_9 ex6_9 => ?_)
      replace h := h x6_9 ex6_9
      refine sm_goto (Y := mX12_gauss) (pc := 151) 87 (by decide) dX12_gauss_151 ?_
      refine sm_sub [2, 3, 4, 5, 0] rfl ?_
      exact h
theorem dX12_gauss_0 : decode cX12_gauss 0 = .ok (.iload_n 1, 1) := dk_iload_n_1 (by decide +kernel)
theorem wRX12_336 : Cond.methodLink RX12 336 yX12_isSheet ∈ sm_T := sm_in 1559 (by decide +kernel) (by decide +kernel)
theorem dX12_gauss_1 : decode cX12_gauss 1 = .ok (.invokestatic 336, 3) := dk_invokestatic 336 (b1 := 1) (b2 := 80) (by decide +kernel) (by decide +kernel) (by decide +kernel) (by decide +kernel)
theorem dX12_gauss_4 : decode cX12_gauss 4 = .ok (.ifCond .eq 17, 3) := dk_ifCond_eq 17 (b1 := 0) (b2 := 17) (by decide +kernel) (by decide +kernel) (by decide +kernel) (by decide +kernel)
theorem dX12_gauss_21 : decode cX12_gauss 21 = .ok (.aload_n 0, 1) := dk_aload_n_0 (by decide +kernel)
theorem dX12_gauss_22 : decode cX12_gauss 22 = .ok (.iconst 1, 1) := dk_iconst_1 (by decide +kernel)
theorem dX12_gauss_23 : decode cX12_gauss 23 = .ok (.invokevirtual 194, 3) := dk_invokevirtual 194 (b1 := 0) (b2 := 194) (by decide +kernel) (by decide +kernel) (by decide +kernel) (by decide +kernel)
theorem dX12_gauss_26 : decode cX12_gauss 26 = .ok (.ireturn, 1) := dk_ireturn (by decide +kernel)
theorem dX12_gauss_7 : decode cX12_gauss 7 = .ok (.iload_n 2, 1) := dk_iload_n_2 (by decide +kernel)
theorem dX12_gauss_8 : decode cX12_gauss 8 = .ok (.invokestatic 184, 3) := dk_invokestatic 184 (b1 := 0) (b2 := 184) (by decide +kernel) (by decide +kernel) (by decide +kernel) (by decide +kernel)
theorem dX12_gauss_11 : decode cX12_gauss 11 = .ok (.ifCond .eq 10, 3) := dk_ifCond_eq 10 (b1 := 0) (b2 := 10) (by decide +kernel) (by decide +kernel) (by decide +kernel) (by decide +kernel)
theorem dX12_gauss_14 : decode cX12_gauss 14 = .ok (.iload_n 3, 1) := dk_iload_n_3 (by decide +kernel)
theorem dX12_gauss_15 : decode cX12_gauss 15 = .ok (.invokestatic 214, 3) := dk_invokestatic 214 (b1 := 0) (b2 := 214) (by decide +kernel) (by decide +kernel) (by decide +kernel) (by decide +kernel)
theorem dX12_gauss_18 : decode cX12_gauss 18 = .ok (.ifCond .ne 9, 3) := dk_ifCond_ne 9 (b1 := 0) (b2 := 9) (by decide +kernel) (by decide +kernel) (by decide +kernel) (by decide +kernel)
theorem dX12_gauss_27 : decode cX12_gauss 27 = .ok (.aload_n 0, 1) := dk_aload_n_0 (by decide +kernel)
theorem dX12_gauss_28 : decode cX12_gauss 28 = .ok (.iload_n 2, 1) := dk_iload_n_2 (by decide +kernel)
theorem dX12_gauss_29 : decode cX12_gauss 29 = .ok (.iload_n 3, 1) := dk_iload_n_3 (by decide +kernel)
theorem dX12_gauss_30 : decode cX12_gauss 30 = .ok (.invokevirtual 325, 3) := dk_invokevirtual 325 (b1 := 1) (b2 := 69) (by decide +kernel) (by decide +kernel) (by decide +kernel) (by decide +kernel)
theorem dX12_gauss_33 : decode cX12_gauss 33 = .ok (.iload 4, 2) := dk_iload 4 (b := 4) (by decide +kernel) (by decide +kernel) (by decide +kernel)
theorem dX12_gauss_35 : decode cX12_gauss 35 = .ok (.i2l, 1) := dk_i2l (by decide +kernel)
theorem dX12_gauss_36 : decode cX12_gauss 36 = .ok (.lconst 0, 1) := dk_lconst_0 (by decide +kernel)
theorem dX12_gauss_37 : decode cX12_gauss 37 = .ok (.aload_n 0, 1) := dk_aload_n_0 (by decide +kernel)
theorem dX12_gauss_38 : decode cX12_gauss 38 = .ok (.getfield 305, 3) := dk_getfield 305 (b1 := 1) (b2 := 49) (by decide +kernel) (by decide +kernel) (by decide +kernel) (by decide +kernel)
theorem dX12_gauss_41 : decode cX12_gauss 41 = .ok (.iconst 1, 1) := dk_iconst_1 (by decide +kernel)
theorem dX12_gauss_42 : decode cX12_gauss 42 = .ok (.isub, 1) := dk_isub (by decide +kernel)
theorem dX12_gauss_43 : decode cX12_gauss 43 = .ok (.i2l, 1) := dk_i2l (by decide +kernel)
theorem dX12_gauss_44 : decode cX12_gauss 44 = .ok (.invokestatic 190, 3) := dk_invokestatic 190 (b1 := 0) (b2 := 190) (by decide +kernel) (by decide +kernel) (by decide +kernel) (by decide +kernel)
theorem dX12_gauss_47 : decode cX12_gauss 47 = .ok (.ifCond .ne 9, 3) := dk_ifCond_ne 9 (b1 := 0) (b2 := 9) (by decide +kernel) (by decide +kernel) (by decide +kernel) (by decide +kernel)
theorem dX12_gauss_56 : decode cX12_gauss 56 = .ok (.aload_n 0, 1) := dk_aload_n_0 (by decide +kernel)
theorem dX12_gauss_57 : decode cX12_gauss 57 = .ok (.getfield 103, 3) := dk_getfield 103 (b1 := 0) (b2 := 103) (by decide +kernel) (by decide +kernel) (by decide +kernel) (by decide +kernel)
theorem dX12_gauss_60 : decode cX12_gauss 60 = .ok (.iload 4, 2) := dk_iload 4 (b := 4) (by decide +kernel) (by decide +kernel) (by decide +kernel)
theorem dX12_gauss_62 : decode cX12_gauss 62 = .ok (.iconst 1, 1) := dk_iconst_1 (by decide +kernel)
theorem dX12_gauss_63 : decode cX12_gauss 63 = .ok (.iadd, 1) := dk_iadd (by decide +kernel)
theorem dX12_gauss_64 : decode cX12_gauss 64 = .ok (.iaload, 1) := dk_iaload (by decide +kernel)
theorem dX12_gauss_65 : decode cX12_gauss 65 = .ok (.aload_n 0, 1) := dk_aload_n_0 (by decide +kernel)
theorem dX12_gauss_66 : decode cX12_gauss 66 = .ok (.getfield 103, 3) := dk_getfield 103 (b1 := 0) (b2 := 103) (by decide +kernel) (by decide +kernel) (by decide +kernel) (by decide +kernel)
theorem dX12_gauss_69 : decode cX12_gauss 69 = .ok (.iload 4, 2) := dk_iload 4 (b := 4) (by decide +kernel) (by decide +kernel) (by decide +kernel)
theorem dX12_gauss_71 : decode cX12_gauss 71 = .ok (.iaload, 1) := dk_iaload (by decide +kernel)
theorem dX12_gauss_72 : decode cX12_gauss 72 = .ok (.isub, 1) := dk_isub (by decide +kernel)
theorem dX12_gauss_73 : decode cX12_gauss 73 = .ok (.istore 5, 2) := dk_istore 5 (b := 5) (by decide +kernel) (by decide +kernel) (by decide +kernel)
theorem dX12_gauss_75 : decode cX12_gauss 75 = .ok (.aload_n 0, 1) := dk_aload_n_0 (by decide +kernel)
theorem dX12_gauss_76 : decode cX12_gauss 76 = .ok (.iload_n 1, 1) := dk_iload_n_1 (by decide +kernel)
theorem dX12_gauss_77 : decode cX12_gauss 77 = .ok (.bipush 8, 2) := dk_bipush 8 (b := 8) (by decide +kernel) (by decide +kernel) (by decide +kernel)
theorem dX12_gauss_79 : decode cX12_gauss 79 = .ok (.iload 5, 2) := dk_iload 5 (b := 5) (by decide +kernel) (by decide +kernel) (by decide +kernel)
theorem wRX12_339 : Cond.methodLink RX12 339 yX12_lays ∈ sm_T := sm_in 1562 (by decide +kernel) (by decide +kernel)
abbrev mX12_lays : sm_Y := (yX12_lays, cX12_lays, 5, none)
theorem fX12_lays : sm_mi mX12_lays RX12 3 := ⟨sm_in 1565 (by decide +kernel) (by decide +kernel), sm_in 1564 (by decide +kernel) (by decide +kernel), sm_in 66 (by decide +kernel) (by decide +kernel), sm_in 93 (by decide +kernel) (by decide +kernel), rfl, ⟨by decide +kernel, by decide +kernel, by decide +kernel⟩, by decide⟩
theorem dX12_gauss_81 : decode cX12_gauss 81 = .ok (.invokevirtual 339, 3) := dk_invokevirtual 339 (b1 := 1) (b2 := 83) (by decide +kernel) (by decide +kernel) (by decide +kernel) (by decide +kernel)
theorem dX12_gauss_84 : decode cX12_gauss 84 = .ok (.iconst 0, 1) := dk_iconst_0 (by decide +kernel)
theorem dX12_gauss_85 : decode cX12_gauss 85 = .ok (.istore 6, 2) := dk_istore 6 (b := 6) (by decide +kernel) (by decide +kernel) (by decide +kernel)
theorem dX12_gauss_50 : decode cX12_gauss 50 = .ok (.aload_n 0, 1) := dk_aload_n_0 (by decide +kernel)
theorem dX12_gauss_51 : decode cX12_gauss 51 = .ok (.iconst 2, 1) := dk_iconst_2 (by decide +kernel)
theorem dX12_gauss_52 : decode cX12_gauss 52 = .ok (.invokevirtual 194, 3) := dk_invokevirtual 194 (b1 := 0) (b2 := 194) (by decide +kernel) (by decide +kernel) (by decide +kernel) (by decide +kernel)
theorem dX12_gauss_55 : decode cX12_gauss 55 = .ok (.ireturn, 1) := dk_ireturn (by decide +kernel)
set_option maxRecDepth 20000 in
theorem vX12_gauss_0 {E : sm_E} {L : sm_S → Prop} {d : Nat} {x1 : Int32} {x2 : Int32} {x3 : Int32} {x4 : Int32}  {m : sm_M} {Q : Int32 → sm_M → Prop} (hly : ∀ S, L S → ly S) (hd : 5 ≤ d) 
  (h : sm_callI E L mX12_isSheet 1 0 0 [.int x1] m (fun r_2 m_1 =>
   (r_2 = 0 →
      sm_callI E L mX12_finds 1 0 0 [.ref (sm_B E + 109), .int 1] m_1 (fun r_4 m_3 =>
      Q r_4 m_3)) ∧
   (¬ r_2 = 0 →
      sm_callI E L mX12_isSlot 1 0 0 [.int x2] m_1 (fun r_6 m_5 =>
      (r_6 = 0 →
         sm_callI E L mX12_finds 1 0 0 [.ref (sm_B E + 109), .int 1] m_5 (fun r_8 m_7 =>
         Q r_8 m_7)) ∧
      (¬ r_6 = 0 →
         sm_callI E L mX12_isPart 1 0 0 [.int x3] m_5 (fun r_10 m_9 =>
         (¬ r_10 = 0 →
            sm_callV E L mX12_curves 4 0 0 [.ref (sm_B E + 109), .int x2, .int x3] m_9 (fun m_11 =>
            sm_callI E L mX12_isIn 1 0 0 [.long (x4.toInt64), .long 0, .long (((m_11.1 109 52) - 1).toInt64)] m_11 (fun r_13 m_12 =>
            (¬ r_13 = 0 →
               (vp_in (x4 + 1) 50) ∧ (vp_in x4 50) ∧ ∀ x5_16 : Int32, x5_16 = (m_12.1 139 (x4 + 1).toNatClampNeg) - (m_12.1 139 x4.toNatClampNeg) →
               sm_callV E L mX12_lays 1 0 0 [.ref (sm_B E + 109), .int x1, .int 8, .int x5_16] m_12 (fun m_17 =>
               gX12_gauss_87 E L d ([.ref (sm_B E + 109), .int x1, .int x2, .int x3, .int x4]) x1 x4 x5_16 0 m_17 Q)) ∧
            (r_13 = 0 →
               sm_callI E L mX12_finds 1 0 0 [.ref (sm_B E + 109), .int 2] m_12 (fun r_20 m_19 =>
               Q r_20 m_19))))) ∧
         (r_10 = 0 →
            sm_callI E L mX12_finds 1 0 0 [.ref (sm_B E + 109), .int 1] m_9 (fun r_22 m_21 =>
            Q r_22 m_21)))))))) :
  sm_callI E L mX12_gauss d 0 0 [.ref (sm_B E + 109), .int x1, .int x2, .int x3, .int x4] m Q := by
  refine sm_enter (by decide +kernel) (by simp [lg_sl, Value.category]) ?_
  refine sm_iload_n (Y := mX12_gauss) (pc := 0) 1 1 rfl rfl dX12_gauss_0 ?_
  refine sm_is_I (Y := mX12_gauss) (pc := 1) (As := [.int x1]) fX12_isSheet wRX12_336 rfl (Nat.le_trans (by decide) hd) (Nat.le_of_ble_eq_true rfl) ⟨Nat.le_refl _, Nat.le_refl _⟩ dX12_gauss_1 rfl (sm_monoI h (fun r_2 m_1 h => ?_))
  refine sm_if_eq (Y := mX12_gauss) (pc := 4) 21 (by decide) dX12_gauss_4 (fun hc => ?_) (fun hc => ?_)
  · replace h := h.1 hc
    refine sm_aload_n (Y := mX12_gauss) (pc := 21) 0 0 rfl rfl dX12_gauss_21 ?_
    refine sm_iconst (Y := mX12_gauss) (pc := 22) 1 (by decide) dX12_gauss_22 ?_
    refine sm_iv_I (Y := mX12_gauss) (pc := 23) (As := [.int 1]) (a := 109) fX12_finds wRX12_194 (lk_109 hly) (by decide) rfl rfl rfl (Nat.le_trans (by decide) hd) (Nat.le_of_ble_eq_true rfl) ⟨Nat.le_refl _, Nat.le_refl _⟩ dX12_gauss_23 rfl (sm_monoI h (fun r_4 m_3 h => ?_))
    exact sm_iret (Y := mX12_gauss) (pc := 26) rfl rfl rfl dX12_gauss_26 ⟨_, rfl, h⟩
  · replace h := h.2 hc
    refine sm_iload_n (Y := mX12_gauss) (pc := 7) 2 2 rfl rfl dX12_gauss_7 ?_
    refine sm_is_I (Y := mX12_gauss) (pc := 8) (As := [.int x2]) fX12_isSlot wRX12_184 rfl (Nat.le_trans (by decide) hd) (Nat.le_of_ble_eq_true rfl) ⟨Nat.le_refl _, Nat.le_refl _⟩ dX12_gauss_8 rfl (sm_monoI h (fun r_6 m_5 h => ?_))
    refine sm_if_eq (Y := mX12_gauss) (pc := 11) 21 (by decide) dX12_gauss_11 (fun hc => ?_) (fun hc => ?_)
    · replace h := h.1 hc
      refine sm_aload_n (Y := mX12_gauss) (pc := 21) 0 0 rfl rfl dX12_gauss_21 ?_
      refine sm_iconst (Y := mX12_gauss) (pc := 22) 1 (by decide) dX12_gauss_22 ?_
      refine sm_iv_I (Y := mX12_gauss) (pc := 23) (As := [.int 1]) (a := 109) fX12_finds wRX12_194 (lk_109 hly) (by decide) rfl rfl rfl (Nat.le_trans (by decide) hd) (Nat.le_of_ble_eq_true rfl) ⟨Nat.le_refl _, Nat.le_refl _⟩ dX12_gauss_23 rfl (sm_monoI h (fun r_8 m_7 h => ?_))
      exact sm_iret (Y := mX12_gauss) (pc := 26) rfl rfl rfl dX12_gauss_26 ⟨_, rfl, h⟩
    · replace h := h.2 hc
      refine sm_iload_n (Y := mX12_gauss) (pc := 14) 3 3 rfl rfl dX12_gauss_14 ?_
      refine sm_is_I (Y := mX12_gauss) (pc := 15) (As := [.int x3]) fX12_isPart wRX12_214 rfl (Nat.le_trans (by decide) hd) (Nat.le_of_ble_eq_true rfl) ⟨Nat.le_refl _, Nat.le_refl _⟩ dX12_gauss_15 rfl (sm_monoI h (fun r_10 m_9 h => ?_))
      refine sm_if_ne (Y := mX12_gauss) (pc := 18) 27 (by decide) dX12_gauss_18 (fun hc => ?_) (fun hc => ?_)
      · replace h := h.1 hc
        refine sm_aload_n (Y := mX12_gauss) (pc := 27) 0 0 rfl rfl dX12_gauss_27 ?_
        refine sm_iload_n (Y := mX12_gauss) (pc := 28) 2 2 rfl rfl dX12_gauss_28 ?_
        refine sm_iload_n (Y := mX12_gauss) (pc := 29) 3 3 rfl rfl dX12_gauss_29 ?_
        refine sm_iv_V (Y := mX12_gauss) (pc := 30) (As := [.int x2, .int x3]) (a := 109) fX12_curves wRX12_325 (lk_109 hly) (by decide) rfl rfl rfl (Nat.le_trans (by decide) hd) (Nat.le_of_ble_eq_true rfl) ⟨Nat.le_refl _, Nat.le_refl _⟩ dX12_gauss_30 rfl (sm_monoV h (fun m_11 h => ?_))
        refine sm_iload (Y := mX12_gauss) (pc := 33) 4 4 rfl dX12_gauss_33 ?_
        refine sm_i2l (Y := mX12_gauss) (pc := 35) dX12_gauss_35 ?_
        refine sm_lconst (Y := mX12_gauss) (pc := 36) 0 (by decide) dX12_gauss_36 ?_
        refine sm_aload_n (Y := mX12_gauss) (pc := 37) 0 0 rfl rfl dX12_gauss_37 ?_
        refine gf_RX12_305 (Y := mX12_gauss) (pc := 38) rfl ((lk_109 hly) _) dX12_gauss_38 ?_
        refine sm_iconst (Y := mX12_gauss) (pc := 41) 1 (by decide) dX12_gauss_41 ?_
        refine sm_isub (Y := mX12_gauss) (pc := 42) dX12_gauss_42 ?_
        refine sm_i2l (Y := mX12_gauss) (pc := 43) dX12_gauss_43 ?_
        refine sm_is_I (Y := mX12_gauss) (pc := 44) (As := [.long (x4.toInt64), .long 0, .long (((m_11.1 109 52) - 1).toInt64)]) fX12_isIn wRX12_190 rfl (Nat.le_trans (by decide) hd) (Nat.le_of_ble_eq_true rfl) ⟨Nat.le_refl _, Nat.le_refl _⟩ dX12_gauss_44 rfl (sm_monoI h (fun r_13 m_12 h => ?_))
        refine sm_if_ne (Y := mX12_gauss) (pc := 47) 56 (by decide) dX12_gauss_47 (fun hc => ?_) (fun hc => ?_)
        · replace h := h.1 hc
          refine sm_aload_n (Y := mX12_gauss) (pc := 56) 0 0 rfl rfl dX12_gauss_56 ?_
          refine gf_RX12_103 (Y := mX12_gauss) (pc := 57) (b := 139) rfl ((lk_109 hly) _) (lf_109_50 hly _) dX12_gauss_57 ?_
          refine sm_iload (Y := mX12_gauss) (pc := 60) 4 4 rfl dX12_gauss_60 ?_
          refine sm_iconst (Y := mX12_gauss) (pc := 62) 1 (by decide) dX12_gauss_62 ?_
          refine sm_iadd (Y := mX12_gauss) (pc := 63) dX12_gauss_63 ?_
          obtain ⟨hn_14, h⟩ := h
          refine sm_iald (Y := mX12_gauss) (pc := 64) (la_139 hly _) hn_14 dX12_gauss_64 ?_
          refine sm_aload_n (Y := mX12_gauss) (pc := 65) 0 0 rfl rfl dX12_gauss_65 ?_
          refine gf_RX12_103 (Y := mX12_gauss) (pc := 66) (b := 139) rfl ((lk_109 hly) _) (lf_109_50 hly _) dX12_gauss_66 ?_
          refine sm_iload (Y := mX12_gauss) (pc := 69) 4 4 rfl dX12_gauss_69 ?_
          obtain ⟨hn_15, h⟩ := h
          refine sm_iald (Y := mX12_gauss) (pc := 71) (la_139 hly _) hn_15 dX12_gauss_71 ?_
          refine sm_isub (Y := mX12_gauss) (pc := 72) dX12_gauss_72 ?_
          refine sm_istore (Y := mX12_gauss) (pc := 73) (fun y => [(5, .int y), (0, .ref (sm_B E + 109)), (1, .int x1), (2, .int x2), (3, .int x3), (4, .int x4)]) 5 (by decide) (fun _ => rfl) dX12_gauss_73 (fun x5_16 ex5_16 => ?_)
          replace h := h x5_16 ex5_16
          refine sm_aload_n (Y := mX12_gauss) (pc := 75) 1 0 rfl rfl dX12_gauss_75 ?_
          refine sm_iload_n (Y := mX12_gauss) (pc := 76) 2 1 rfl rfl dX12_gauss_76 ?_
          refine sm_bipush (Y := mX12_gauss) (pc := 77) 8 (by decide) dX12_gauss_77 ?_
          refine sm_iload (Y := mX12_gauss) (pc := 79) 0 5 rfl dX12_gauss_79 ?_
          refine sm_iv_V (Y := mX12_gauss) (pc := 81) (As := [.int x1, .int 8, .int x5_16]) (a := 109) fX12_lays wRX12_339 (lk_109 hly) (by decide) rfl rfl rfl (Nat.le_trans (by decide) hd) (Nat.le_of_ble_eq_true rfl) ⟨Nat.le_refl _, Nat.le_refl _⟩ dX12_gauss_81 rfl (sm_monoV h (fun m_17 h => ?_))
          refine sm_iconst (Y := mX12_gauss) (pc := 84) 0 (by decide) dX12_gauss_84 ?_
          refine sm_istore0 (Y := mX12_gauss) (pc := 85) [(6, .int 0), (5, .int x5_16), (0, .ref (sm_B E + 109)), (1, .int x1), (2, .int x2), (3, .int x3), (4, .int x4)] 6 (by decide) rfl dX12_gauss_85 ?_
          refine sm_sub [2, 3, 6, 1, 0] rfl ?_
          exact h
        · replace h := h.2 hc
          refine sm_aload_n (Y := mX12_gauss) (pc := 50) 0 0 rfl rfl dX12_gauss_50 ?_
          refine sm_iconst (Y := mX12_gauss) (pc := 51) 2 (by decide) dX12_gauss_51 ?_
          refine sm_iv_I (Y := mX12_gauss) (pc := 52) (As := [.int 2]) (a := 109) fX12_finds wRX12_194 (lk_109 hly) (by decide) rfl rfl rfl (Nat.le_trans (by decide) hd) (Nat.le_of_ble_eq_true rfl) ⟨Nat.le_refl _, Nat.le_refl _⟩ dX12_gauss_52 rfl (sm_monoI h (fun r_20 m_19 h => ?_))
          exact sm_iret (Y := mX12_gauss) (pc := 55) rfl rfl rfl dX12_gauss_55 ⟨_, rfl, h⟩
      · replace h := h.2 hc
        refine sm_aload_n (Y := mX12_gauss) (pc := 21) 0 0 rfl rfl dX12_gauss_21 ?_
        refine sm_iconst (Y := mX12_gauss) (pc := 22) 1 (by decide) dX12_gauss_22 ?_
        refine sm_iv_I (Y := mX12_gauss) (pc := 23) (As := [.int 1]) (a := 109) fX12_finds wRX12_194 (lk_109 hly) (by decide) rfl rfl rfl (Nat.le_trans (by decide) hd) (Nat.le_of_ble_eq_true rfl) ⟨Nat.le_refl _, Nat.le_refl _⟩ dX12_gauss_23 rfl (sm_monoI h (fun r_22 m_21 h => ?_))
        exact sm_iret (Y := mX12_gauss) (pc := 26) rfl rfl rfl dX12_gauss_26 ⟨_, rfl, h⟩
abbrev mX12_at : sm_Y := (yX12_at, cX12_at, 3, (some FieldType.int))
theorem fX12_at : sm_mi mX12_at RX12 2 := ⟨sm_in 1573 (by decide +kernel) (by decide +kernel), sm_in 1572 (by decide +kernel) (by decide +kernel), sm_in 67 (by decide +kernel) (by decide +kernel), sm_in 93 (by decide +kernel) (by decide +kernel), rfl, ⟨by decide +kernel, by decide +kernel, by decide +kernel⟩, by decide⟩
theorem dX12_at_0 : decode cX12_at 0 = .ok (.aload_n 0, 1) := dk_aload_n_0 (by decide +kernel)
theorem dX12_at_1 : decode cX12_at 1 = .ok (.getfield 118, 3) := dk_getfield 118 (b1 := 0) (b2 := 118) (by decide +kernel) (by decide +kernel) (by decide +kernel) (by decide +kernel)
theorem dX12_at_4 : decode cX12_at 4 = .ok (.bipush 80, 2) := dk_bipush 80 (b := 80) (by decide +kernel) (by decide +kernel) (by decide +kernel)
theorem dX12_at_6 : decode cX12_at 6 = .ok (.iload_n 1, 1) := dk_iload_n_1 (by decide +kernel)
theorem dX12_at_7 : decode cX12_at 7 = .ok (.imul, 1) := dk_imul (by decide +kernel)
theorem dX12_at_8 : decode cX12_at 8 = .ok (.iload_n 2, 1) := dk_iload_n_2 (by decide +kernel)
theorem dX12_at_9 : decode cX12_at 9 = .ok (.iadd, 1) := dk_iadd (by decide +kernel)
theorem dX12_at_10 : decode cX12_at 10 = .ok (.iaload, 1) := dk_iaload (by decide +kernel)
theorem dX12_at_11 : decode cX12_at 11 = .ok (.ireturn, 1) := dk_ireturn (by decide +kernel)
set_option maxRecDepth 20000 in
theorem vX12_at_0 {E : sm_E} {L : sm_S → Prop} {d : Nat} {x1 : Int32} {x2 : Int32}  {m : sm_M} {Q : Int32 → sm_M → Prop} (hly : ∀ S, L S → ly S) (hd : 1 ≤ d) 
  (h : (vp_in (((80 : Int32) * x1) + x2) 1920) ∧ Q (m.1 144 (((80 : Int32) * x1) + x2).toNatClampNeg) m) :
  sm_callI E L mX12_at d 0 0 [.ref (sm_B E + 109), .int x1, .int x2] m Q := by
  refine sm_enter (by decide +kernel) (by simp [lg_sl, Value.category]) ?_
  refine sm_aload_n (Y := mX12_at) (pc := 0) 0 0 rfl rfl dX12_at_0 ?_
  refine gf_RX12_118 (Y := mX12_at) (pc := 1) (b := 144) rfl ((lk_109 hly) _) (lf_109_59 hly _) dX12_at_1 ?_
  refine sm_bipush (Y := mX12_at) (pc := 4) 80 (by decide) dX12_at_4 ?_
  refine sm_iload_n (Y := mX12_at) (pc := 6) 1 1 rfl rfl dX12_at_6 ?_
  refine sm_imul (Y := mX12_at) (pc := 7) dX12_at_7 ?_
  refine sm_iload_n (Y := mX12_at) (pc := 8) 2 2 rfl rfl dX12_at_8 ?_
  refine sm_iadd (Y := mX12_at) (pc := 9) dX12_at_9 ?_
  obtain ⟨hn_1, h⟩ := h
  refine sm_iald (Y := mX12_at) (pc := 10) (la_144 hly _) hn_1 dX12_at_10 ?_
  exact sm_iret (Y := mX12_at) (pc := 11) rfl rfl rfl dX12_at_11 ⟨_, rfl, h⟩
abbrev mX12_turned : sm_Y := (yX12_turned, cX12_turned, 3, (some FieldType.int))
theorem fX12_turned : sm_mt mX12_turned 2 := ⟨sm_in 1576 (by decide +kernel) (by decide +kernel), sm_in 1575 (by decide +kernel) (by decide +kernel), sm_in 93 (by decide +kernel) (by decide +kernel), ⟨by decide +kernel, by decide +kernel, by decide +kernel⟩, by decide⟩
def gX12_turned_2 (E : sm_E) (L : sm_S → Prop) (d : Nat) (vs : List Value) (x0 : Int32) (x1 : Int32) (x2 : Int32) (m : sm_M) (Q : Int32 → sm_M → Prop) : Prop := sm_go E L mX12_turned d 0 0 vs 2 [(0, .int x0), (1, .int x1), (2, .int x2)] [] m 0 0 (sm_Z E L vs 0 0 (sm_QI Q))
theorem dX12_turned_2 : decode cX12_turned 2 = .ok (.iload_n 2, 1) := dk_iload_n_2 (by decide +kernel)
theorem dX12_turned_3 : decode cX12_turned 3 = .ok (.iload_n 0, 1) := dk_iload_n_0 (by decide +kernel)
theorem dX12_turned_4 : decode cX12_turned 4 = .ok (.imul, 1) := dk_imul (by decide +kernel)
theorem dX12_turned_5 : decode cX12_turned 5 = .ok (.iload_n 1, 1) := dk_iload_n_1 (by decide +kernel)
theorem dX12_turned_6 : decode cX12_turned 6 = .ok (.irem, 1) := dk_irem (by decide +kernel)
theorem dX12_turned_7 : decode cX12_turned 7 = .ok (.iconst 1, 1) := dk_iconst_1 (by decide +kernel)
theorem dX12_turned_8 : decode cX12_turned 8 = .ok (.if_icmp .eq 9, 3) := dk_if_icmp_eq 9 (b1 := 0) (b2 := 9) (by decide +kernel) (by decide +kernel) (by decide +kernel) (by decide +kernel)
theorem dX12_turned_17 : decode cX12_turned 17 = .ok (.iload_n 2, 1) := dk_iload_n_2 (by decide +kernel)
theorem dX12_turned_18 : decode cX12_turned 18 = .ok (.ireturn, 1) := dk_ireturn (by decide +kernel)
theorem dX12_turned_11 : decode cX12_turned 11 = .ok (.iinc 2 1, 3) := dk_iinc 2 1 (b1 := 2) (b2 := 1) (by decide +kernel) (by decide +kernel) (by decide +kernel) (by decide +kernel) (by decide +kernel)
theorem dX12_turned_14 : decode cX12_turned 14 = .ok (.goto (-12), 3) := dk_goto (-12) (b1 := 255) (b2 := 244) (by decide +kernel) (by decide +kernel) (by decide +kernel) (by decide +kernel)
set_option maxRecDepth 20000 in
theorem vX12_turned_2 {E : sm_E} {L : sm_S → Prop} {d : Nat} {vs : List Value} {x0 : Int32} {x1 : Int32} {x2 : Int32}  {m : sm_M} {Q : Int32 → sm_M → Prop}  (hd : 1 ≤ d) 
  (h : (¬ x1 = 0) ∧ ((sm_rem (x2 * x0) x1) = 1 →
      Q x2 m) ∧
   (¬ (sm_rem (x2 * x0) x1) = 1 →
      ∀ x2_2 : Int32, x2_2 = x2 + 1 →
      gX12_turned_2 E L d vs x0 x1 x2_2 m Q)) :
  gX12_turned_2 E L d vs x0 x1 x2 m Q := by
  refine sm_iload_n (Y := mX12_turned) (pc := 2) 2 2 rfl rfl dX12_turned_2 ?_
  refine sm_iload_n (Y := mX12_turned) (pc := 3) 0 0 rfl rfl dX12_turned_3 ?_
  refine sm_imul (Y := mX12_turned) (pc := 4) dX12_turned_4 ?_
  refine sm_iload_n (Y := mX12_turned) (pc := 5) 1 1 rfl rfl dX12_turned_5 ?_
  obtain ⟨hn_1, h⟩ := h
  refine sm_irem (Y := mX12_turned) (pc := 6) hn_1 dX12_turned_6 ?_
  refine sm_iconst (Y := mX12_turned) (pc := 7) 1 (by decide) dX12_turned_7 ?_
  refine sm_icmp_eq (Y := mX12_turned) (pc := 8) 17 (by decide) dX12_turned_8 (fun hc => ?_) (fun hc => ?_)
  · replace h := h.1 hc
    refine sm_iload_n (Y := mX12_turned) (pc := 17) 2 2 rfl rfl dX12_turned_17 ?_
    exact sm_iret (Y := mX12_turned) (pc := 18) rfl rfl rfl dX12_turned_18 ⟨_, rfl, h⟩
  · replace h := h.2 hc
    refine sm_iinc (Y := mX12_turned) (pc := 11) (fun y => [(2, .int y), (0, .int x0), (1, .int x1)]) 2 2 rfl (by decide) (fun _ => rfl) dX12_turned_11 (fun x2_2 ex2_2 => ?_)
    replace h := h x2_2 ex2_2
    refine sm_goto (Y := mX12_turned) (pc := 14) 2 (by decide) dX12_turned_14 ?_
    refine sm_sub [1, 2, 0] rfl ?_
    exact h
theorem dX12_turned_0 : decode cX12_turned 0 = .ok (.iconst 1, 1) := dk_iconst_1 (by decide +kernel)
theorem dX12_turned_1 : decode cX12_turned 1 = .ok (.istore_n 2, 1) := dk_istore_n_2 (by decide +kernel)
set_option maxRecDepth 20000 in
theorem vX12_turned_0 {E : sm_E} {L : sm_S → Prop} {d : Nat} {x0 : Int32} {x1 : Int32}  {m : sm_M} {Q : Int32 → sm_M → Prop}  (hd : 1 ≤ d) 
  (h : gX12_turned_2 E L d ([.int x0, .int x1]) x0 x1 1 m Q) :
  sm_callI E L mX12_turned d 0 0 [.int x0, .int x1] m Q := by
  refine sm_enter (by decide +kernel) (by simp [lg_sl, Value.category]) ?_
  refine sm_iconst (Y := mX12_turned) (pc := 0) 1 (by decide) dX12_turned_0 ?_
  refine sm_istore0_n (Y := mX12_turned) (pc := 1) [(2, .int 1), (0, .int x0), (1, .int x1)] 2 rfl (by decide) rfl dX12_turned_1 ?_
  refine sm_sub [1, 2, 0] rfl ?_
  exact h
abbrev mX12_colours : sm_Y := (yX12_colours, cX12_colours, 12, (some FieldType.int))
theorem fX12_colours : sm_mi mX12_colours RX12 3 := ⟨sm_in 1569 (by decide +kernel) (by decide +kernel), sm_in 1567 (by decide +kernel) (by decide +kernel), sm_in 1568 (by decide +kernel) (by decide +kernel), sm_in 93 (by decide +kernel) (by decide +kernel), rfl, ⟨by decide +kernel, by decide +kernel, by decide +kernel⟩, by decide⟩
def gX12_colours_410 (E : sm_E) (L : sm_S → Prop) (d : Nat) (vs : List Value) (x3 : Int32) (x5 : Int32) (x6 : Int32) (x8 : Int32) (x9 : Int32) (x10 : Int32) (x11 : Int32) (m : sm_M) (Q : Int32 → sm_M → Prop) : Prop := sm_go E L mX12_colours d 0 0 vs 410 [(0, .ref (sm_B E + 109)), (3, .int x3), (5, .int x5), (6, .int x6), (8, .int x8), (9, .int x9), (10, .int x10), (11, .int x11)] [] m 0 0 (sm_Z E L vs 0 0 (sm_QI Q))
def gX12_colours_372 (E : sm_E) (L : sm_S → Prop) (d : Nat) (vs : List Value) (x3 : Int32) (x5 : Int32) (x6 : Int32) (x8 : Int32) (x9 : Int32) (m : sm_M) (Q : Int32 → sm_M → Prop) : Prop := sm_go E L mX12_colours d 0 0 vs 372 [(0, .ref (sm_B E + 109)), (3, .int x3), (5, .int x5), (6, .int x6), (8, .int x8), (9, .int x9)] [] m 0 0 (sm_Z E L vs 0 0 (sm_QI Q))
def gX12_colours_294 (E : sm_E) (L : sm_S → Prop) (d : Nat) (vs : List Value) (x3 : Int32) (x5 : Int32) (x6 : Int32) (x7 : Int32) (x8 : Int32) (m : sm_M) (Q : Int32 → sm_M → Prop) : Prop := sm_go E L mX12_colours d 0 0 vs 294 [(0, .ref (sm_B E + 109)), (3, .int x3), (5, .int x5), (6, .int x6), (7, .int x7), (8, .int x8)] [] m 0 0 (sm_Z E L vs 0 0 (sm_QI Q))
def gX12_colours_253 (E : sm_E) (L : sm_S → Prop) (d : Nat) (vs : List Value) (x3 : Int32) (x5 : Int32) (x6 : Int32) (x7 : Int32) (m : sm_M) (Q : Int32 → sm_M → Prop) : Prop := sm_go E L mX12_colours d 0 0 vs 253 [(0, .ref (sm_B E + 109)), (3, .int x3), (5, .int x5), (6, .int x6), (7, .int x7)] [] m 0 0 (sm_Z E L vs 0 0 (sm_QI Q))
def gX12_colours_231 (E : sm_E) (L : sm_S → Prop) (d : Nat) (vs : List Value) (x3 : Int32) (x5 : Int32) (x6 : Int32) (m : sm_M) (Q : Int32 → sm_M → Prop) : Prop := sm_go E L mX12_colours d 0 0 vs 231 [(0, .ref (sm_B E + 109)), (3, .int x3), (5, .int x5), (6, .int x6)] [] m 0 0 (sm_Z E L vs 0 0 (sm_QI Q))
def gX12_colours_187 (E : sm_E) (L : sm_S → Prop) (d : Nat) (vs : List Value) (x3 : Int32) (x5 : Int32) (x6 : Int32) (m : sm_M) (Q : Int32 → sm_M → Prop) : Prop := sm_go E L mX12_colours d 0 0 vs 187 [(0, .ref (sm_B E + 109)), (3, .int x3), (5, .int x5), (6, .int x6)] [] m 0 0 (sm_Z E L vs 0 0 (sm_QI Q))
def gX12_colours_105 (E : sm_E) (L : sm_S → Prop) (d : Nat) (vs : List Value) (x3 : Int32) (x5 : Int32) (m : sm_M) (Q : Int32 → sm_M → Prop) : Prop := sm_go E L mX12_colours d 0 0 vs 105 [(0, .ref (sm_B E + 109)), (3, .int x3), (5, .int x5)] [] m 0 0 (sm_Z E L vs 0 0 (sm_QI Q))
def gX12_colours_78 (E : sm_E) (L : sm_S → Prop) (d : Nat) (vs : List Value) (x3 : Int32) (x5 : Int32) (m : sm_M) (Q : Int32 → sm_M → Prop) : Prop := sm_go E L mX12_colours d 0 0 vs 78 [(0, .ref (sm_B E + 109)), (3, .int x3), (5, .int x5)] [] m 0 0 (sm_Z E L vs 0 0 (sm_QI Q))
def gX12_colours_38 (E : sm_E) (L : sm_S → Prop) (d : Nat) (vs : List Value) (x1 : Int32) (x2 : Int32) (x3 : Int32) (s0 : Int32) (m : sm_M) (Q : Int32 → sm_M → Prop) : Prop := sm_go E L mX12_colours d 0 0 vs 38 [(0, .ref (sm_B E + 109)), (1, .int x1), (2, .int x2), (3, .int x3)] [.int s0] m 0 0 (sm_Z E L vs 0 0 (sm_QI Q))
theorem dX12_colours_410 : decode cX12_colours 410 = .ok (.iload 11, 2) := dk_iload 11 (b := 11) (by decide +kernel) (by decide +kernel) (by decide +kernel)
theorem dX12_colours_412 : decode cX12_colours 412 = .ok (.aload_n 0, 1) := dk_aload_n_0 (by decide +kernel)
theorem dX12_colours_413 : decode cX12_colours 413 = .ok (.getfield 320, 3) := dk_getfield 320 (b1 := 1) (b2 := 64) (by decide +kernel) (by decide +kernel) (by decide +kernel) (by decide +kernel)
theorem dX12_colours_416 : decode cX12_colours 416 = .ok (.if_icmp .ge 51, 3) := dk_if_icmp_ge 51 (b1 := 0) (b2 := 51) (by decide +kernel) (by decide +kernel) (by decide +kernel) (by decide +kernel)
theorem dX12_colours_467 : decode cX12_colours 467 = .ok (.iinc 9 1, 3) := dk_iinc 9 1 (b1 := 9) (b2 := 1) (by decide +kernel) (by decide +kernel) (by decide +kernel) (by decide +kernel) (by decide +kernel)
theorem dX12_colours_470 : decode cX12_colours 470 = .ok (.goto (-98), 3) := dk_goto (-98) (b1 := 255) (b2 := 158) (by decide +kernel) (by decide +kernel) (by decide +kernel) (by decide +kernel)
theorem dX12_colours_419 : decode cX12_colours 419 = .ok (.iload 10, 2) := dk_iload 10 (b := 10) (by decide +kernel) (by decide +kernel) (by decide +kernel)
theorem dX12_colours_421 : decode cX12_colours 421 = .ok (.ifCond .le 46, 3) := dk_ifCond_le 46 (b1 := 0) (b2 := 46) (by decide +kernel) (by decide +kernel) (by decide +kernel) (by decide +kernel)
theorem dX12_colours_424 : decode cX12_colours 424 = .ok (.aload_n 0, 1) := dk_aload_n_0 (by decide +kernel)
theorem dX12_colours_425 : decode cX12_colours 425 = .ok (.getfield 118, 3) := dk_getfield 118 (b1 := 0) (b2 := 118) (by decide +kernel) (by decide +kernel) (by decide +kernel) (by decide +kernel)
theorem dX12_colours_428 : decode cX12_colours 428 = .ok (.bipush 80, 2) := dk_bipush 80 (b := 80) (by decide +kernel) (by decide +kernel) (by decide +kernel)
theorem dX12_colours_430 : decode cX12_colours 430 = .ok (.iload 9, 2) := dk_iload 9 (b := 9) (by decide +kernel) (by decide +kernel) (by decide +kernel)
theorem dX12_colours_432 : decode cX12_colours 432 = .ok (.imul, 1) := dk_imul (by decide +kernel)
theorem dX12_colours_433 : decode cX12_colours 433 = .ok (.iload 11, 2) := dk_iload 11 (b := 11) (by decide +kernel) (by decide +kernel) (by decide +kernel)
theorem dX12_colours_435 : decode cX12_colours 435 = .ok (.iadd, 1) := dk_iadd (by decide +kernel)
theorem dX12_colours_436 : decode cX12_colours 436 = .ok (.aload_n 0, 1) := dk_aload_n_0 (by decide +kernel)
theorem dX12_colours_437 : decode cX12_colours 437 = .ok (.iload 9, 2) := dk_iload 9 (b := 9) (by decide +kernel) (by decide +kernel) (by decide +kernel)
theorem dX12_colours_439 : decode cX12_colours 439 = .ok (.iload 11, 2) := dk_iload 11 (b := 11) (by decide +kernel) (by decide +kernel) (by decide +kernel)
theorem wRX12_343 : Cond.methodLink RX12 343 yX12_at ∈ sm_T := sm_in 1570 (by decide +kernel) (by decide +kernel)
theorem dX12_colours_441 : decode cX12_colours 441 = .ok (.invokevirtual 343, 3) := dk_invokevirtual 343 (b1 := 1) (b2 := 87) (by decide +kernel) (by decide +kernel) (by decide +kernel) (by decide +kernel)
theorem dX12_colours_444 : decode cX12_colours 444 = .ok (.iload_n 3, 1) := dk_iload_n_3 (by decide +kernel)
theorem dX12_colours_445 : decode cX12_colours 445 = .ok (.iload 10, 2) := dk_iload 10 (b := 10) (by decide +kernel) (by decide +kernel) (by decide +kernel)
theorem dX12_colours_447 : decode cX12_colours 447 = .ok (.isub, 1) := dk_isub (by decide +kernel)
theorem dX12_colours_448 : decode cX12_colours 448 = .ok (.aload_n 0, 1) := dk_aload_n_0 (by decide +kernel)
theorem dX12_colours_449 : decode cX12_colours 449 = .ok (.iload 5, 2) := dk_iload 5 (b := 5) (by decide +kernel) (by decide +kernel) (by decide +kernel)
theorem dX12_colours_451 : decode cX12_colours 451 = .ok (.iload 11, 2) := dk_iload 11 (b := 11) (by decide +kernel) (by decide +kernel) (by decide +kernel)
theorem dX12_colours_453 : decode cX12_colours 453 = .ok (.invokevirtual 343, 3) := dk_invokevirtual 343 (b1 := 1) (b2 := 87) (by decide +kernel) (by decide +kernel) (by decide +kernel) (by decide +kernel)
theorem dX12_colours_456 : decode cX12_colours 456 = .ok (.imul, 1) := dk_imul (by decide +kernel)
theorem dX12_colours_457 : decode cX12_colours 457 = .ok (.iadd, 1) := dk_iadd (by decide +kernel)
theorem dX12_colours_458 : decode cX12_colours 458 = .ok (.iload_n 3, 1) := dk_iload_n_3 (by decide +kernel)
theorem dX12_colours_459 : decode cX12_colours 459 = .ok (.irem, 1) := dk_irem (by decide +kernel)
theorem dX12_colours_460 : decode cX12_colours 460 = .ok (.iastore, 1) := dk_iastore (by decide +kernel)
theorem dX12_colours_461 : decode cX12_colours 461 = .ok (.iinc 11 1, 3) := dk_iinc 11 1 (b1 := 11) (b2 := 1) (by decide +kernel) (by decide +kernel) (by decide +kernel) (by decide +kernel) (by decide +kernel)
theorem dX12_colours_464 : decode cX12_colours 464 = .ok (.goto (-54), 3) := dk_goto (-54) (b1 := 255) (b2 := 202) (by decide +kernel) (by decide +kernel) (by decide +kernel) (by decide +kernel)
set_option maxRecDepth 20000 in
theorem vX12_colours_410 {E : sm_E} {L : sm_S → Prop} {d : Nat} {vs : List Value} {x3 : Int32} {x5 : Int32} {x6 : Int32} {x8 : Int32} {x9 : Int32} {x10 : Int32} {x11 : Int32}  {m : sm_M} {Q : Int32 → sm_M → Prop} (hly : ∀ S, L S → ly S) (hd : 5 ≤ d) 
  (h : ((m.1 109 58) ≤ x11 →
      ∀ x9_1 : Int32, x9_1 = x9 + 1 →
      gX12_colours_372 E L d vs x3 x5 x6 x8 x9_1 m Q) ∧
   (¬ (m.1 109 58) ≤ x11 →
      (x10 ≤ 0 →
         ∀ x9_2 : Int32, x9_2 = x9 + 1 →
         gX12_colours_372 E L d vs x3 x5 x6 x8 x9_2 m Q) ∧
      (¬ x10 ≤ 0 →
         sm_callI E L mX12_at 1 0 0 [.ref (sm_B E + 109), .int x9, .int x11] m (fun r_4 m_3 =>
         sm_callI E L mX12_at 1 0 0 [.ref (sm_B E + 109), .int x5, .int x11] m_3 (fun r_6 m_5 =>
         (¬ x3 = 0) ∧ (vp_in (((80 : Int32) * x9) + x11) 1920) ∧ ∀ m_8 : sm_M, m_8 = sm_wI m_5 144 (((80 : Int32) * x9) + x11).toNatClampNeg (sm_rem (r_4 + ((x3 - x10) * r_6)) x3) →
         ∀ x11_10 : Int32, x11_10 = x11 + 1 →
         gX12_colours_410 E L d vs x3 x5 x6 x8 x9 x10 x11_10 m_8 Q))))) :
  gX12_colours_410 E L d vs x3 x5 x6 x8 x9 x10 x11 m Q := by
  refine sm_iload (Y := mX12_colours) (pc := 410) 7 11 rfl dX12_colours_410 ?_
  refine sm_aload_n (Y := mX12_colours) (pc := 412) 0 0 rfl rfl dX12_colours_412 ?_
  refine gf_RX12_320 (Y := mX12_colours) (pc := 413) rfl ((lk_109 hly) _) dX12_colours_413 ?_
  refine sm_icmp_ge (Y := mX12_colours) (pc := 416) 467 (by decide) dX12_colours_416 (fun hc => ?_) (fun hc => ?_)
  · replace h := h.1 hc
    refine sm_iinc (Y := mX12_colours) (pc := 467) (fun y => [(9, .int y), (0, .ref (sm_B E + 109)), (3, .int x3), (5, .int x5), (6, .int x6), (8, .int x8), (10, .int x10), (11, .int x11)]) 5 9 rfl (by decide) (fun _ => rfl) dX12_colours_467 (fun x9_1 ex9_1 => ?_)
    replace h := h x9_1 ex9_1
    refine sm_goto (Y := mX12_colours) (pc := 470) 372 (by decide) dX12_colours_470 ?_
    refine sm_sub [1, 2, 3, 4, 5, 0] rfl ?_
    exact h
  · replace h := h.2 hc
    refine sm_iload (Y := mX12_colours) (pc := 419) 6 10 rfl dX12_colours_419 ?_
    refine sm_if_le (Y := mX12_colours) (pc := 421) 467 (by decide) dX12_colours_421 (fun hc => ?_) (fun hc => ?_)
    · replace h := h.1 hc
      refine sm_iinc (Y := mX12_colours) (pc := 467) (fun y => [(9, .int y), (0, .ref (sm_B E + 109)), (3, .int x3), (5, .int x5), (6, .int x6), (8, .int x8), (10, .int x10), (11, .int x11)]) 5 9 rfl (by decide) (fun _ => rfl) dX12_colours_467 (fun x9_2 ex9_2 => ?_)
      replace h := h x9_2 ex9_2
      refine sm_goto (Y := mX12_colours) (pc := 470) 372 (by decide) dX12_colours_470 ?_
      refine sm_sub [1, 2, 3, 4, 5, 0] rfl ?_
      exact h
    · replace h := h.2 hc
      refine sm_aload_n (Y := mX12_colours) (pc := 424) 0 0 rfl rfl dX12_colours_424 ?_
      refine gf_RX12_118 (Y := mX12_colours) (pc := 425) (b := 144) rfl ((lk_109 hly) _) (lf_109_59 hly _) dX12_colours_425 ?_
      refine sm_bipush (Y := mX12_colours) (pc := 428) 80 (by decide) dX12_colours_428 ?_
      refine sm_iload (Y := mX12_colours) (pc := 430) 5 9 rfl dX12_colours_430 ?_
      refine sm_imul (Y := mX12_colours) (pc := 432) dX12_colours_432 ?_
      refine sm_iload (Y := mX12_colours) (pc := 433) 7 11 rfl dX12_colours_433 ?_
      refine sm_iadd (Y := mX12_colours) (pc := 435) dX12_colours_435 ?_
      refine sm_aload_n (Y := mX12_colours) (pc := 436) 0 0 rfl rfl dX12_colours_436 ?_
      refine sm_iload (Y := mX12_colours) (pc := 437) 5 9 rfl dX12_colours_437 ?_
      refine sm_iload (Y := mX12_colours) (pc := 439) 7 11 rfl dX12_colours_439 ?_
      refine sm_iv_I (Y := mX12_colours) (pc := 441) (As := [.int x9, .int x11]) (a := 109) fX12_at wRX12_343 (lk_109 hly) (by decide) rfl rfl rfl (Nat.le_trans (by decide) hd) (Nat.le_of_ble_eq_true rfl) ⟨Nat.le_refl _, Nat.le_refl _⟩ dX12_colours_441 rfl (sm_monoI h (fun r_4 m_3 h => ?_))
      refine sm_iload_n (Y := mX12_colours) (pc := 444) 1 3 rfl rfl dX12_colours_444 ?_
      refine sm_iload (Y := mX12_colours) (pc := 445) 6 10 rfl dX12_colours_445 ?_
      refine sm_isub (Y := mX12_colours) (pc := 447) dX12_colours_447 ?_
      refine sm_aload_n (Y := mX12_colours) (pc := 448) 0 0 rfl rfl dX12_colours_448 ?_
      refine sm_iload (Y := mX12_colours) (pc := 449) 2 5 rfl dX12_colours_449 ?_
      refine sm_iload (Y := mX12_colours) (pc := 451) 7 11 rfl dX12_colours_451 ?_
      refine sm_iv_I (Y := mX12_colours) (pc := 453) (As := [.int x5, .int x11]) (a := 109) fX12_at wRX12_343 (lk_109 hly) (by decide) rfl rfl rfl (Nat.le_trans (by decide) hd) (Nat.le_of_ble_eq_true rfl) ⟨Nat.le_refl _, Nat.le_refl _⟩ dX12_colours_453 rfl (sm_monoI h (fun r_6 m_5 h => ?_))
      refine sm_imul (Y := mX12_colours) (pc := 456) dX12_colours_456 ?_
      refine sm_iadd (Y := mX12_colours) (pc := 457) dX12_colours_457 ?_
      refine sm_iload_n (Y := mX12_colours) (pc := 458) 1 3 rfl rfl dX12_colours_458 ?_
      obtain ⟨hn_7, h⟩ := h
      refine sm_irem (Y := mX12_colours) (pc := 459) hn_7 dX12_colours_459 ?_
      obtain ⟨hn_9, h⟩ := h
      refine sm_iast (Y := mX12_colours) (pc := 460) (la_144 hly _) hn_9 dX12_colours_460 (fun m_8 em_8 => ?_)
      replace h := h m_8 em_8
      refine sm_iinc (Y := mX12_colours) (pc := 461) (fun y => [(11, .int y), (0, .ref (sm_B E + 109)), (3, .int x3), (5, .int x5), (6, .int x6), (8, .int x8), (9, .int x9), (10, .int x10)]) 7 11 rfl (by decide) (fun _ => rfl) dX12_colours_461 (fun x11_10 ex11_10 => ?_)
      replace h := h x11_10 ex11_10
      refine sm_goto (Y := mX12_colours) (pc := 464) 410 (by decide) dX12_colours_464 ?_
      refine sm_sub [1, 2, 3, 4, 5, 6, 7, 0] rfl ?_
      exact h
theorem dX12_colours_372 : decode cX12_colours 372 = .ok (.iload 9, 2) := dk_iload 9 (b := 9) (by decide +kernel) (by decide +kernel) (by decide +kernel)
theorem dX12_colours_374 : decode cX12_colours 374 = .ok (.aload_n 0, 1) := dk_aload_n_0 (by decide +kernel)
theorem dX12_colours_375 : decode cX12_colours 375 = .ok (.getfield 286, 3) := dk_getfield 286 (b1 := 1) (b2 := 30) (by decide +kernel) (by decide +kernel) (by decide +kernel) (by decide +kernel)
theorem dX12_colours_378 : decode cX12_colours 378 = .ok (.if_icmp .ge 95, 3) := dk_if_icmp_ge 95 (b1 := 0) (b2 := 95) (by decide +kernel) (by decide +kernel) (by decide +kernel) (by decide +kernel)
theorem dX12_colours_473 : decode cX12_colours 473 = .ok (.iinc 5 1, 3) := dk_iinc 5 1 (b1 := 5) (b2 := 1) (by decide +kernel) (by decide +kernel) (by decide +kernel) (by decide +kernel) (by decide +kernel)
theorem dX12_colours_476 : decode cX12_colours 476 = .ok (.iinc 6 1, 3) := dk_iinc 6 1 (b1 := 6) (b2 := 1) (by decide +kernel) (by decide +kernel) (by decide +kernel) (by decide +kernel) (by decide +kernel)
theorem dX12_colours_479 : decode cX12_colours 479 = .ok (.goto (-248), 3) := dk_goto (-248) (b1 := 255) (b2 := 8) (by decide +kernel) (by decide +kernel) (by decide +kernel) (by decide +kernel)
theorem dX12_colours_381 : decode cX12_colours 381 = .ok (.iload 9, 2) := dk_iload 9 (b := 9) (by decide +kernel) (by decide +kernel) (by decide +kernel)
theorem dX12_colours_383 : decode cX12_colours 383 = .ok (.iload 5, 2) := dk_iload 5 (b := 5) (by decide +kernel) (by decide +kernel) (by decide +kernel)
theorem dX12_colours_385 : decode cX12_colours 385 = .ok (.if_icmp .ne 7, 3) := dk_if_icmp_ne 7 (b1 := 0) (b2 := 7) (by decide +kernel) (by decide +kernel) (by decide +kernel) (by decide +kernel)
theorem dX12_colours_392 : decode cX12_colours 392 = .ok (.aload_n 0, 1) := dk_aload_n_0 (by decide +kernel)
theorem dX12_colours_393 : decode cX12_colours 393 = .ok (.iload 9, 2) := dk_iload 9 (b := 9) (by decide +kernel) (by decide +kernel) (by decide +kernel)
theorem dX12_colours_395 : decode cX12_colours 395 = .ok (.iload 6, 2) := dk_iload 6 (b := 6) (by decide +kernel) (by decide +kernel) (by decide +kernel)
theorem dX12_colours_397 : decode cX12_colours 397 = .ok (.invokevirtual 343, 3) := dk_invokevirtual 343 (b1 := 1) (b2 := 87) (by decide +kernel) (by decide +kernel) (by decide +kernel) (by decide +kernel)
theorem dX12_colours_400 : decode cX12_colours 400 = .ok (.iload 8, 2) := dk_iload 8 (b := 8) (by decide +kernel) (by decide +kernel) (by decide +kernel)
theorem dX12_colours_402 : decode cX12_colours 402 = .ok (.imul, 1) := dk_imul (by decide +kernel)
theorem dX12_colours_403 : decode cX12_colours 403 = .ok (.iload_n 3, 1) := dk_iload_n_3 (by decide +kernel)
theorem dX12_colours_404 : decode cX12_colours 404 = .ok (.irem, 1) := dk_irem (by decide +kernel)
theorem dX12_colours_405 : decode cX12_colours 405 = .ok (.istore 10, 2) := dk_istore 10 (b := 10) (by decide +kernel) (by decide +kernel) (by decide +kernel)
theorem dX12_colours_407 : decode cX12_colours 407 = .ok (.iconst 0, 1) := dk_iconst_0 (by decide +kernel)
theorem dX12_colours_408 : decode cX12_colours 408 = .ok (.istore 11, 2) := dk_istore 11 (b := 11) (by decide +kernel) (by decide +kernel) (by decide +kernel)
theorem dX12_colours_388 : decode cX12_colours 388 = .ok (.iconst 0, 1) := dk_iconst_0 (by decide +kernel)
theorem dX12_colours_389 : decode cX12_colours 389 = .ok (.goto 16, 3) := dk_goto 16 (b1 := 0) (b2 := 16) (by decide +kernel) (by decide +kernel) (by decide +kernel) (by decide +kernel)
set_option maxRecDepth 20000 in
theorem vX12_colours_372 {E : sm_E} {L : sm_S → Prop} {d : Nat} {vs : List Value} {x3 : Int32} {x5 : Int32} {x6 : Int32} {x8 : Int32} {x9 : Int32}  {m : sm_M} {Q : Int32 → sm_M → Prop} (hly : ∀ S, L S → ly S) (hd : 5 ≤ d) 
  (h : ((m.1 109 45) ≤ x9 →
      ∀ x5_1 : Int32, x5_1 = x5 + 1 →
      ∀ x6_2 : Int32, x6_2 = x6 + 1 →
      gX12_colours_231 E L d vs x3 x5_1 x6_2 m Q) ∧
   (¬ (m.1 109 45) ≤ x9 →
      (¬ x9 = x5 →
         sm_callI E L mX12_at 1 0 0 [.ref (sm_B E + 109), .int x9, .int x6] m (fun r_4 m_3 =>
         (¬ x3 = 0) ∧ ∀ x10_6 : Int32, x10_6 = sm_rem (r_4 * x8) x3 →
         gX12_colours_410 E L d vs x3 x5 x6 x8 x9 x10_6 0 m_3 Q)) ∧
      (x9 = x5 →
         gX12_colours_410 E L d vs x3 x5 x6 x8 x9 0 0 m Q))) :
  gX12_colours_372 E L d vs x3 x5 x6 x8 x9 m Q := by
  refine sm_iload (Y := mX12_colours) (pc := 372) 5 9 rfl dX12_colours_372 ?_
  refine sm_aload_n (Y := mX12_colours) (pc := 374) 0 0 rfl rfl dX12_colours_374 ?_
  refine gf_RX12_286 (Y := mX12_colours) (pc := 375) rfl ((lk_109 hly) _) dX12_colours_375 ?_
  refine sm_icmp_ge (Y := mX12_colours) (pc := 378) 473 (by decide) dX12_colours_378 (fun hc => ?_) (fun hc => ?_)
  · replace h := h.1 hc
    refine sm_iinc (Y := mX12_colours) (pc := 473) (fun y => [(5, .int y), (0, .ref (sm_B E + 109)), (3, .int x3), (6, .int x6), (8, .int x8), (9, .int x9)]) 2 5 rfl (by decide) (fun _ => rfl) dX12_colours_473 (fun x5_1 ex5_1 => ?_)
    replace h := h x5_1 ex5_1
    refine sm_iinc (Y := mX12_colours) (pc := 476) (fun y => [(6, .int y), (5, .int x5_1), (0, .ref (sm_B E + 109)), (3, .int x3), (8, .int x8), (9, .int x9)]) 3 6 rfl (by decide) (fun _ => rfl) dX12_colours_476 (fun x6_2 ex6_2 => ?_)
    replace h := h x6_2 ex6_2
    refine sm_goto (Y := mX12_colours) (pc := 479) 231 (by decide) dX12_colours_479 ?_
    refine sm_sub [2, 3, 1, 0] rfl ?_
    exact h
  · replace h := h.2 hc
    refine sm_iload (Y := mX12_colours) (pc := 381) 5 9 rfl dX12_colours_381 ?_
    refine sm_iload (Y := mX12_colours) (pc := 383) 2 5 rfl dX12_colours_383 ?_
    refine sm_icmp_ne (Y := mX12_colours) (pc := 385) 392 (by decide) dX12_colours_385 (fun hc => ?_) (fun hc => ?_)
    · replace h := h.1 hc
      refine sm_aload_n (Y := mX12_colours) (pc := 392) 0 0 rfl rfl dX12_colours_392 ?_
      refine sm_iload (Y := mX12_colours) (pc := 393) 5 9 rfl dX12_colours_393 ?_
      refine sm_iload (Y := mX12_colours) (pc := 395) 3 6 rfl dX12_colours_395 ?_
      refine sm_iv_I (Y := mX12_colours) (pc := 397) (As := [.int x9, .int x6]) (a := 109) fX12_at wRX12_343 (lk_109 hly) (by decide) rfl rfl rfl (Nat.le_trans (by decide) hd) (Nat.le_of_ble_eq_true rfl) ⟨Nat.le_refl _, Nat.le_refl _⟩ dX12_colours_397 rfl (sm_monoI h (fun r_4 m_3 h => ?_))
      refine sm_iload (Y := mX12_colours) (pc := 400) 4 8 rfl dX12_colours_400 ?_
      refine sm_imul (Y := mX12_colours) (pc := 402) dX12_colours_402 ?_
      refine sm_iload_n (Y := mX12_colours) (pc := 403) 1 3 rfl rfl dX12_colours_403 ?_
      obtain ⟨hn_5, h⟩ := h
      refine sm_irem (Y := mX12_colours) (pc := 404) hn_5 dX12_colours_404 ?_
      refine sm_istore (Y := mX12_colours) (pc := 405) (fun y => [(10, .int y), (0, .ref (sm_B E + 109)), (3, .int x3), (5, .int x5), (6, .int x6), (8, .int x8), (9, .int x9)]) 10 (by decide) (fun _ => rfl) dX12_colours_405 (fun x10_6 ex10_6 => ?_)
      replace h := h x10_6 ex10_6
      refine sm_iconst (Y := mX12_colours) (pc := 407) 0 (by decide) dX12_colours_407 ?_
      refine sm_istore0 (Y := mX12_colours) (pc := 408) [(11, .int 0), (10, .int x10_6), (0, .ref (sm_B E + 109)), (3, .int x3), (5, .int x5), (6, .int x6), (8, .int x8), (9, .int x9)] 11 (by decide) rfl dX12_colours_408 ?_
      refine sm_sub [2, 3, 4, 5, 6, 7, 1, 0] rfl ?_
      exact h
    · replace h := h.2 hc
      refine sm_iconst (Y := mX12_colours) (pc := 388) 0 (by decide) dX12_colours_388 ?_
      refine sm_goto (Y := mX12_colours) (pc := 389) 405 (by decide) dX12_colours_389 ?_
      refine sm_istore0 (Y := mX12_colours) (pc := 405) [(10, .int 0), (0, .ref (sm_B E + 109)), (3, .int x3), (5, .int x5), (6, .int x6), (8, .int x8), (9, .int x9)] 10 (by decide) rfl dX12_colours_405 ?_
      refine sm_iconst (Y := mX12_colours) (pc := 407) 0 (by decide) dX12_colours_407 ?_
      refine sm_istore0 (Y := mX12_colours) (pc := 408) [(11, .int 0), (10, .int 0), (0, .ref (sm_B E + 109)), (3, .int x3), (5, .int x5), (6, .int x6), (8, .int x8), (9, .int x9)] 11 (by decide) rfl dX12_colours_408 ?_
      refine sm_sub [2, 3, 4, 5, 6, 7, 1, 0] rfl ?_
      exact h
theorem dX12_colours_294 : decode cX12_colours 294 = .ok (.iload 8, 2) := dk_iload 8 (b := 8) (by decide +kernel) (by decide +kernel) (by decide +kernel)
theorem dX12_colours_296 : decode cX12_colours 296 = .ok (.aload_n 0, 1) := dk_aload_n_0 (by decide +kernel)
theorem dX12_colours_297 : decode cX12_colours 297 = .ok (.getfield 320, 3) := dk_getfield 320 (b1 := 1) (b2 := 64) (by decide +kernel) (by decide +kernel) (by decide +kernel) (by decide +kernel)
theorem dX12_colours_300 : decode cX12_colours 300 = .ok (.if_icmp .ge 55, 3) := dk_if_icmp_ge 55 (b1 := 0) (b2 := 55) (by decide +kernel) (by decide +kernel) (by decide +kernel) (by decide +kernel)
theorem dX12_colours_355 : decode cX12_colours 355 = .ok (.aload_n 0, 1) := dk_aload_n_0 (by decide +kernel)
theorem dX12_colours_356 : decode cX12_colours 356 = .ok (.iload 5, 2) := dk_iload 5 (b := 5) (by decide +kernel) (by decide +kernel) (by decide +kernel)
theorem dX12_colours_358 : decode cX12_colours 358 = .ok (.iload 6, 2) := dk_iload 6 (b := 6) (by decide +kernel) (by decide +kernel) (by decide +kernel)
theorem dX12_colours_360 : decode cX12_colours 360 = .ok (.invokevirtual 343, 3) := dk_invokevirtual 343 (b1 := 1) (b2 := 87) (by decide +kernel) (by decide +kernel) (by decide +kernel) (by decide +kernel)
theorem dX12_colours_363 : decode cX12_colours 363 = .ok (.iload_n 3, 1) := dk_iload_n_3 (by decide +kernel)
theorem wRX12_345 : Cond.methodLink RX12 345 yX12_turned ∈ sm_T := sm_in 1574 (by decide +kernel) (by decide +kernel)
theorem dX12_colours_364 : decode cX12_colours 364 = .ok (.invokestatic 345, 3) := dk_invokestatic 345 (b1 := 1) (b2 := 89) (by decide +kernel) (by decide +kernel) (by decide +kernel) (by decide +kernel)
theorem dX12_colours_367 : decode cX12_colours 367 = .ok (.istore 8, 2) := dk_istore 8 (b := 8) (by decide +kernel) (by decide +kernel) (by decide +kernel)
theorem dX12_colours_369 : decode cX12_colours 369 = .ok (.iconst 0, 1) := dk_iconst_0 (by decide +kernel)
theorem dX12_colours_370 : decode cX12_colours 370 = .ok (.istore 9, 2) := dk_istore 9 (b := 9) (by decide +kernel) (by decide +kernel) (by decide +kernel)
theorem dX12_colours_303 : decode cX12_colours 303 = .ok (.aload_n 0, 1) := dk_aload_n_0 (by decide +kernel)
theorem dX12_colours_304 : decode cX12_colours 304 = .ok (.iload 7, 2) := dk_iload 7 (b := 7) (by decide +kernel) (by decide +kernel) (by decide +kernel)
theorem dX12_colours_306 : decode cX12_colours 306 = .ok (.iload 8, 2) := dk_iload 8 (b := 8) (by decide +kernel) (by decide +kernel) (by decide +kernel)
theorem dX12_colours_308 : decode cX12_colours 308 = .ok (.invokevirtual 343, 3) := dk_invokevirtual 343 (b1 := 1) (b2 := 87) (by decide +kernel) (by decide +kernel) (by decide +kernel) (by decide +kernel)
theorem dX12_colours_311 : decode cX12_colours 311 = .ok (.istore 9, 2) := dk_istore 9 (b := 9) (by decide +kernel) (by decide +kernel) (by decide +kernel)
theorem dX12_colours_313 : decode cX12_colours 313 = .ok (.aload_n 0, 1) := dk_aload_n_0 (by decide +kernel)
theorem dX12_colours_314 : decode cX12_colours 314 = .ok (.getfield 118, 3) := dk_getfield 118 (b1 := 0) (b2 := 118) (by decide +kernel) (by decide +kernel) (by decide +kernel) (by decide +kernel)
theorem dX12_colours_317 : decode cX12_colours 317 = .ok (.bipush 80, 2) := dk_bipush 80 (b := 80) (by decide +kernel) (by decide +kernel) (by decide +kernel)
theorem dX12_colours_319 : decode cX12_colours 319 = .ok (.iload 7, 2) := dk_iload 7 (b := 7) (by decide +kernel) (by decide +kernel) (by decide +kernel)
theorem dX12_colours_321 : decode cX12_colours 321 = .ok (.imul, 1) := dk_imul (by decide +kernel)
theorem dX12_colours_322 : decode cX12_colours 322 = .ok (.iload 8, 2) := dk_iload 8 (b := 8) (by decide +kernel) (by decide +kernel) (by decide +kernel)
theorem dX12_colours_324 : decode cX12_colours 324 = .ok (.iadd, 1) := dk_iadd (by decide +kernel)
theorem dX12_colours_325 : decode cX12_colours 325 = .ok (.aload_n 0, 1) := dk_aload_n_0 (by decide +kernel)
theorem dX12_colours_326 : decode cX12_colours 326 = .ok (.iload 5, 2) := dk_iload 5 (b := 5) (by decide +kernel) (by decide +kernel) (by decide +kernel)
theorem dX12_colours_328 : decode cX12_colours 328 = .ok (.iload 8, 2) := dk_iload 8 (b := 8) (by decide +kernel) (by decide +kernel) (by decide +kernel)
theorem dX12_colours_330 : decode cX12_colours 330 = .ok (.invokevirtual 343, 3) := dk_invokevirtual 343 (b1 := 1) (b2 := 87) (by decide +kernel) (by decide +kernel) (by decide +kernel) (by decide +kernel)
theorem dX12_colours_333 : decode cX12_colours 333 = .ok (.iastore, 1) := dk_iastore (by decide +kernel)
theorem dX12_colours_334 : decode cX12_colours 334 = .ok (.aload_n 0, 1) := dk_aload_n_0 (by decide +kernel)
theorem dX12_colours_335 : decode cX12_colours 335 = .ok (.getfield 118, 3) := dk_getfield 118 (b1 := 0) (b2 := 118) (by decide +kernel) (by decide +kernel) (by decide +kernel) (by decide +kernel)
theorem dX12_colours_338 : decode cX12_colours 338 = .ok (.bipush 80, 2) := dk_bipush 80 (b := 80) (by decide +kernel) (by decide +kernel) (by decide +kernel)
theorem dX12_colours_340 : decode cX12_colours 340 = .ok (.iload 5, 2) := dk_iload 5 (b := 5) (by decide +kernel) (by decide +kernel) (by decide +kernel)
theorem dX12_colours_342 : decode cX12_colours 342 = .ok (.imul, 1) := dk_imul (by decide +kernel)
theorem dX12_colours_343 : decode cX12_colours 343 = .ok (.iload 8, 2) := dk_iload 8 (b := 8) (by decide +kernel) (by decide +kernel) (by decide +kernel)
theorem dX12_colours_345 : decode cX12_colours 345 = .ok (.iadd, 1) := dk_iadd (by decide +kernel)
theorem dX12_colours_346 : decode cX12_colours 346 = .ok (.iload 9, 2) := dk_iload 9 (b := 9) (by decide +kernel) (by decide +kernel) (by decide +kernel)
theorem dX12_colours_348 : decode cX12_colours 348 = .ok (.iastore, 1) := dk_iastore (by decide +kernel)
theorem dX12_colours_349 : decode cX12_colours 349 = .ok (.iinc 8 1, 3) := dk_iinc 8 1 (b1 := 8) (b2 := 1) (by decide +kernel) (by decide +kernel) (by decide +kernel) (by decide +kernel) (by decide +kernel)
theorem dX12_colours_352 : decode cX12_colours 352 = .ok (.goto (-58), 3) := dk_goto (-58) (b1 := 255) (b2 := 198) (by decide +kernel) (by decide +kernel) (by decide +kernel) (by decide +kernel)
set_option maxRecDepth 20000 in
theorem vX12_colours_294 {E : sm_E} {L : sm_S → Prop} {d : Nat} {vs : List Value} {x3 : Int32} {x5 : Int32} {x6 : Int32} {x7 : Int32} {x8 : Int32}  {m : sm_M} {Q : Int32 → sm_M → Prop} (hly : ∀ S, L S → ly S) (hd : 5 ≤ d) 
  (h : ((m.1 109 58) ≤ x8 →
      sm_callI E L mX12_at 1 0 0 [.ref (sm_B E + 109), .int x5, .int x6] m (fun r_2 m_1 =>
      sm_callI E L mX12_turned 1 0 0 [.int r_2, .int x3] m_1 (fun r_4 m_3 =>
      gX12_colours_372 E L d vs x3 x5 x6 r_4 0 m_3 Q))) ∧
   (¬ (m.1 109 58) ≤ x8 →
      sm_callI E L mX12_at 1 0 0 [.ref (sm_B E + 109), .int x7, .int x8] m (fun r_8 m_7 =>
      sm_callI E L mX12_at 1 0 0 [.ref (sm_B E + 109), .int x5, .int x8] m_7 (fun r_11 m_10 =>
      (vp_in (((80 : Int32) * x7) + x8) 1920) ∧ ∀ m_12 : sm_M, m_12 = sm_wI m_10 144 (((80 : Int32) * x7) + x8).toNatClampNeg r_11 →
      (vp_in (((80 : Int32) * x5) + x8) 1920) ∧ ∀ m_14 : sm_M, m_14 = sm_wI m_12 144 (((80 : Int32) * x5) + x8).toNatClampNeg r_8 →
      ∀ x8_16 : Int32, x8_16 = x8 + 1 →
      gX12_colours_294 E L d vs x3 x5 x6 x7 x8_16 m_14 Q)))) :
  gX12_colours_294 E L d vs x3 x5 x6 x7 x8 m Q := by
  refine sm_iload (Y := mX12_colours) (pc := 294) 5 8 rfl dX12_colours_294 ?_
  refine sm_aload_n (Y := mX12_colours) (pc := 296) 0 0 rfl rfl dX12_colours_296 ?_
  refine gf_RX12_320 (Y := mX12_colours) (pc := 297) rfl ((lk_109 hly) _) dX12_colours_297 ?_
  refine sm_icmp_ge (Y := mX12_colours) (pc := 300) 355 (by decide) dX12_colours_300 (fun hc => ?_) (fun hc => ?_)
  · replace h := h.1 hc
    refine sm_aload_n (Y := mX12_colours) (pc := 355) 0 0 rfl rfl dX12_colours_355 ?_
    refine sm_iload (Y := mX12_colours) (pc := 356) 2 5 rfl dX12_colours_356 ?_
    refine sm_iload (Y := mX12_colours) (pc := 358) 3 6 rfl dX12_colours_358 ?_
    refine sm_iv_I (Y := mX12_colours) (pc := 360) (As := [.int x5, .int x6]) (a := 109) fX12_at wRX12_343 (lk_109 hly) (by decide) rfl rfl rfl (Nat.le_trans (by decide) hd) (Nat.le_of_ble_eq_true rfl) ⟨Nat.le_refl _, Nat.le_refl _⟩ dX12_colours_360 rfl (sm_monoI h (fun r_2 m_1 h => ?_))
    refine sm_iload_n (Y := mX12_colours) (pc := 363) 1 3 rfl rfl dX12_colours_363 ?_
    refine sm_is_I (Y := mX12_colours) (pc := 364) (As := [.int r_2, .int x3]) fX12_turned wRX12_345 rfl (Nat.le_trans (by decide) hd) (Nat.le_of_ble_eq_true rfl) ⟨Nat.le_refl _, Nat.le_refl _⟩ dX12_colours_364 rfl (sm_monoI h (fun r_4 m_3 h => ?_))
    refine sm_istore0 (Y := mX12_colours) (pc := 367) [(8, .int r_4), (0, .ref (sm_B E + 109)), (3, .int x3), (5, .int x5), (6, .int x6), (7, .int x7)] 8 (by decide) rfl dX12_colours_367 ?_
    refine sm_iconst (Y := mX12_colours) (pc := 369) 0 (by decide) dX12_colours_369 ?_
    refine sm_istore0 (Y := mX12_colours) (pc := 370) [(9, .int 0), (8, .int r_4), (0, .ref (sm_B E + 109)), (3, .int x3), (5, .int x5), (6, .int x6), (7, .int x7)] 9 (by decide) rfl dX12_colours_370 ?_
    refine sm_sub [2, 3, 4, 5, 1, 0] rfl ?_
    exact h
  · replace h := h.2 hc
    refine sm_aload_n (Y := mX12_colours) (pc := 303) 0 0 rfl rfl dX12_colours_303 ?_
    refine sm_iload (Y := mX12_colours) (pc := 304) 4 7 rfl dX12_colours_304 ?_
    refine sm_iload (Y := mX12_colours) (pc := 306) 5 8 rfl dX12_colours_306 ?_
    refine sm_iv_I (Y := mX12_colours) (pc := 308) (As := [.int x7, .int x8]) (a := 109) fX12_at wRX12_343 (lk_109 hly) (by decide) rfl rfl rfl (Nat.le_trans (by decide) hd) (Nat.le_of_ble_eq_true rfl) ⟨Nat.le_refl _, Nat.le_refl _⟩ dX12_colours_308 rfl (sm_monoI h (fun r_8 m_7 h => ?_))
    refine sm_istore0 (Y := mX12_colours) (pc := 311) [(9, .int r_8), (0, .ref (sm_B E + 109)), (3, .int x3), (5, .int x5), (6, .int x6), (7, .int x7), (8, .int x8)] 9 (by decide) rfl dX12_colours_311 ?_
    refine sm_aload_n (Y := mX12_colours) (pc := 313) 1 0 rfl rfl dX12_colours_313 ?_
    refine gf_RX12_118 (Y := mX12_colours) (pc := 314) (b := 144) rfl ((lk_109 hly) _) (lf_109_59 hly _) dX12_colours_314 ?_
    refine sm_bipush (Y := mX12_colours) (pc := 317) 80 (by decide) dX12_colours_317 ?_
    refine sm_iload (Y := mX12_colours) (pc := 319) 5 7 rfl dX12_colours_319 ?_
    refine sm_imul (Y := mX12_colours) (pc := 321) dX12_colours_321 ?_
    refine sm_iload (Y := mX12_colours) (pc := 322) 6 8 rfl dX12_colours_322 ?_
    refine sm_iadd (Y := mX12_colours) (pc := 324) dX12_colours_324 ?_
    refine sm_aload_n (Y := mX12_colours) (pc := 325) 1 0 rfl rfl dX12_colours_325 ?_
    refine sm_iload (Y := mX12_colours) (pc := 326) 3 5 rfl dX12_colours_326 ?_
    refine sm_iload (Y := mX12_colours) (pc := 328) 6 8 rfl dX12_colours_328 ?_
    refine sm_iv_I (Y := mX12_colours) (pc := 330) (As := [.int x5, .int x8]) (a := 109) fX12_at wRX12_343 (lk_109 hly) (by decide) rfl rfl rfl (Nat.le_trans (by decide) hd) (Nat.le_of_ble_eq_true rfl) ⟨Nat.le_refl _, Nat.le_refl _⟩ dX12_colours_330 rfl (sm_monoI h (fun r_11 m_10 h => ?_))
    obtain ⟨hn_13, h⟩ := h
    refine sm_iast (Y := mX12_colours) (pc := 333) (la_144 hly _) hn_13 dX12_colours_333 (fun m_12 em_12 => ?_)
    replace h := h m_12 em_12
    refine sm_aload_n (Y := mX12_colours) (pc := 334) 1 0 rfl rfl dX12_colours_334 ?_
    refine gf_RX12_118 (Y := mX12_colours) (pc := 335) (b := 144) rfl ((lk_109 hly) _) (lf_109_59 hly _) dX12_colours_335 ?_
    refine sm_bipush (Y := mX12_colours) (pc := 338) 80 (by decide) dX12_colours_338 ?_
    refine sm_iload (Y := mX12_colours) (pc := 340) 3 5 rfl dX12_colours_340 ?_
    refine sm_imul (Y := mX12_colours) (pc := 342) dX12_colours_342 ?_
    refine sm_iload (Y := mX12_colours) (pc := 343) 6 8 rfl dX12_colours_343 ?_
    refine sm_iadd (Y := mX12_colours) (pc := 345) dX12_colours_345 ?_
    refine sm_iload (Y := mX12_colours) (pc := 346) 0 9 rfl dX12_colours_346 ?_
    obtain ⟨hn_15, h⟩ := h
    refine sm_iast (Y := mX12_colours) (pc := 348) (la_144 hly _) hn_15 dX12_colours_348 (fun m_14 em_14 => ?_)
    replace h := h m_14 em_14
    refine sm_iinc (Y := mX12_colours) (pc := 349) (fun y => [(8, .int y), (9, .int r_8), (0, .ref (sm_B E + 109)), (3, .int x3), (5, .int x5), (6, .int x6), (7, .int x7)]) 6 8 rfl (by decide) (fun _ => rfl) dX12_colours_349 (fun x8_16 ex8_16 => ?_)
    replace h := h x8_16 ex8_16
    refine sm_goto (Y := mX12_colours) (pc := 352) 294 (by decide) dX12_colours_352 ?_
    refine sm_sub [2, 3, 4, 5, 6, 0] rfl ?_
    exact h
theorem dX12_colours_253 : decode cX12_colours 253 = .ok (.iload 7, 2) := dk_iload 7 (b := 7) (by decide +kernel) (by decide +kernel) (by decide +kernel)
theorem dX12_colours_255 : decode cX12_colours 255 = .ok (.aload_n 0, 1) := dk_aload_n_0 (by decide +kernel)
theorem dX12_colours_256 : decode cX12_colours 256 = .ok (.getfield 286, 3) := dk_getfield 286 (b1 := 1) (b2 := 30) (by decide +kernel) (by decide +kernel) (by decide +kernel) (by decide +kernel)
theorem dX12_colours_259 : decode cX12_colours 259 = .ok (.if_icmp .ge 20, 3) := dk_if_icmp_ge 20 (b1 := 0) (b2 := 20) (by decide +kernel) (by decide +kernel) (by decide +kernel) (by decide +kernel)
theorem dX12_colours_279 : decode cX12_colours 279 = .ok (.iload 7, 2) := dk_iload 7 (b := 7) (by decide +kernel) (by decide +kernel) (by decide +kernel)
theorem dX12_colours_281 : decode cX12_colours 281 = .ok (.aload_n 0, 1) := dk_aload_n_0 (by decide +kernel)
theorem dX12_colours_282 : decode cX12_colours 282 = .ok (.getfield 286, 3) := dk_getfield 286 (b1 := 1) (b2 := 30) (by decide +kernel) (by decide +kernel) (by decide +kernel) (by decide +kernel)
theorem dX12_colours_285 : decode cX12_colours 285 = .ok (.if_icmp .ne 6, 3) := dk_if_icmp_ne 6 (b1 := 0) (b2 := 6) (by decide +kernel) (by decide +kernel) (by decide +kernel) (by decide +kernel)
theorem dX12_colours_291 : decode cX12_colours 291 = .ok (.iconst 0, 1) := dk_iconst_0 (by decide +kernel)
theorem dX12_colours_292 : decode cX12_colours 292 = .ok (.istore 8, 2) := dk_istore 8 (b := 8) (by decide +kernel) (by decide +kernel) (by decide +kernel)
theorem dX12_colours_288 : decode cX12_colours 288 = .ok (.goto 188, 3) := dk_goto 188 (b1 := 0) (b2 := 188) (by decide +kernel) (by decide +kernel) (by decide +kernel) (by decide +kernel)
theorem dX12_colours_262 : decode cX12_colours 262 = .ok (.aload_n 0, 1) := dk_aload_n_0 (by decide +kernel)
theorem dX12_colours_263 : decode cX12_colours 263 = .ok (.iload 7, 2) := dk_iload 7 (b := 7) (by decide +kernel) (by decide +kernel) (by decide +kernel)
theorem dX12_colours_265 : decode cX12_colours 265 = .ok (.iload 6, 2) := dk_iload 6 (b := 6) (by decide +kernel) (by decide +kernel) (by decide +kernel)
theorem dX12_colours_267 : decode cX12_colours 267 = .ok (.invokevirtual 343, 3) := dk_invokevirtual 343 (b1 := 1) (b2 := 87) (by decide +kernel) (by decide +kernel) (by decide +kernel) (by decide +kernel)
theorem dX12_colours_270 : decode cX12_colours 270 = .ok (.ifCond .ne 9, 3) := dk_ifCond_ne 9 (b1 := 0) (b2 := 9) (by decide +kernel) (by decide +kernel) (by decide +kernel) (by decide +kernel)
theorem dX12_colours_273 : decode cX12_colours 273 = .ok (.iinc 7 1, 3) := dk_iinc 7 1 (b1 := 7) (b2 := 1) (by decide +kernel) (by decide +kernel) (by decide +kernel) (by decide +kernel) (by decide +kernel)
theorem dX12_colours_276 : decode cX12_colours 276 = .ok (.goto (-23), 3) := dk_goto (-23) (b1 := 255) (b2 := 233) (by decide +kernel) (by decide +kernel) (by decide +kernel) (by decide +kernel)
set_option maxRecDepth 20000 in
theorem vX12_colours_253 {E : sm_E} {L : sm_S → Prop} {d : Nat} {vs : List Value} {x3 : Int32} {x5 : Int32} {x6 : Int32} {x7 : Int32}  {m : sm_M} {Q : Int32 → sm_M → Prop} (hly : ∀ S, L S → ly S) (hd : 5 ≤ d) 
  (h : ((m.1 109 45) ≤ x7 →
      (¬ x7 = (m.1 109 45) →
         gX12_colours_294 E L d vs x3 x5 x6 x7 0 m Q) ∧
      (x7 = (m.1 109 45) →
         ∀ x6_2 : Int32, x6_2 = x6 + 1 →
         gX12_colours_231 E L d vs x3 x5 x6_2 m Q)) ∧
   (¬ (m.1 109 45) ≤ x7 →
      sm_callI E L mX12_at 1 0 0 [.ref (sm_B E + 109), .int x7, .int x6] m (fun r_4 m_3 =>
      (¬ r_4 = 0 →
         (¬ x7 = (m_3.1 109 45) →
            gX12_colours_294 E L d vs x3 x5 x6 x7 0 m_3 Q) ∧
         (x7 = (m_3.1 109 45) →
            ∀ x6_6 : Int32, x6_6 = x6 + 1 →
            gX12_colours_231 E L d vs x3 x5 x6_6 m_3 Q)) ∧
      (r_4 = 0 →
         ∀ x7_7 : Int32, x7_7 = x7 + 1 →
         gX12_colours_253 E L d vs x3 x5 x6 x7_7 m_3 Q)))) :
  gX12_colours_253 E L d vs x3 x5 x6 x7 m Q := by
  refine sm_iload (Y := mX12_colours) (pc := 253) 4 7 rfl dX12_colours_253 ?_
  refine sm_aload_n (Y := mX12_colours) (pc := 255) 0 0 rfl rfl dX12_colours_255 ?_
  refine gf_RX12_286 (Y := mX12_colours) (pc := 256) rfl ((lk_109 hly) _) dX12_colours_256 ?_
  refine sm_icmp_ge (Y := mX12_colours) (pc := 259) 279 (by decide) dX12_colours_259 (fun hc => ?_) (fun hc => ?_)
  · replace h := h.1 hc
    refine sm_iload (Y := mX12_colours) (pc := 279) 4 7 rfl dX12_colours_279 ?_
    refine sm_aload_n (Y := mX12_colours) (pc := 281) 0 0 rfl rfl dX12_colours_281 ?_
    refine gf_RX12_286 (Y := mX12_colours) (pc := 282) rfl ((lk_109 hly) _) dX12_colours_282 ?_
    refine sm_icmp_ne (Y := mX12_colours) (pc := 285) 291 (by decide) dX12_colours_285 (fun hc => ?_) (fun hc => ?_)
    · replace h := h.1 hc
      refine sm_iconst (Y := mX12_colours) (pc := 291) 0 (by decide) dX12_colours_291 ?_
      refine sm_istore0 (Y := mX12_colours) (pc := 292) [(8, .int 0), (0, .ref (sm_B E + 109)), (3, .int x3), (5, .int x5), (6, .int x6), (7, .int x7)] 8 (by decide) rfl dX12_colours_292 ?_
      refine sm_sub [1, 2, 3, 4, 5, 0] rfl ?_
      exact h
    · replace h := h.2 hc
      refine sm_goto (Y := mX12_colours) (pc := 288) 476 (by decide) dX12_colours_288 ?_
      refine sm_iinc (Y := mX12_colours) (pc := 476) (fun y => [(6, .int y), (0, .ref (sm_B E + 109)), (3, .int x3), (5, .int x5), (7, .int x7)]) 3 6 rfl (by decide) (fun _ => rfl) dX12_colours_476 (fun x6_2 ex6_2 => ?_)
      replace h := h x6_2 ex6_2
      refine sm_goto (Y := mX12_colours) (pc := 479) 231 (by decide) dX12_colours_479 ?_
      refine sm_sub [1, 2, 3, 0] rfl ?_
      exact h
  · replace h := h.2 hc
    refine sm_aload_n (Y := mX12_colours) (pc := 262) 0 0 rfl rfl dX12_colours_262 ?_
    refine sm_iload (Y := mX12_colours) (pc := 263) 4 7 rfl dX12_colours_263 ?_
    refine sm_iload (Y := mX12_colours) (pc := 265) 3 6 rfl dX12_colours_265 ?_
    refine sm_iv_I (Y := mX12_colours) (pc := 267) (As := [.int x7, .int x6]) (a := 109) fX12_at wRX12_343 (lk_109 hly) (by decide) rfl rfl rfl (Nat.le_trans (by decide) hd) (Nat.le_of_ble_eq_true rfl) ⟨Nat.le_refl _, Nat.le_refl _⟩ dX12_colours_267 rfl (sm_monoI h (fun r_4 m_3 h => ?_))
    refine sm_if_ne (Y := mX12_colours) (pc := 270) 279 (by decide) dX12_colours_270 (fun hc => ?_) (fun hc => ?_)
    · replace h := h.1 hc
      refine sm_iload (Y := mX12_colours) (pc := 279) 4 7 rfl dX12_colours_279 ?_
      refine sm_aload_n (Y := mX12_colours) (pc := 281) 0 0 rfl rfl dX12_colours_281 ?_
      refine gf_RX12_286 (Y := mX12_colours) (pc := 282) rfl ((lk_109 hly) _) dX12_colours_282 ?_
      refine sm_icmp_ne (Y := mX12_colours) (pc := 285) 291 (by decide) dX12_colours_285 (fun hc => ?_) (fun hc => ?_)
      · replace h := h.1 hc
        refine sm_iconst (Y := mX12_colours) (pc := 291) 0 (by decide) dX12_colours_291 ?_
        refine sm_istore0 (Y := mX12_colours) (pc := 292) [(8, .int 0), (0, .ref (sm_B E + 109)), (3, .int x3), (5, .int x5), (6, .int x6), (7, .int x7)] 8 (by decide) rfl dX12_colours_292 ?_
        refine sm_sub [1, 2, 3, 4, 5, 0] rfl ?_
        exact h
      · replace h := h.2 hc
        refine sm_goto (Y := mX12_colours) (pc := 288) 476 (by decide) dX12_colours_288 ?_
        refine sm_iinc (Y := mX12_colours) (pc := 476) (fun y => [(6, .int y), (0, .ref (sm_B E + 109)), (3, .int x3), (5, .int x5), (7, .int x7)]) 3 6 rfl (by decide) (fun _ => rfl) dX12_colours_476 (fun x6_6 ex6_6 => ?_)
        replace h := h x6_6 ex6_6
        refine sm_goto (Y := mX12_colours) (pc := 479) 231 (by decide) dX12_colours_479 ?_
        refine sm_sub [1, 2, 3, 0] rfl ?_
        exact h
    · replace h := h.2 hc
      refine sm_iinc (Y := mX12_colours) (pc := 273) (fun y => [(7, .int y), (0, .ref (sm_B E + 109)), (3, .int x3), (5, .int x5), (6, .int x6)]) 4 7 rfl (by decide) (fun _ => rfl) dX12_colours_273 (fun x7_7 ex7_7 => ?_)
      replace h := h x7_7 ex7_7
      refine sm_goto (Y := mX12_colours) (pc := 276) 253 (by decide) dX12_colours_276 ?_
      refine sm_sub [1, 2, 3, 4, 0] rfl ?_
      exact h
theorem dX12_colours_231 : decode cX12_colours 231 = .ok (.iload 6, 2) := dk_iload 6 (b := 6) (by decide +kernel) (by decide +kernel) (by decide +kernel)
theorem dX12_colours_233 : decode cX12_colours 233 = .ok (.aload_n 0, 1) := dk_aload_n_0 (by decide +kernel)
theorem dX12_colours_234 : decode cX12_colours 234 = .ok (.getfield 320, 3) := dk_getfield 320 (b1 := 1) (b2 := 64) (by decide +kernel) (by decide +kernel) (by decide +kernel) (by decide +kernel)
theorem dX12_colours_237 : decode cX12_colours 237 = .ok (.if_icmp .ge 245, 3) := dk_if_icmp_ge 245 (b1 := 0) (b2 := 245) (by decide +kernel) (by decide +kernel) (by decide +kernel) (by decide +kernel)
theorem dX12_colours_482 : decode cX12_colours 482 = .ok (.aload_n 0, 1) := dk_aload_n_0 (by decide +kernel)
theorem dX12_colours_483 : decode cX12_colours 483 = .ok (.getfield 320, 3) := dk_getfield 320 (b1 := 1) (b2 := 64) (by decide +kernel) (by decide +kernel) (by decide +kernel) (by decide +kernel)
theorem dX12_colours_486 : decode cX12_colours 486 = .ok (.iload 5, 2) := dk_iload 5 (b := 5) (by decide +kernel) (by decide +kernel) (by decide +kernel)
theorem dX12_colours_488 : decode cX12_colours 488 = .ok (.isub, 1) := dk_isub (by decide +kernel)
theorem dX12_colours_489 : decode cX12_colours 489 = .ok (.ireturn, 1) := dk_ireturn (by decide +kernel)
theorem dX12_colours_240 : decode cX12_colours 240 = .ok (.iload 5, 2) := dk_iload 5 (b := 5) (by decide +kernel) (by decide +kernel) (by decide +kernel)
theorem dX12_colours_242 : decode cX12_colours 242 = .ok (.aload_n 0, 1) := dk_aload_n_0 (by decide +kernel)
theorem dX12_colours_243 : decode cX12_colours 243 = .ok (.getfield 286, 3) := dk_getfield 286 (b1 := 1) (b2 := 30) (by decide +kernel) (by decide +kernel) (by decide +kernel) (by decide +kernel)
theorem dX12_colours_246 : decode cX12_colours 246 = .ok (.if_icmp .ge 236, 3) := dk_if_icmp_ge 236 (b1 := 0) (b2 := 236) (by decide +kernel) (by decide +kernel) (by decide +kernel) (by decide +kernel)
theorem dX12_colours_249 : decode cX12_colours 249 = .ok (.iload 5, 2) := dk_iload 5 (b := 5) (by decide +kernel) (by decide +kernel) (by decide +kernel)
theorem dX12_colours_251 : decode cX12_colours 251 = .ok (.istore 7, 2) := dk_istore 7 (b := 7) (by decide +kernel) (by decide +kernel) (by decide +kernel)
set_option maxRecDepth 20000 in
theorem vX12_colours_231 {E : sm_E} {L : sm_S → Prop} {d : Nat} {vs : List Value} {x3 : Int32} {x5 : Int32} {x6 : Int32}  {m : sm_M} {Q : Int32 → sm_M → Prop} (hly : ∀ S, L S → ly S) (hd : 5 ≤ d) 
  (h : ((m.1 109 58) ≤ x6 →
      Q ((m.1 109 58) - x5) m) ∧
   (¬ (m.1 109 58) ≤ x6 →
      ((m.1 109 45) ≤ x5 →
         Q ((m.1 109 58) - x5) m) ∧
      (¬ (m.1 109 45) ≤ x5 →
         gX12_colours_253 E L d vs x3 x5 x6 x5 m Q))) :
  gX12_colours_231 E L d vs x3 x5 x6 m Q := by
  refine sm_iload (Y := mX12_colours) (pc := 231) 3 6 rfl dX12_colours_231 ?_
  refine sm_aload_n (Y := mX12_colours) (pc := 233) 0 0 rfl rfl dX12_colours_233 ?_
  refine gf_RX12_320 (Y := mX12_colours) (pc := 234) rfl ((lk_109 hly) _) dX12_colours_234 ?_
  refine sm_icmp_ge (Y := mX12_colours) (pc := 237) 482 (by decide) dX12_colours_237 (fun hc => ?_) (fun hc => ?_)
  · replace h := h.1 hc
    refine sm_aload_n (Y := mX12_colours) (pc := 482) 0 0 rfl rfl dX12_colours_482 ?_
    refine gf_RX12_320 (Y := mX12_colours) (pc := 483) rfl ((lk_109 hly) _) dX12_colours_483 ?_
    refine sm_iload (Y := mX12_colours) (pc := 486) 2 5 rfl dX12_colours_486 ?_
    refine sm_isub (Y := mX12_colours) (pc := 488) dX12_colours_488 ?_
    exact sm_iret (Y := mX12_colours) (pc := 489) rfl rfl rfl dX12_colours_489 ⟨_, rfl, h⟩
  · replace h := h.2 hc
    refine sm_iload (Y := mX12_colours) (pc := 240) 2 5 rfl dX12_colours_240 ?_
    refine sm_aload_n (Y := mX12_colours) (pc := 242) 0 0 rfl rfl dX12_colours_242 ?_
    refine gf_RX12_286 (Y := mX12_colours) (pc := 243) rfl ((lk_109 hly) _) dX12_colours_243 ?_
    refine sm_icmp_ge (Y := mX12_colours) (pc := 246) 482 (by decide) dX12_colours_246 (fun hc => ?_) (fun hc => ?_)
    · replace h := h.1 hc
      refine sm_aload_n (Y := mX12_colours) (pc := 482) 0 0 rfl rfl dX12_colours_482 ?_
      refine gf_RX12_320 (Y := mX12_colours) (pc := 483) rfl ((lk_109 hly) _) dX12_colours_483 ?_
      refine sm_iload (Y := mX12_colours) (pc := 486) 2 5 rfl dX12_colours_486 ?_
      refine sm_isub (Y := mX12_colours) (pc := 488) dX12_colours_488 ?_
      exact sm_iret (Y := mX12_colours) (pc := 489) rfl rfl rfl dX12_colours_489 ⟨_, rfl, h⟩
    · replace h := h.2 hc
      refine sm_iload (Y := mX12_colours) (pc := 249) 2 5 rfl dX12_colours_249 ?_
      refine sm_istore0 (Y := mX12_colours) (pc := 251) [(7, .int x5), (0, .ref (sm_B E + 109)), (3, .int x3), (5, .int x5), (6, .int x6)] 7 (by decide) rfl dX12_colours_251 ?_
      refine sm_sub [1, 2, 3, 4, 0] rfl ?_
      exact h
theorem dX12_colours_187 : decode cX12_colours 187 = .ok (.iload 6, 2) := dk_iload 6 (b := 6) (by decide +kernel) (by decide +kernel) (by decide +kernel)
theorem dX12_colours_189 : decode cX12_colours 189 = .ok (.aload_n 0, 1) := dk_aload_n_0 (by decide +kernel)
theorem dX12_colours_190 : decode cX12_colours 190 = .ok (.getfield 320, 3) := dk_getfield 320 (b1 := 1) (b2 := 64) (by decide +kernel) (by decide +kernel) (by decide +kernel) (by decide +kernel)
theorem dX12_colours_193 : decode cX12_colours 193 = .ok (.if_icmp .ge 26, 3) := dk_if_icmp_ge 26 (b1 := 0) (b2 := 26) (by decide +kernel) (by decide +kernel) (by decide +kernel) (by decide +kernel)
theorem dX12_colours_219 : decode cX12_colours 219 = .ok (.iinc 5 1, 3) := dk_iinc 5 1 (b1 := 5) (b2 := 1) (by decide +kernel) (by decide +kernel) (by decide +kernel) (by decide +kernel) (by decide +kernel)
theorem dX12_colours_222 : decode cX12_colours 222 = .ok (.goto (-117), 3) := dk_goto (-117) (b1 := 255) (b2 := 139) (by decide +kernel) (by decide +kernel) (by decide +kernel) (by decide +kernel)
theorem dX12_colours_196 : decode cX12_colours 196 = .ok (.aload_n 0, 1) := dk_aload_n_0 (by decide +kernel)
theorem dX12_colours_197 : decode cX12_colours 197 = .ok (.getfield 118, 3) := dk_getfield 118 (b1 := 0) (b2 := 118) (by decide +kernel) (by decide +kernel) (by decide +kernel) (by decide +kernel)
theorem dX12_colours_200 : decode cX12_colours 200 = .ok (.bipush 80, 2) := dk_bipush 80 (b := 80) (by decide +kernel) (by decide +kernel) (by decide +kernel)
theorem dX12_colours_202 : decode cX12_colours 202 = .ok (.iload 5, 2) := dk_iload 5 (b := 5) (by decide +kernel) (by decide +kernel) (by decide +kernel)
theorem dX12_colours_204 : decode cX12_colours 204 = .ok (.imul, 1) := dk_imul (by decide +kernel)
theorem dX12_colours_205 : decode cX12_colours 205 = .ok (.iload 6, 2) := dk_iload 6 (b := 6) (by decide +kernel) (by decide +kernel) (by decide +kernel)
theorem dX12_colours_207 : decode cX12_colours 207 = .ok (.iadd, 1) := dk_iadd (by decide +kernel)
theorem dX12_colours_208 : decode cX12_colours 208 = .ok (.dup2, 1) := dk_dup2 (by decide +kernel)
theorem dX12_colours_209 : decode cX12_colours 209 = .ok (.iaload, 1) := dk_iaload (by decide +kernel)
theorem dX12_colours_210 : decode cX12_colours 210 = .ok (.iload_n 3, 1) := dk_iload_n_3 (by decide +kernel)
theorem dX12_colours_211 : decode cX12_colours 211 = .ok (.irem, 1) := dk_irem (by decide +kernel)
theorem dX12_colours_212 : decode cX12_colours 212 = .ok (.iastore, 1) := dk_iastore (by decide +kernel)
theorem dX12_colours_213 : decode cX12_colours 213 = .ok (.iinc 6 1, 3) := dk_iinc 6 1 (b1 := 6) (b2 := 1) (by decide +kernel) (by decide +kernel) (by decide +kernel) (by decide +kernel) (by decide +kernel)
theorem dX12_colours_216 : decode cX12_colours 216 = .ok (.goto (-29), 3) := dk_goto (-29) (b1 := 255) (b2 := 227) (by decide +kernel) (by decide +kernel) (by decide +kernel) (by decide +kernel)
set_option maxRecDepth 20000 in
theorem vX12_colours_187 {E : sm_E} {L : sm_S → Prop} {d : Nat} {vs : List Value} {x3 : Int32} {x5 : Int32} {x6 : Int32}  {m : sm_M} {Q : Int32 → sm_M → Prop} (hly : ∀ S, L S → ly S) (hd : 5 ≤ d) 
  (h : ((m.1 109 58) ≤ x6 →
      ∀ x5_1 : Int32, x5_1 = x5 + 1 →
      gX12_colours_105 E L d vs x3 x5_1 m Q) ∧
   (¬ (m.1 109 58) ≤ x6 →
      (vp_in (((80 : Int32) * x5) + x6) 1920) ∧ (¬ x3 = 0) ∧ (vp_in (((80 : Int32) * x5) + x6) 1920) ∧ ∀ m_4 : sm_M, m_4 = sm_wI m 144 (((80 : Int32) * x5) + x6).toNatClampNeg (sm_rem (m.1 144 (((80 : Int32) * x5) + x6).toNatClampNeg) x3) →
      ∀ x6_6 : Int32, x6_6 = x6 + 1 →
      gX12_colours_187 E L d vs x3 x5 x6_6 m_4 Q)) :
  gX12_colours_187 E L d vs x3 x5 x6 m Q := by
  refine sm_iload (Y := mX12_colours) (pc := 187) 3 6 rfl dX12_colours_187 ?_
  refine sm_aload_n (Y := mX12_colours) (pc := 189) 0 0 rfl rfl dX12_colours_189 ?_
  refine gf_RX12_320 (Y := mX12_colours) (pc := 190) rfl ((lk_109 hly) _) dX12_colours_190 ?_
  refine sm_icmp_ge (Y := mX12_colours) (pc := 193) 219 (by decide) dX12_colours_193 (fun hc => ?_) (fun hc => ?_)
  · replace h := h.1 hc
    refine sm_iinc (Y := mX12_colours) (pc := 219) (fun y => [(5, .int y), (0, .ref (sm_B E + 109)), (3, .int x3), (6, .int x6)]) 2 5 rfl (by decide) (fun _ => rfl) dX12_colours_219 (fun x5_1 ex5_1 => ?_)
    replace h := h x5_1 ex5_1
    refine sm_goto (Y := mX12_colours) (pc := 222) 105 (by decide) dX12_colours_222 ?_
    refine sm_sub [1, 2, 0] rfl ?_
    exact h
  · replace h := h.2 hc
    refine sm_aload_n (Y := mX12_colours) (pc := 196) 0 0 rfl rfl dX12_colours_196 ?_
    refine gf_RX12_118 (Y := mX12_colours) (pc := 197) (b := 144) rfl ((lk_109 hly) _) (lf_109_59 hly _) dX12_colours_197 ?_
    refine sm_bipush (Y := mX12_colours) (pc := 200) 80 (by decide) dX12_colours_200 ?_
    refine sm_iload (Y := mX12_colours) (pc := 202) 2 5 rfl dX12_colours_202 ?_
    refine sm_imul (Y := mX12_colours) (pc := 204) dX12_colours_204 ?_
    refine sm_iload (Y := mX12_colours) (pc := 205) 3 6 rfl dX12_colours_205 ?_
    refine sm_iadd (Y := mX12_colours) (pc := 207) dX12_colours_207 ?_
    refine sm_dup2_11 (Y := mX12_colours) (pc := 208) rfl rfl dX12_colours_208 ?_
    obtain ⟨hn_2, h⟩ := h
    refine sm_iald (Y := mX12_colours) (pc := 209) (la_144 hly _) hn_2 dX12_colours_209 ?_
    refine sm_iload_n (Y := mX12_colours) (pc := 210) 1 3 rfl rfl dX12_colours_210 ?_
    obtain ⟨hn_3, h⟩ := h
    refine sm_irem (Y := mX12_colours) (pc := 211) hn_3 dX12_colours_211 ?_
    obtain ⟨hn_5, h⟩ := h
    refine sm_iast (Y := mX12_colours) (pc := 212) (la_144 hly _) hn_5 dX12_colours_212 (fun m_4 em_4 => ?_)
    replace h := h m_4 em_4
    refine sm_iinc (Y := mX12_colours) (pc := 213) (fun y => [(6, .int y), (0, .ref (sm_B E + 109)), (3, .int x3), (5, .int x5)]) 3 6 rfl (by decide) (fun _ => rfl) dX12_colours_213 (fun x6_6 ex6_6 => ?_)
    replace h := h x6_6 ex6_6
    refine sm_goto (Y := mX12_colours) (pc := 216) 187 (by decide) dX12_colours_216 ?_
    refine sm_sub [1, 2, 3, 0] rfl ?_
    exact h
theorem dX12_colours_105 : decode cX12_colours 105 = .ok (.iload 5, 2) := dk_iload 5 (b := 5) (by decide +kernel) (by decide +kernel) (by decide +kernel)
theorem dX12_colours_107 : decode cX12_colours 107 = .ok (.aload_n 0, 1) := dk_aload_n_0 (by decide +kernel)
theorem dX12_colours_108 : decode cX12_colours 108 = .ok (.getfield 286, 3) := dk_getfield 286 (b1 := 1) (b2 := 30) (by decide +kernel) (by decide +kernel) (by decide +kernel) (by decide +kernel)
theorem dX12_colours_111 : decode cX12_colours 111 = .ok (.if_icmp .ge 114, 3) := dk_if_icmp_ge 114 (b1 := 0) (b2 := 114) (by decide +kernel) (by decide +kernel) (by decide +kernel) (by decide +kernel)
theorem dX12_colours_225 : decode cX12_colours 225 = .ok (.iconst 0, 1) := dk_iconst_0 (by decide +kernel)
theorem dX12_colours_226 : decode cX12_colours 226 = .ok (.istore 5, 2) := dk_istore 5 (b := 5) (by decide +kernel) (by decide +kernel) (by decide +kernel)
theorem dX12_colours_228 : decode cX12_colours 228 = .ok (.iconst 0, 1) := dk_iconst_0 (by decide +kernel)
theorem dX12_colours_229 : decode cX12_colours 229 = .ok (.istore 6, 2) := dk_istore 6 (b := 6) (by decide +kernel) (by decide +kernel) (by decide +kernel)
theorem dX12_colours_114 : decode cX12_colours 114 = .ok (.aload_n 0, 1) := dk_aload_n_0 (by decide +kernel)
theorem dX12_colours_115 : decode cX12_colours 115 = .ok (.getfield 118, 3) := dk_getfield 118 (b1 := 0) (b2 := 118) (by decide +kernel) (by decide +kernel) (by decide +kernel) (by decide +kernel)
theorem dX12_colours_118 : decode cX12_colours 118 = .ok (.bipush 80, 2) := dk_bipush 80 (b := 80) (by decide +kernel) (by decide +kernel) (by decide +kernel)
theorem dX12_colours_120 : decode cX12_colours 120 = .ok (.iload 5, 2) := dk_iload 5 (b := 5) (by decide +kernel) (by decide +kernel) (by decide +kernel)
theorem dX12_colours_122 : decode cX12_colours 122 = .ok (.imul, 1) := dk_imul (by decide +kernel)
theorem dX12_colours_123 : decode cX12_colours 123 = .ok (.aload_n 0, 1) := dk_aload_n_0 (by decide +kernel)
theorem dX12_colours_124 : decode cX12_colours 124 = .ok (.getfield 109, 3) := dk_getfield 109 (b1 := 0) (b2 := 109) (by decide +kernel) (by decide +kernel) (by decide +kernel) (by decide +kernel)
theorem dX12_colours_127 : decode cX12_colours 127 = .ok (.iload 5, 2) := dk_iload 5 (b := 5) (by decide +kernel) (by decide +kernel) (by decide +kernel)
theorem dX12_colours_129 : decode cX12_colours 129 = .ok (.iaload, 1) := dk_iaload (by decide +kernel)
theorem dX12_colours_130 : decode cX12_colours 130 = .ok (.iadd, 1) := dk_iadd (by decide +kernel)
theorem dX12_colours_131 : decode cX12_colours 131 = .ok (.dup2, 1) := dk_dup2 (by decide +kernel)
theorem dX12_colours_132 : decode cX12_colours 132 = .ok (.iaload, 1) := dk_iaload (by decide +kernel)
theorem dX12_colours_133 : decode cX12_colours 133 = .ok (.iconst 2, 1) := dk_iconst_2 (by decide +kernel)
theorem dX12_colours_134 : decode cX12_colours 134 = .ok (.iadd, 1) := dk_iadd (by decide +kernel)
theorem dX12_colours_135 : decode cX12_colours 135 = .ok (.iastore, 1) := dk_iastore (by decide +kernel)
theorem dX12_colours_136 : decode cX12_colours 136 = .ok (.aload_n 0, 1) := dk_aload_n_0 (by decide +kernel)
theorem dX12_colours_137 : decode cX12_colours 137 = .ok (.getfield 118, 3) := dk_getfield 118 (b1 := 0) (b2 := 118) (by decide +kernel) (by decide +kernel) (by decide +kernel) (by decide +kernel)
theorem dX12_colours_140 : decode cX12_colours 140 = .ok (.bipush 80, 2) := dk_bipush 80 (b := 80) (by decide +kernel) (by decide +kernel) (by decide +kernel)
theorem dX12_colours_142 : decode cX12_colours 142 = .ok (.iload 5, 2) := dk_iload 5 (b := 5) (by decide +kernel) (by decide +kernel) (by decide +kernel)
theorem dX12_colours_144 : decode cX12_colours 144 = .ok (.imul, 1) := dk_imul (by decide +kernel)
theorem dX12_colours_145 : decode cX12_colours 145 = .ok (.aload_n 0, 1) := dk_aload_n_0 (by decide +kernel)
theorem dX12_colours_146 : decode cX12_colours 146 = .ok (.getfield 112, 3) := dk_getfield 112 (b1 := 0) (b2 := 112) (by decide +kernel) (by decide +kernel) (by decide +kernel) (by decide +kernel)
theorem dX12_colours_149 : decode cX12_colours 149 = .ok (.iload 5, 2) := dk_iload 5 (b := 5) (by decide +kernel) (by decide +kernel) (by decide +kernel)
theorem dX12_colours_151 : decode cX12_colours 151 = .ok (.iaload, 1) := dk_iaload (by decide +kernel)
theorem dX12_colours_152 : decode cX12_colours 152 = .ok (.iadd, 1) := dk_iadd (by decide +kernel)
theorem dX12_colours_153 : decode cX12_colours 153 = .ok (.dup2, 1) := dk_dup2 (by decide +kernel)
theorem dX12_colours_154 : decode cX12_colours 154 = .ok (.iaload, 1) := dk_iaload (by decide +kernel)
theorem dX12_colours_155 : decode cX12_colours 155 = .ok (.iload_n 3, 1) := dk_iload_n_3 (by decide +kernel)
theorem dX12_colours_156 : decode cX12_colours 156 = .ok (.iconst 1, 1) := dk_iconst_1 (by decide +kernel)
theorem dX12_colours_157 : decode cX12_colours 157 = .ok (.isub, 1) := dk_isub (by decide +kernel)
theorem dX12_colours_158 : decode cX12_colours 158 = .ok (.iadd, 1) := dk_iadd (by decide +kernel)
theorem dX12_colours_159 : decode cX12_colours 159 = .ok (.iastore, 1) := dk_iastore (by decide +kernel)
theorem dX12_colours_160 : decode cX12_colours 160 = .ok (.aload_n 0, 1) := dk_aload_n_0 (by decide +kernel)
theorem dX12_colours_161 : decode cX12_colours 161 = .ok (.getfield 118, 3) := dk_getfield 118 (b1 := 0) (b2 := 118) (by decide +kernel) (by decide +kernel) (by decide +kernel) (by decide +kernel)
theorem dX12_colours_164 : decode cX12_colours 164 = .ok (.bipush 80, 2) := dk_bipush 80 (b := 80) (by decide +kernel) (by decide +kernel) (by decide +kernel)
theorem dX12_colours_166 : decode cX12_colours 166 = .ok (.iload 5, 2) := dk_iload 5 (b := 5) (by decide +kernel) (by decide +kernel) (by decide +kernel)
theorem dX12_colours_168 : decode cX12_colours 168 = .ok (.imul, 1) := dk_imul (by decide +kernel)
theorem dX12_colours_169 : decode cX12_colours 169 = .ok (.aload_n 0, 1) := dk_aload_n_0 (by decide +kernel)
theorem dX12_colours_170 : decode cX12_colours 170 = .ok (.getfield 115, 3) := dk_getfield 115 (b1 := 0) (b2 := 115) (by decide +kernel) (by decide +kernel) (by decide +kernel) (by decide +kernel)
theorem dX12_colours_173 : decode cX12_colours 173 = .ok (.iload 5, 2) := dk_iload 5 (b := 5) (by decide +kernel) (by decide +kernel) (by decide +kernel)
theorem dX12_colours_175 : decode cX12_colours 175 = .ok (.iaload, 1) := dk_iaload (by decide +kernel)
theorem dX12_colours_176 : decode cX12_colours 176 = .ok (.iadd, 1) := dk_iadd (by decide +kernel)
theorem dX12_colours_177 : decode cX12_colours 177 = .ok (.dup2, 1) := dk_dup2 (by decide +kernel)
theorem dX12_colours_178 : decode cX12_colours 178 = .ok (.iaload, 1) := dk_iaload (by decide +kernel)
theorem dX12_colours_179 : decode cX12_colours 179 = .ok (.iload_n 3, 1) := dk_iload_n_3 (by decide +kernel)
theorem dX12_colours_180 : decode cX12_colours 180 = .ok (.iconst 1, 1) := dk_iconst_1 (by decide +kernel)
theorem dX12_colours_181 : decode cX12_colours 181 = .ok (.isub, 1) := dk_isub (by decide +kernel)
theorem dX12_colours_182 : decode cX12_colours 182 = .ok (.iadd, 1) := dk_iadd (by decide +kernel)
theorem dX12_colours_183 : decode cX12_colours 183 = .ok (.iastore, 1) := dk_iastore (by decide +kernel)
theorem dX12_colours_184 : decode cX12_colours 184 = .ok (.iconst 0, 1) := dk_iconst_0 (by decide +kernel)
theorem dX12_colours_185 : decode cX12_colours 185 = .ok (.istore 6, 2) := dk_istore 6 (b := 6) (by decide +kernel) (by decide +kernel) (by decide +kernel)
set_option maxRecDepth 20000 in
theorem vX12_colours_105 {E : sm_E} {L : sm_S → Prop} {d : Nat} {vs : List Value} {x3 : Int32} {x5 : Int32}  {m : sm_M} {Q : Int32 → sm_M → Prop} (hly : ∀ S, L S → ly S) (hd : 5 ≤ d) 
  (h : ((m.1 109 45) ≤ x5 →
      gX12_colours_231 E L d vs x3 0 0 m Q) ∧
   (¬ (m.1 109 45) ≤ x5 →
      (vp_in x5 24) ∧ (vp_in (((80 : Int32) * x5) + (m.1 141 x5.toNatClampNeg)) 1920) ∧ (vp_in (((80 : Int32) * x5) + (m.1 141 x5.toNatClampNeg)) 1920) ∧ ∀ m_5 : sm_M, m_5 = sm_wI m 144 (((80 : Int32) * x5) + (m.1 141 x5.toNatClampNeg)).toNatClampNeg ((m.1 144 (((80 : Int32) * x5) + (m.1 141 x5.toNatClampNeg)).toNatClampNeg) + 2) →
      (vp_in x5 24) ∧ (vp_in (((80 : Int32) * x5) + (m_5.1 142 x5.toNatClampNeg)) 1920) ∧ (vp_in (((80 : Int32) * x5) + (m_5.1 142 x5.toNatClampNeg)) 1920) ∧ ∀ m_9 : sm_M, m_9 = sm_wI m_5 144 (((80 : Int32) * x5) + (m_5.1 142 x5.toNatClampNeg)).toNatClampNeg ((m_5.1 144 (((80 : Int32) * x5) + (m_5.1 142 x5.toNatClampNeg)).toNatClampNeg) + (x3 - 1)) →
      (vp_in x5 24) ∧ (vp_in (((80 : Int32) * x5) + (m_9.1 143 x5.toNatClampNeg)) 1920) ∧ (vp_in (((80 : Int32) * x5) + (m_9.1 143 x5.toNatClampNeg)) 1920) ∧ ∀ m_13 : sm_M, m_13 = sm_wI m_9 144 (((80 : Int32) * x5) + (m_9.1 143 x5.toNatClampNeg)).toNatClampNeg ((m_9.1 144 (((80 : Int32) * x5) + (m_9.1 143 x5.toNatClampNeg)).toNatClampNeg) + (x3 - 1)) →
      gX12_colours_187 E L d vs x3 x5 0 m_13 Q)) :
  gX12_colours_105 E L d vs x3 x5 m Q := by
  refine sm_iload (Y := mX12_colours) (pc := 105) 2 5 rfl dX12_colours_105 ?_
  refine sm_aload_n (Y := mX12_colours) (pc := 107) 0 0 rfl rfl dX12_colours_107 ?_
  refine gf_RX12_286 (Y := mX12_colours) (pc := 108) rfl ((lk_109 hly) _) dX12_colours_108 ?_
  refine sm_icmp_ge (Y := mX12_colours) (pc := 111) 225 (by decide) dX12_colours_111 (fun hc => ?_) (fun hc => ?_)
  · replace h := h.1 hc
    refine sm_iconst (Y := mX12_colours) (pc := 225) 0 (by decide) dX12_colours_225 ?_
    refine sm_istore0 (Y := mX12_colours) (pc := 226) [(5, .int 0), (0, .ref (sm_B E + 109)), (3, .int x3)] 5 (by decide) rfl dX12_colours_226 ?_
    refine sm_iconst (Y := mX12_colours) (pc := 228) 0 (by decide) dX12_colours_228 ?_
    refine sm_istore0 (Y := mX12_colours) (pc := 229) [(6, .int 0), (5, .int 0), (0, .ref (sm_B E + 109)), (3, .int x3)] 6 (by decide) rfl dX12_colours_229 ?_
    refine sm_sub [2, 3, 1, 0] rfl ?_
    exact h
  · replace h := h.2 hc
    refine sm_aload_n (Y := mX12_colours) (pc := 114) 0 0 rfl rfl dX12_colours_114 ?_
    refine gf_RX12_118 (Y := mX12_colours) (pc := 115) (b := 144) rfl ((lk_109 hly) _) (lf_109_59 hly _) dX12_colours_115 ?_
    refine sm_bipush (Y := mX12_colours) (pc := 118) 80 (by decide) dX12_colours_118 ?_
    refine sm_iload (Y := mX12_colours) (pc := 120) 2 5 rfl dX12_colours_120 ?_
    refine sm_imul (Y := mX12_colours) (pc := 122) dX12_colours_122 ?_
    refine sm_aload_n (Y := mX12_colours) (pc := 123) 0 0 rfl rfl dX12_colours_123 ?_
    refine gf_RX12_109 (Y := mX12_colours) (pc := 124) (b := 141) rfl ((lk_109 hly) _) (lf_109_55 hly _) dX12_colours_124 ?_
    refine sm_iload (Y := mX12_colours) (pc := 127) 2 5 rfl dX12_colours_127 ?_
    obtain ⟨hn_3, h⟩ := h
    refine sm_iald (Y := mX12_colours) (pc := 129) (la_141 hly _) hn_3 dX12_colours_129 ?_
    refine sm_iadd (Y := mX12_colours) (pc := 130) dX12_colours_130 ?_
    refine sm_dup2_11 (Y := mX12_colours) (pc := 131) rfl rfl dX12_colours_131 ?_
    obtain ⟨hn_4, h⟩ := h
    refine sm_iald (Y := mX12_colours) (pc := 132) (la_144 hly _) hn_4 dX12_colours_132 ?_
    refine sm_iconst (Y := mX12_colours) (pc := 133) 2 (by decide) dX12_colours_133 ?_
    refine sm_iadd (Y := mX12_colours) (pc := 134) dX12_colours_134 ?_
    obtain ⟨hn_6, h⟩ := h
    refine sm_iast (Y := mX12_colours) (pc := 135) (la_144 hly _) hn_6 dX12_colours_135 (fun m_5 em_5 => ?_)
    replace h := h m_5 em_5
    refine sm_aload_n (Y := mX12_colours) (pc := 136) 0 0 rfl rfl dX12_colours_136 ?_
    refine gf_RX12_118 (Y := mX12_colours) (pc := 137) (b := 144) rfl ((lk_109 hly) _) (lf_109_59 hly _) dX12_colours_137 ?_
    refine sm_bipush (Y := mX12_colours) (pc := 140) 80 (by decide) dX12_colours_140 ?_
    refine sm_iload (Y := mX12_colours) (pc := 142) 2 5 rfl dX12_colours_142 ?_
    refine sm_imul (Y := mX12_colours) (pc := 144) dX12_colours_144 ?_
    refine sm_aload_n (Y := mX12_colours) (pc := 145) 0 0 rfl rfl dX12_colours_145 ?_
    refine gf_RX12_112 (Y := mX12_colours) (pc := 146) (b := 142) rfl ((lk_109 hly) _) (lf_109_56 hly _) dX12_colours_146 ?_
    refine sm_iload (Y := mX12_colours) (pc := 149) 2 5 rfl dX12_colours_149 ?_
    obtain ⟨hn_7, h⟩ := h
    refine sm_iald (Y := mX12_colours) (pc := 151) (la_142 hly _) hn_7 dX12_colours_151 ?_
    refine sm_iadd (Y := mX12_colours) (pc := 152) dX12_colours_152 ?_
    refine sm_dup2_11 (Y := mX12_colours) (pc := 153) rfl rfl dX12_colours_153 ?_
    obtain ⟨hn_8, h⟩ := h
    refine sm_iald (Y := mX12_colours) (pc := 154) (la_144 hly _) hn_8 dX12_colours_154 ?_
    refine sm_iload_n (Y := mX12_colours) (pc := 155) 1 3 rfl rfl dX12_colours_155 ?_
    refine sm_iconst (Y := mX12_colours) (pc := 156) 1 (by decide) dX12_colours_156 ?_
    refine sm_isub (Y := mX12_colours) (pc := 157) dX12_colours_157 ?_
    refine sm_iadd (Y := mX12_colours) (pc := 158) dX12_colours_158 ?_
    obtain ⟨hn_10, h⟩ := h
    refine sm_iast (Y := mX12_colours) (pc := 159) (la_144 hly _) hn_10 dX12_colours_159 (fun m_9 em_9 => ?_)
    replace h := h m_9 em_9
    refine sm_aload_n (Y := mX12_colours) (pc := 160) 0 0 rfl rfl dX12_colours_160 ?_
    refine gf_RX12_118 (Y := mX12_colours) (pc := 161) (b := 144) rfl ((lk_109 hly) _) (lf_109_59 hly _) dX12_colours_161 ?_
    refine sm_bipush (Y := mX12_colours) (pc := 164) 80 (by decide) dX12_colours_164 ?_
    refine sm_iload (Y := mX12_colours) (pc := 166) 2 5 rfl dX12_colours_166 ?_
    refine sm_imul (Y := mX12_colours) (pc := 168) dX12_colours_168 ?_
    refine sm_aload_n (Y := mX12_colours) (pc := 169) 0 0 rfl rfl dX12_colours_169 ?_
    refine gf_RX12_115 (Y := mX12_colours) (pc := 170) (b := 143) rfl ((lk_109 hly) _) (lf_109_57 hly _) dX12_colours_170 ?_
    refine sm_iload (Y := mX12_colours) (pc := 173) 2 5 rfl dX12_colours_173 ?_
    obtain ⟨hn_11, h⟩ := h
    refine sm_iald (Y := mX12_colours) (pc := 175) (la_143 hly _) hn_11 dX12_colours_175 ?_
    refine sm_iadd (Y := mX12_colours) (pc := 176) dX12_colours_176 ?_
    refine sm_dup2_11 (Y := mX12_colours) (pc := 177) rfl rfl dX12_colours_177 ?_
    obtain ⟨hn_12, h⟩ := h
    refine sm_iald (Y := mX12_colours) (pc := 178) (la_144 hly _) hn_12 dX12_colours_178 ?_
    refine sm_iload_n (Y := mX12_colours) (pc := 179) 1 3 rfl rfl dX12_colours_179 ?_
    refine sm_iconst (Y := mX12_colours) (pc := 180) 1 (by decide) dX12_colours_180 ?_
    refine sm_isub (Y := mX12_colours) (pc := 181) dX12_colours_181 ?_
    refine sm_iadd (Y := mX12_colours) (pc := 182) dX12_colours_182 ?_
    obtain ⟨hn_14, h⟩ := h
    refine sm_iast (Y := mX12_colours) (pc := 183) (la_144 hly _) hn_14 dX12_colours_183 (fun m_13 em_13 => ?_)
    replace h := h m_13 em_13
    refine sm_iconst (Y := mX12_colours) (pc := 184) 0 (by decide) dX12_colours_184 ?_
    refine sm_istore0 (Y := mX12_colours) (pc := 185) [(6, .int 0), (0, .ref (sm_B E + 109)), (3, .int x3), (5, .int x5)] 6 (by decide) rfl dX12_colours_185 ?_
    refine sm_sub [1, 2, 3, 0] rfl ?_
    exact h
theorem dX12_colours_78 : decode cX12_colours 78 = .ok (.iload 5, 2) := dk_iload 5 (b := 5) (by decide +kernel) (by decide +kernel) (by decide +kernel)
theorem dX12_colours_80 : decode cX12_colours 80 = .ok (.aload_n 0, 1) := dk_aload_n_0 (by decide +kernel)
theorem dX12_colours_81 : decode cX12_colours 81 = .ok (.getfield 118, 3) := dk_getfield 118 (b1 := 0) (b2 := 118) (by decide +kernel) (by decide +kernel) (by decide +kernel) (by decide +kernel)
theorem dX12_colours_84 : decode cX12_colours 84 = .ok (.arraylength, 1) := dk_arraylength (by decide +kernel)
theorem dX12_colours_85 : decode cX12_colours 85 = .ok (.if_icmp .ge 17, 3) := dk_if_icmp_ge 17 (b1 := 0) (b2 := 17) (by decide +kernel) (by decide +kernel) (by decide +kernel) (by decide +kernel)
theorem dX12_colours_102 : decode cX12_colours 102 = .ok (.iconst 0, 1) := dk_iconst_0 (by decide +kernel)
theorem dX12_colours_103 : decode cX12_colours 103 = .ok (.istore 5, 2) := dk_istore 5 (b := 5) (by decide +kernel) (by decide +kernel) (by decide +kernel)
theorem dX12_colours_88 : decode cX12_colours 88 = .ok (.aload_n 0, 1) := dk_aload_n_0 (by decide +kernel)
theorem dX12_colours_89 : decode cX12_colours 89 = .ok (.getfield 118, 3) := dk_getfield 118 (b1 := 0) (b2 := 118) (by decide +kernel) (by decide +kernel) (by decide +kernel) (by decide +kernel)
theorem dX12_colours_92 : decode cX12_colours 92 = .ok (.iload 5, 2) := dk_iload 5 (b := 5) (by decide +kernel) (by decide +kernel) (by decide +kernel)
theorem dX12_colours_94 : decode cX12_colours 94 = .ok (.iconst 0, 1) := dk_iconst_0 (by decide +kernel)
theorem dX12_colours_95 : decode cX12_colours 95 = .ok (.iastore, 1) := dk_iastore (by decide +kernel)
theorem dX12_colours_96 : decode cX12_colours 96 = .ok (.iinc 5 1, 3) := dk_iinc 5 1 (b1 := 5) (b2 := 1) (by decide +kernel) (by decide +kernel) (by decide +kernel) (by decide +kernel) (by decide +kernel)
theorem dX12_colours_99 : decode cX12_colours 99 = .ok (.goto (-21), 3) := dk_goto (-21) (b1 := 255) (b2 := 235) (by decide +kernel) (by decide +kernel) (by decide +kernel) (by decide +kernel)
set_option maxRecDepth 20000 in
theorem vX12_colours_78 {E : sm_E} {L : sm_S → Prop} {d : Nat} {vs : List Value} {x3 : Int32} {x5 : Int32}  {m : sm_M} {Q : Int32 → sm_M → Prop} (hly : ∀ S, L S → ly S) (hd : 5 ≤ d) 
  (h : ((nI 1920) ≤ x5 →
      gX12_colours_105 E L d vs x3 0 m Q) ∧
   (¬ (nI 1920) ≤ x5 →
      (vp_in x5 1920) ∧ ∀ m_2 : sm_M, m_2 = sm_wI m 144 x5.toNatClampNeg 0 →
      ∀ x5_4 : Int32, x5_4 = x5 + 1 →
      gX12_colours_78 E L d vs x3 x5_4 m_2 Q)) :
  gX12_colours_78 E L d vs x3 x5 m Q := by
  refine sm_iload (Y := mX12_colours) (pc := 78) 2 5 rfl dX12_colours_78 ?_
  refine sm_aload_n (Y := mX12_colours) (pc := 80) 0 0 rfl rfl dX12_colours_80 ?_
  refine gf_RX12_118 (Y := mX12_colours) (pc := 81) (b := 144) rfl ((lk_109 hly) _) (lf_109_59 hly _) dX12_colours_81 ?_
  refine sm_alenI (Y := mX12_colours) (pc := 84) (la_144 hly _) dX12_colours_84 ?_
  refine sm_icmp_ge (Y := mX12_colours) (pc := 85) 102 (by decide) dX12_colours_85 (fun hc => ?_) (fun hc => ?_)
  · replace h := h.1 hc
    refine sm_iconst (Y := mX12_colours) (pc := 102) 0 (by decide) dX12_colours_102 ?_
    refine sm_istore0 (Y := mX12_colours) (pc := 103) [(5, .int 0), (0, .ref (sm_B E + 109)), (3, .int x3)] 5 (by decide) rfl dX12_colours_103 ?_
    refine sm_sub [1, 2, 0] rfl ?_
    exact h
  · replace h := h.2 hc
    refine sm_aload_n (Y := mX12_colours) (pc := 88) 0 0 rfl rfl dX12_colours_88 ?_
    refine gf_RX12_118 (Y := mX12_colours) (pc := 89) (b := 144) rfl ((lk_109 hly) _) (lf_109_59 hly _) dX12_colours_89 ?_
    refine sm_iload (Y := mX12_colours) (pc := 92) 2 5 rfl dX12_colours_92 ?_
    refine sm_iconst (Y := mX12_colours) (pc := 94) 0 (by decide) dX12_colours_94 ?_
    obtain ⟨hn_3, h⟩ := h
    refine sm_iast (Y := mX12_colours) (pc := 95) (la_144 hly _) hn_3 dX12_colours_95 (fun m_2 em_2 => ?_)
    replace h := h m_2 em_2
    refine sm_iinc (Y := mX12_colours) (pc := 96) (fun y => [(5, .int y), (0, .ref (sm_B E + 109)), (3, .int x3)]) 2 5 rfl (by decide) (fun _ => rfl) dX12_colours_96 (fun x5_4 ex5_4 => ?_)
    replace h := h x5_4 ex5_4
    refine sm_goto (Y := mX12_colours) (pc := 99) 78 (by decide) dX12_colours_99 ?_
    refine sm_sub [1, 2, 0] rfl ?_
    exact h
theorem dX12_colours_38 : decode cX12_colours 38 = .ok (.istore 4, 2) := dk_istore 4 (b := 4) (by decide +kernel) (by decide +kernel) (by decide +kernel)
theorem dX12_colours_40 : decode cX12_colours 40 = .ok (.iload_n 1, 1) := dk_iload_n_1 (by decide +kernel)
theorem dX12_colours_41 : decode cX12_colours 41 = .ok (.invokestatic 184, 3) := dk_invokestatic 184 (b1 := 0) (b2 := 184) (by decide +kernel) (by decide +kernel) (by decide +kernel) (by decide +kernel)
theorem dX12_colours_44 : decode cX12_colours 44 = .ok (.ifCond .eq 15, 3) := dk_ifCond_eq 15 (b1 := 0) (b2 := 15) (by decide +kernel) (by decide +kernel) (by decide +kernel) (by decide +kernel)
theorem dX12_colours_59 : decode cX12_colours 59 = .ok (.aload_n 0, 1) := dk_aload_n_0 (by decide +kernel)
theorem dX12_colours_60 : decode cX12_colours 60 = .ok (.iconst 1, 1) := dk_iconst_1 (by decide +kernel)
theorem dX12_colours_61 : decode cX12_colours 61 = .ok (.invokevirtual 194, 3) := dk_invokevirtual 194 (b1 := 0) (b2 := 194) (by decide +kernel) (by decide +kernel) (by decide +kernel) (by decide +kernel)
theorem dX12_colours_64 : decode cX12_colours 64 = .ok (.ireturn, 1) := dk_ireturn (by decide +kernel)
theorem dX12_colours_47 : decode cX12_colours 47 = .ok (.iload_n 2, 1) := dk_iload_n_2 (by decide +kernel)
theorem dX12_colours_48 : decode cX12_colours 48 = .ok (.invokestatic 214, 3) := dk_invokestatic 214 (b1 := 0) (b2 := 214) (by decide +kernel) (by decide +kernel) (by decide +kernel) (by decide +kernel)
theorem dX12_colours_51 : decode cX12_colours 51 = .ok (.ifCond .eq 8, 3) := dk_ifCond_eq 8 (b1 := 0) (b2 := 8) (by decide +kernel) (by decide +kernel) (by decide +kernel) (by decide +kernel)
theorem dX12_colours_54 : decode cX12_colours 54 = .ok (.iload 4, 2) := dk_iload 4 (b := 4) (by decide +kernel) (by decide +kernel) (by decide +kernel)
theorem dX12_colours_56 : decode cX12_colours 56 = .ok (.ifCond .ne 9, 3) := dk_ifCond_ne 9 (b1 := 0) (b2 := 9) (by decide +kernel) (by decide +kernel) (by decide +kernel) (by decide +kernel)
theorem dX12_colours_65 : decode cX12_colours 65 = .ok (.aload_n 0, 1) := dk_aload_n_0 (by decide +kernel)
theorem dX12_colours_66 : decode cX12_colours 66 = .ok (.iload_n 1, 1) := dk_iload_n_1 (by decide +kernel)
theorem dX12_colours_67 : decode cX12_colours 67 = .ok (.iload_n 2, 1) := dk_iload_n_2 (by decide +kernel)
theorem dX12_colours_68 : decode cX12_colours 68 = .ok (.invokevirtual 325, 3) := dk_invokevirtual 325 (b1 := 1) (b2 := 69) (by decide +kernel) (by decide +kernel) (by decide +kernel) (by decide +kernel)
theorem dX12_colours_71 : decode cX12_colours 71 = .ok (.aload_n 0, 1) := dk_aload_n_0 (by decide +kernel)
theorem dX12_colours_72 : decode cX12_colours 72 = .ok (.invokevirtual 328, 3) := dk_invokevirtual 328 (b1 := 1) (b2 := 72) (by decide +kernel) (by decide +kernel) (by decide +kernel) (by decide +kernel)
theorem dX12_colours_75 : decode cX12_colours 75 = .ok (.iconst 0, 1) := dk_iconst_0 (by decide +kernel)
theorem dX12_colours_76 : decode cX12_colours 76 = .ok (.istore 5, 2) := dk_istore 5 (b := 5) (by decide +kernel) (by decide +kernel) (by decide +kernel)
set_option maxRecDepth 20000 in
theorem vX12_colours_38 {E : sm_E} {L : sm_S → Prop} {d : Nat} {vs : List Value} {x1 : Int32} {x2 : Int32} {x3 : Int32} {s0 : Int32}  {m : sm_M} {Q : Int32 → sm_M → Prop} (hly : ∀ S, L S → ly S) (hd : 5 ≤ d) 
  (h : sm_callI E L mX12_isSlot 1 0 0 [.int x1] m (fun r_3 m_2 =>
   (r_3 = 0 →
      sm_callI E L mX12_finds 1 0 0 [.ref (sm_B E + 109), .int 1] m_2 (fun r_5 m_4 =>
      Q r_5 m_4)) ∧
   (¬ r_3 = 0 →
      sm_callI E L mX12_isPart 1 0 0 [.int x2] m_2 (fun r_7 m_6 =>
      (r_7 = 0 →
         sm_callI E L mX12_finds 1 0 0 [.ref (sm_B E + 109), .int 1] m_6 (fun r_9 m_8 =>
         Q r_9 m_8)) ∧
      (¬ r_7 = 0 →
         (¬ s0 = 0 →
            sm_callV E L mX12_curves 4 0 0 [.ref (sm_B E + 109), .int x1, .int x2] m_6 (fun m_10 =>
            sm_callV E L mX12_layArcs 1 0 0 [.ref (sm_B E + 109)] m_10 (fun m_11 =>
            gX12_colours_78 E L d vs x3 0 m_11 Q))) ∧
         (s0 = 0 →
            sm_callI E L mX12_finds 1 0 0 [.ref (sm_B E + 109), .int 1] m_6 (fun r_14 m_13 =>
            Q r_14 m_13))))))) :
  gX12_colours_38 E L d vs x1 x2 x3 s0 m Q := by
  refine sm_istore0 (Y := mX12_colours) (pc := 38) [(4, .int s0), (0, .ref (sm_B E + 109)), (1, .int x1), (2, .int x2), (3, .int x3)] 4 (by decide) rfl dX12_colours_38 ?_
  refine sm_iload_n (Y := mX12_colours) (pc := 40) 2 1 rfl rfl dX12_colours_40 ?_
  refine sm_is_I (Y := mX12_colours) (pc := 41) (As := [.int x1]) fX12_isSlot wRX12_184 rfl (Nat.le_trans (by decide) hd) (Nat.le_of_ble_eq_true rfl) ⟨Nat.le_refl _, Nat.le_refl _⟩ dX12_colours_41 rfl (sm_monoI h (fun r_3 m_2 h => ?_))
  refine sm_if_eq (Y := mX12_colours) (pc := 44) 59 (by decide) dX12_colours_44 (fun hc => ?_) (fun hc => ?_)
  · replace h := h.1 hc
    refine sm_aload_n (Y := mX12_colours) (pc := 59) 1 0 rfl rfl dX12_colours_59 ?_
    refine sm_iconst (Y := mX12_colours) (pc := 60) 1 (by decide) dX12_colours_60 ?_
    refine sm_iv_I (Y := mX12_colours) (pc := 61) (As := [.int 1]) (a := 109) fX12_finds wRX12_194 (lk_109 hly) (by decide) rfl rfl rfl (Nat.le_trans (by decide) hd) (Nat.le_of_ble_eq_true rfl) ⟨Nat.le_refl _, Nat.le_refl _⟩ dX12_colours_61 rfl (sm_monoI h (fun r_5 m_4 h => ?_))
    exact sm_iret (Y := mX12_colours) (pc := 64) rfl rfl rfl dX12_colours_64 ⟨_, rfl, h⟩
  · replace h := h.2 hc
    refine sm_iload_n (Y := mX12_colours) (pc := 47) 3 2 rfl rfl dX12_colours_47 ?_
    refine sm_is_I (Y := mX12_colours) (pc := 48) (As := [.int x2]) fX12_isPart wRX12_214 rfl (Nat.le_trans (by decide) hd) (Nat.le_of_ble_eq_true rfl) ⟨Nat.le_refl _, Nat.le_refl _⟩ dX12_colours_48 rfl (sm_monoI h (fun r_7 m_6 h => ?_))
    refine sm_if_eq (Y := mX12_colours) (pc := 51) 59 (by decide) dX12_colours_51 (fun hc => ?_) (fun hc => ?_)
    · replace h := h.1 hc
      refine sm_aload_n (Y := mX12_colours) (pc := 59) 1 0 rfl rfl dX12_colours_59 ?_
      refine sm_iconst (Y := mX12_colours) (pc := 60) 1 (by decide) dX12_colours_60 ?_
      refine sm_iv_I (Y := mX12_colours) (pc := 61) (As := [.int 1]) (a := 109) fX12_finds wRX12_194 (lk_109 hly) (by decide) rfl rfl rfl (Nat.le_trans (by decide) hd) (Nat.le_of_ble_eq_true rfl) ⟨Nat.le_refl _, Nat.le_refl _⟩ dX12_colours_61 rfl (sm_monoI h (fun r_9 m_8 h => ?_))
      exact sm_iret (Y := mX12_colours) (pc := 64) rfl rfl rfl dX12_colours_64 ⟨_, rfl, h⟩
    · replace h := h.2 hc
      refine sm_iload (Y := mX12_colours) (pc := 54) 0 4 rfl dX12_colours_54 ?_
      refine sm_if_ne (Y := mX12_colours) (pc := 56) 65 (by decide) dX12_colours_56 (fun hc => ?_) (fun hc => ?_)
      · replace h := h.1 hc
        refine sm_aload_n (Y := mX12_colours) (pc := 65) 1 0 rfl rfl dX12_colours_65 ?_
        refine sm_iload_n (Y := mX12_colours) (pc := 66) 2 1 rfl rfl dX12_colours_66 ?_
        refine sm_iload_n (Y := mX12_colours) (pc := 67) 3 2 rfl rfl dX12_colours_67 ?_
        refine sm_iv_V (Y := mX12_colours) (pc := 68) (As := [.int x1, .int x2]) (a := 109) fX12_curves wRX12_325 (lk_109 hly) (by decide) rfl rfl rfl (Nat.le_trans (by decide) hd) (Nat.le_of_ble_eq_true rfl) ⟨Nat.le_refl _, Nat.le_refl _⟩ dX12_colours_68 rfl (sm_monoV h (fun m_10 h => ?_))
        refine sm_aload_n (Y := mX12_colours) (pc := 71) 1 0 rfl rfl dX12_colours_71 ?_
        refine sm_iv_V (Y := mX12_colours) (pc := 72) (As := []) (a := 109) fX12_layArcs wRX12_328 (lk_109 hly) (by decide) rfl rfl rfl (Nat.le_trans (by decide) hd) (Nat.le_of_ble_eq_true rfl) ⟨Nat.le_refl _, Nat.le_refl _⟩ dX12_colours_72 rfl (sm_monoV h (fun m_11 h => ?_))
        refine sm_iconst (Y := mX12_colours) (pc := 75) 0 (by decide) dX12_colours_75 ?_
        refine sm_istore0 (Y := mX12_colours) (pc := 76) [(5, .int 0), (4, .int s0), (0, .ref (sm_B E + 109)), (1, .int x1), (2, .int x2), (3, .int x3)] 5 (by decide) rfl dX12_colours_76 ?_
        refine sm_sub [2, 5, 0] rfl ?_
        exact h
      · replace h := h.2 hc
        refine sm_aload_n (Y := mX12_colours) (pc := 59) 1 0 rfl rfl dX12_colours_59 ?_
        refine sm_iconst (Y := mX12_colours) (pc := 60) 1 (by decide) dX12_colours_60 ?_
        refine sm_iv_I (Y := mX12_colours) (pc := 61) (As := [.int 1]) (a := 109) fX12_finds wRX12_194 (lk_109 hly) (by decide) rfl rfl rfl (Nat.le_trans (by decide) hd) (Nat.le_of_ble_eq_true rfl) ⟨Nat.le_refl _, Nat.le_refl _⟩ dX12_colours_61 rfl (sm_monoI h (fun r_14 m_13 h => ?_))
        exact sm_iret (Y := mX12_colours) (pc := 64) rfl rfl rfl dX12_colours_64 ⟨_, rfl, h⟩
theorem dX12_colours_0 : decode cX12_colours 0 = .ok (.iload_n 3, 1) := dk_iload_n_3 (by decide +kernel)
theorem dX12_colours_1 : decode cX12_colours 1 = .ok (.iconst 2, 1) := dk_iconst_2 (by decide +kernel)
theorem dX12_colours_2 : decode cX12_colours 2 = .ok (.if_icmp .eq 31, 3) := dk_if_icmp_eq 31 (b1 := 0) (b2 := 31) (by decide +kernel) (by decide +kernel) (by decide +kernel) (by decide +kernel)
theorem dX12_colours_33 : decode cX12_colours 33 = .ok (.iconst 1, 1) := dk_iconst_1 (by decide +kernel)
theorem dX12_colours_34 : decode cX12_colours 34 = .ok (.goto 4, 3) := dk_goto 4 (b1 := 0) (b2 := 4) (by decide +kernel) (by decide +kernel) (by decide +kernel) (by decide +kernel)
theorem dX12_colours_5 : decode cX12_colours 5 = .ok (.iload_n 3, 1) := dk_iload_n_3 (by decide +kernel)
theorem dX12_colours_6 : decode cX12_colours 6 = .ok (.iconst 3, 1) := dk_iconst_3 (by decide +kernel)
theorem dX12_colours_7 : decode cX12_colours 7 = .ok (.if_icmp .eq 26, 3) := dk_if_icmp_eq 26 (b1 := 0) (b2 := 26) (by decide +kernel) (by decide +kernel) (by decide +kernel) (by decide +kernel)
theorem dX12_colours_10 : decode cX12_colours 10 = .ok (.iload_n 3, 1) := dk_iload_n_3 (by decide +kernel)
theorem dX12_colours_11 : decode cX12_colours 11 = .ok (.iconst 5, 1) := dk_iconst_5 (by decide +kernel)
theorem dX12_colours_12 : decode cX12_colours 12 = .ok (.if_icmp .eq 21, 3) := dk_if_icmp_eq 21 (b1 := 0) (b2 := 21) (by decide +kernel) (by decide +kernel) (by decide +kernel) (by decide +kernel)
theorem dX12_colours_15 : decode cX12_colours 15 = .ok (.iload_n 3, 1) := dk_iload_n_3 (by decide +kernel)
theorem dX12_colours_16 : decode cX12_colours 16 = .ok (.bipush 7, 2) := dk_bipush 7 (b := 7) (by decide +kernel) (by decide +kernel) (by decide +kernel)
theorem dX12_colours_18 : decode cX12_colours 18 = .ok (.if_icmp .eq 15, 3) := dk_if_icmp_eq 15 (b1 := 0) (b2 := 15) (by decide +kernel) (by decide +kernel) (by decide +kernel) (by decide +kernel)
theorem dX12_colours_21 : decode cX12_colours 21 = .ok (.iload_n 3, 1) := dk_iload_n_3 (by decide +kernel)
theorem dX12_colours_22 : decode cX12_colours 22 = .ok (.bipush 11, 2) := dk_bipush 11 (b := 11) (by decide +kernel) (by decide +kernel) (by decide +kernel)
theorem dX12_colours_24 : decode cX12_colours 24 = .ok (.if_icmp .eq 9, 3) := dk_if_icmp_eq 9 (b1 := 0) (b2 := 9) (by decide +kernel) (by decide +kernel) (by decide +kernel) (by decide +kernel)
theorem dX12_colours_27 : decode cX12_colours 27 = .ok (.iload_n 3, 1) := dk_iload_n_3 (by decide +kernel)
theorem dX12_colours_28 : decode cX12_colours 28 = .ok (.bipush 13, 2) := dk_bipush 13 (b := 13) (by decide +kernel) (by decide +kernel) (by decide +kernel)
theorem dX12_colours_30 : decode cX12_colours 30 = .ok (.if_icmp .ne 7, 3) := dk_if_icmp_ne 7 (b1 := 0) (b2 := 7) (by decide +kernel) (by decide +kernel) (by decide +kernel) (by decide +kernel)
theorem dX12_colours_37 : decode cX12_colours 37 = .ok (.iconst 0, 1) := dk_iconst_0 (by decide +kernel)
set_option maxRecDepth 20000 in
theorem vX12_colours_0 {E : sm_E} {L : sm_S → Prop} {d : Nat} {x1 : Int32} {x2 : Int32} {x3 : Int32}  {m : sm_M} {Q : Int32 → sm_M → Prop}  (hd : 5 ≤ d) 
  (h : (x3 = 2 →
      gX12_colours_38 E L d ([.ref (sm_B E + 109), .int x1, .int x2, .int x3]) x1 x2 x3 1 m Q) ∧
   (¬ x3 = 2 →
      (x3 = 3 →
         gX12_colours_38 E L d ([.ref (sm_B E + 109), .int x1, .int x2, .int x3]) x1 x2 x3 1 m Q) ∧
      (¬ x3 = 3 →
         (x3 = 5 →
            gX12_colours_38 E L d ([.ref (sm_B E + 109), .int x1, .int x2, .int x3]) x1 x2 x3 1 m Q) ∧
         (¬ x3 = 5 →
            (x3 = 7 →
               gX12_colours_38 E L d ([.ref (sm_B E + 109), .int x1, .int x2, .int x3]) x1 x2 x3 1 m Q) ∧
            (¬ x3 = 7 →
               (x3 = 11 →
                  gX12_colours_38 E L d ([.ref (sm_B E + 109), .int x1, .int x2, .int x3]) x1 x2 x3 1 m Q) ∧
               (¬ x3 = 11 →
                  (¬ x3 = 13 →
                     gX12_colours_38 E L d ([.ref (sm_B E + 109), .int x1, .int x2, .int x3]) x1 x2 x3 0 m Q) ∧
                  (x3 = 13 →
                     gX12_colours_38 E L d ([.ref (sm_B E + 109), .int x1, .int x2, .int x3]) x1 x2 x3 1 m Q))))))) :
  sm_callI E L mX12_colours d 0 0 [.ref (sm_B E + 109), .int x1, .int x2, .int x3] m Q := by
  refine sm_enter (by decide +kernel) (by simp [lg_sl, Value.category]) ?_
  refine sm_iload_n (Y := mX12_colours) (pc := 0) 3 3 rfl rfl dX12_colours_0 ?_
  refine sm_iconst (Y := mX12_colours) (pc := 1) 2 (by decide) dX12_colours_1 ?_
  refine sm_icmp_eq (Y := mX12_colours) (pc := 2) 33 (by decide) dX12_colours_2 (fun hc => ?_) (fun hc => ?_)
  · replace h := h.1 hc
    refine sm_iconst (Y := mX12_colours) (pc := 33) 1 (by decide) dX12_colours_33 ?_
    refine sm_goto (Y := mX12_colours) (pc := 34) 38 (by decide) dX12_colours_34 ?_
    exact h
  · replace h := h.2 hc
    refine sm_iload_n (Y := mX12_colours) (pc := 5) 3 3 rfl rfl dX12_colours_5 ?_
    refine sm_iconst (Y := mX12_colours) (pc := 6) 3 (by decide) dX12_colours_6 ?_
    refine sm_icmp_eq (Y := mX12_colours) (pc := 7) 33 (by decide) dX12_colours_7 (fun hc => ?_) (fun hc => ?_)
    · replace h := h.1 hc
      refine sm_iconst (Y := mX12_colours) (pc := 33) 1 (by decide) dX12_colours_33 ?_
      refine sm_goto (Y := mX12_colours) (pc := 34) 38 (by decide) dX12_colours_34 ?_
      exact h
    · replace h := h.2 hc
      refine sm_iload_n (Y := mX12_colours) (pc := 10) 3 3 rfl rfl dX12_colours_10 ?_
      refine sm_iconst (Y := mX12_colours) (pc := 11) 5 (by decide) dX12_colours_11 ?_
      refine sm_icmp_eq (Y := mX12_colours) (pc := 12) 33 (by decide) dX12_colours_12 (fun hc => ?_) (fun hc => ?_)
      · replace h := h.1 hc
        refine sm_iconst (Y := mX12_colours) (pc := 33) 1 (by decide) dX12_colours_33 ?_
        refine sm_goto (Y := mX12_colours) (pc := 34) 38 (by decide) dX12_colours_34 ?_
        exact h
      · replace h := h.2 hc
        refine sm_iload_n (Y := mX12_colours) (pc := 15) 3 3 rfl rfl dX12_colours_15 ?_
        refine sm_bipush (Y := mX12_colours) (pc := 16) 7 (by decide) dX12_colours_16 ?_
        refine sm_icmp_eq (Y := mX12_colours) (pc := 18) 33 (by decide) dX12_colours_18 (fun hc => ?_) (fun hc => ?_)
        · replace h := h.1 hc
          refine sm_iconst (Y := mX12_colours) (pc := 33) 1 (by decide) dX12_colours_33 ?_
          refine sm_goto (Y := mX12_colours) (pc := 34) 38 (by decide) dX12_colours_34 ?_
          exact h
        · replace h := h.2 hc
          refine sm_iload_n (Y := mX12_colours) (pc := 21) 3 3 rfl rfl dX12_colours_21 ?_
          refine sm_bipush (Y := mX12_colours) (pc := 22) 11 (by decide) dX12_colours_22 ?_
          refine sm_icmp_eq (Y := mX12_colours) (pc := 24) 33 (by decide) dX12_colours_24 (fun hc => ?_) (fun hc => ?_)
          · replace h := h.1 hc
            refine sm_iconst (Y := mX12_colours) (pc := 33) 1 (by decide) dX12_colours_33 ?_
            refine sm_goto (Y := mX12_colours) (pc := 34) 38 (by decide) dX12_colours_34 ?_
            exact h
          · replace h := h.2 hc
            refine sm_iload_n (Y := mX12_colours) (pc := 27) 3 3 rfl rfl dX12_colours_27 ?_
            refine sm_bipush (Y := mX12_colours) (pc := 28) 13 (by decide) dX12_colours_28 ?_
            refine sm_icmp_ne (Y := mX12_colours) (pc := 30) 37 (by decide) dX12_colours_30 (fun hc => ?_) (fun hc => ?_)
            · replace h := h.1 hc
              refine sm_iconst (Y := mX12_colours) (pc := 37) 0 (by decide) dX12_colours_37 ?_
              exact h
            · replace h := h.2 hc
              refine sm_iconst (Y := mX12_colours) (pc := 33) 1 (by decide) dX12_colours_33 ?_
              refine sm_goto (Y := mX12_colours) (pc := 34) 38 (by decide) dX12_colours_34 ?_
              exact h
abbrev mX12_namesBy : sm_Y := (yX12_namesBy, cX12_namesBy, 9, none)
theorem fX12_namesBy : sm_mi mX12_namesBy RX12 2 := ⟨sm_in 1593 (by decide +kernel) (by decide +kernel), sm_in 1592 (by decide +kernel) (by decide +kernel), sm_in 70 (by decide +kernel) (by decide +kernel), sm_in 93 (by decide +kernel) (by decide +kernel), rfl, ⟨by decide +kernel, by decide +kernel, by decide +kernel⟩, by decide⟩
def gX12_namesBy_37 (E : sm_E) (L : sm_S → Prop) (d : Nat) (vs : List Value) (x1 : Int64) (x5 : Int64) (x7 : Int64) (m : sm_M) (Q : sm_M → Prop) : Prop := sm_go E L mX12_namesBy d 0 0 vs 37 [(0, .ref (sm_B E + 109)), (1, .long x1), (5, .long x5), (7, .long x7)] [] m 0 0 (sm_Z E L vs 0 0 (sm_QV Q))
theorem dX12_namesBy_37 : decode cX12_namesBy 37 = .ok (.lload 7, 2) := dk_lload 7 (b := 7) (by decide +kernel) (by decide +kernel) (by decide +kernel)
theorem dX12_namesBy_39 : decode cX12_namesBy 39 = .ok (.lload 5, 2) := dk_lload 5 (b := 5) (by decide +kernel) (by decide +kernel) (by decide +kernel)
theorem dX12_namesBy_41 : decode cX12_namesBy 41 = .ok (.lcmp, 1) := dk_lcmp (by decide +kernel)
theorem dX12_namesBy_42 : decode cX12_namesBy 42 = .ok (.ifCond .ge 31, 3) := dk_ifCond_ge 31 (b1 := 0) (b2 := 31) (by decide +kernel) (by decide +kernel) (by decide +kernel) (by decide +kernel)
theorem dX12_namesBy_73 : decode cX12_namesBy 73 = .ok (.return_, 1) := dk_return_ (by decide +kernel)
theorem dX12_namesBy_45 : decode cX12_namesBy 45 = .ok (.lload 7, 2) := dk_lload 7 (b := 7) (by decide +kernel) (by decide +kernel) (by decide +kernel)
theorem dX12_namesBy_47 : decode cX12_namesBy 47 = .ok (.lload 5, 2) := dk_lload 5 (b := 5) (by decide +kernel) (by decide +kernel) (by decide +kernel)
theorem dX12_namesBy_49 : decode cX12_namesBy 49 = .ok (.lmul, 1) := dk_lmul (by decide +kernel)
theorem dX12_namesBy_50 : decode cX12_namesBy 50 = .ok (.lload_n 1, 1) := dk_lload_n_1 (by decide +kernel)
theorem dX12_namesBy_51 : decode cX12_namesBy 51 = .ok (.lrem, 1) := dk_lrem (by decide +kernel)
theorem dX12_namesBy_52 : decode cX12_namesBy 52 = .ok (.lconst 1, 1) := dk_lconst_1 (by decide +kernel)
theorem dX12_namesBy_53 : decode cX12_namesBy 53 = .ok (.lcmp, 1) := dk_lcmp (by decide +kernel)
theorem dX12_namesBy_54 : decode cX12_namesBy 54 = .ok (.ifCond .ne 10, 3) := dk_ifCond_ne 10 (b1 := 0) (b2 := 10) (by decide +kernel) (by decide +kernel) (by decide +kernel) (by decide +kernel)
theorem dX12_namesBy_64 : decode cX12_namesBy 64 = .ok (.lload 7, 2) := dk_lload 7 (b := 7) (by decide +kernel) (by decide +kernel) (by decide +kernel)
theorem dX12_namesBy_66 : decode cX12_namesBy 66 = .ok (.lconst 1, 1) := dk_lconst_1 (by decide +kernel)
theorem dX12_namesBy_67 : decode cX12_namesBy 67 = .ok (.ladd, 1) := dk_ladd (by decide +kernel)
theorem dX12_namesBy_68 : decode cX12_namesBy 68 = .ok (.lstore 7, 2) := dk_lstore 7 (b := 7) (by decide +kernel) (by decide +kernel) (by decide +kernel)
theorem dX12_namesBy_70 : decode cX12_namesBy 70 = .ok (.goto (-33), 3) := dk_goto (-33) (b1 := 255) (b2 := 223) (by decide +kernel) (by decide +kernel) (by decide +kernel) (by decide +kernel)
theorem dX12_namesBy_57 : decode cX12_namesBy 57 = .ok (.aload_n 0, 1) := dk_aload_n_0 (by decide +kernel)
theorem dX12_namesBy_58 : decode cX12_namesBy 58 = .ok (.lload 7, 2) := dk_lload 7 (b := 7) (by decide +kernel) (by decide +kernel) (by decide +kernel)
theorem dX12_namesBy_60 : decode cX12_namesBy 60 = .ok (.putfield 351, 3) := dk_putfield 351 (b1 := 1) (b2 := 95) (by decide +kernel) (by decide +kernel) (by decide +kernel) (by decide +kernel)
theorem dX12_namesBy_63 : decode cX12_namesBy 63 = .ok (.return_, 1) := dk_return_ (by decide +kernel)
set_option maxRecDepth 20000 in
theorem vX12_namesBy_37 {E : sm_E} {L : sm_S → Prop} {d : Nat} {vs : List Value} {x1 : Int64} {x5 : Int64} {x7 : Int64}  {m : sm_M} {Q : sm_M → Prop} (hly : ∀ S, L S → ly S) (hd : 2 ≤ d) 
  (h : (x5 ≤ x7 →
      Q m) ∧
   (¬ x5 ≤ x7 →
      (¬ x1 = 0) ∧ (¬ (sm_remL (x7 * x5) x1) = 1 →
         ∀ x7_2 : Int64, x7_2 = x7 + 1 →
         gX12_namesBy_37 E L d vs x1 x5 x7_2 m Q) ∧
      ((sm_remL (x7 * x5) x1) = 1 →
         ∀ m_3 : sm_M, m_3 = sm_wJ m 109 61 x7 →
         Q m_3))) :
  gX12_namesBy_37 E L d vs x1 x5 x7 m Q := by
  refine sm_lload (Y := mX12_namesBy) (pc := 37) 3 7 rfl dX12_namesBy_37 ?_
  refine sm_lload (Y := mX12_namesBy) (pc := 39) 2 5 rfl dX12_namesBy_39 ?_
  refine sm_lif_ge (Y := mX12_namesBy) (pc := 41) 73 (by decide) dX12_namesBy_41 dX12_namesBy_42 (fun hc => ?_) (fun hc => ?_)
  · replace h := h.1 hc
    exact sm_vret (Y := mX12_namesBy) (pc := 73) rfl rfl rfl dX12_namesBy_73 ⟨rfl, h⟩
  · replace h := h.2 hc
    refine sm_lload (Y := mX12_namesBy) (pc := 45) 3 7 rfl dX12_namesBy_45 ?_
    refine sm_lload (Y := mX12_namesBy) (pc := 47) 2 5 rfl dX12_namesBy_47 ?_
    refine sm_lmul (Y := mX12_namesBy) (pc := 49) dX12_namesBy_49 ?_
    refine sm_lload_n (Y := mX12_namesBy) (pc := 50) 1 1 rfl rfl dX12_namesBy_50 ?_
    obtain ⟨hn_1, h⟩ := h
    refine sm_lrem (Y := mX12_namesBy) (pc := 51) hn_1 dX12_namesBy_51 ?_
    refine sm_lconst (Y := mX12_namesBy) (pc := 52) 1 (by decide) dX12_namesBy_52 ?_
    refine sm_lif_ne (Y := mX12_namesBy) (pc := 53) 64 (by decide) dX12_namesBy_53 dX12_namesBy_54 (fun hc => ?_) (fun hc => ?_)
    · replace h := h.1 hc
      refine sm_lload (Y := mX12_namesBy) (pc := 64) 3 7 rfl dX12_namesBy_64 ?_
      refine sm_lconst (Y := mX12_namesBy) (pc := 66) 1 (by decide) dX12_namesBy_66 ?_
      refine sm_ladd (Y := mX12_namesBy) (pc := 67) dX12_namesBy_67 ?_
      refine sm_lstore (Y := mX12_namesBy) (pc := 68) (fun y => [(7, .long y), (0, .ref (sm_B E + 109)), (1, .long x1), (5, .long x5)]) 7 (by decide) (fun _ => rfl) dX12_namesBy_68 (fun x7_2 ex7_2 => ?_)
      replace h := h x7_2 ex7_2
      refine sm_goto (Y := mX12_namesBy) (pc := 70) 37 (by decide) dX12_namesBy_70 ?_
      refine sm_sub [1, 2, 3, 0] rfl ?_
      exact h
    · replace h := h.2 hc
      refine sm_aload_n (Y := mX12_namesBy) (pc := 57) 0 0 rfl rfl dX12_namesBy_57 ?_
      refine sm_lload (Y := mX12_namesBy) (pc := 58) 3 7 rfl dX12_namesBy_58 ?_
      refine pf_RX12_351 (Y := mX12_namesBy) (pc := 60) rfl ((lk_109 hly) _) dX12_namesBy_60 (fun m_3 em_3 => ?_)
      replace h := h m_3 em_3
      exact sm_vret (Y := mX12_namesBy) (pc := 63) rfl rfl rfl dX12_namesBy_63 ⟨rfl, h⟩
theorem dX12_namesBy_0 : decode cX12_namesBy 0 = .ok (.aload_n 0, 1) := dk_aload_n_0 (by decide +kernel)
theorem dX12_namesBy_1 : decode cX12_namesBy 1 = .ok (.lload_n 1, 1) := dk_lload_n_1 (by decide +kernel)
theorem dX12_namesBy_2 : decode cX12_namesBy 2 = .ok (.putfield 348, 3) := dk_putfield 348 (b1 := 1) (b2 := 92) (by decide +kernel) (by decide +kernel) (by decide +kernel) (by decide +kernel)
theorem dX12_namesBy_5 : decode cX12_namesBy 5 = .ok (.lload_n 1, 1) := dk_lload_n_1 (by decide +kernel)
theorem dX12_namesBy_6 : decode cX12_namesBy 6 = .ok (.ldc2_w 334, 3) := dk_ldc2_w 334 (b1 := 1) (b2 := 78) (by decide +kernel) (by decide +kernel) (by decide +kernel) (by decide +kernel)
theorem dX12_namesBy_9 : decode cX12_namesBy 9 = .ok (.lcmp, 1) := dk_lcmp (by decide +kernel)
theorem dX12_namesBy_10 : decode cX12_namesBy 10 = .ok (.ifCond .ge 11, 3) := dk_ifCond_ge 11 (b1 := 0) (b2 := 11) (by decide +kernel) (by decide +kernel) (by decide +kernel) (by decide +kernel)
theorem dX12_namesBy_21 : decode cX12_namesBy 21 = .ok (.lload_n 3, 1) := dk_lload_n_3 (by decide +kernel)
theorem dX12_namesBy_22 : decode cX12_namesBy 22 = .ok (.lload_n 1, 1) := dk_lload_n_1 (by decide +kernel)
theorem wRX12_354 : Cond.methodLink RX12 354 yX12_left ∈ sm_T := sm_in 1594 (by decide +kernel) (by decide +kernel)
theorem dX12_namesBy_23 : decode cX12_namesBy 23 = .ok (.invokestatic 354, 3) := dk_invokestatic 354 (b1 := 1) (b2 := 98) (by decide +kernel) (by decide +kernel) (by decide +kernel) (by decide +kernel)
theorem dX12_namesBy_26 : decode cX12_namesBy 26 = .ok (.lstore 5, 2) := dk_lstore 5 (b := 5) (by decide +kernel) (by decide +kernel) (by decide +kernel)
theorem dX12_namesBy_28 : decode cX12_namesBy 28 = .ok (.aload_n 0, 1) := dk_aload_n_0 (by decide +kernel)
theorem dX12_namesBy_29 : decode cX12_namesBy 29 = .ok (.lload 5, 2) := dk_lload 5 (b := 5) (by decide +kernel) (by decide +kernel) (by decide +kernel)
theorem dX12_namesBy_31 : decode cX12_namesBy 31 = .ok (.putfield 351, 3) := dk_putfield 351 (b1 := 1) (b2 := 95) (by decide +kernel) (by decide +kernel) (by decide +kernel) (by decide +kernel)
theorem dX12_namesBy_34 : decode cX12_namesBy 34 = .ok (.lconst 1, 1) := dk_lconst_1 (by decide +kernel)
theorem dX12_namesBy_35 : decode cX12_namesBy 35 = .ok (.lstore 7, 2) := dk_lstore 7 (b := 7) (by decide +kernel) (by decide +kernel) (by decide +kernel)
theorem dX12_namesBy_13 : decode cX12_namesBy 13 = .ok (.aload_n 0, 1) := dk_aload_n_0 (by decide +kernel)
theorem dX12_namesBy_14 : decode cX12_namesBy 14 = .ok (.lconst 1, 1) := dk_lconst_1 (by decide +kernel)
theorem dX12_namesBy_15 : decode cX12_namesBy 15 = .ok (.lload_n 1, 1) := dk_lload_n_1 (by decide +kernel)
theorem dX12_namesBy_16 : decode cX12_namesBy 16 = .ok (.lsub, 1) := dk_lsub (by decide +kernel)
theorem dX12_namesBy_17 : decode cX12_namesBy 17 = .ok (.putfield 351, 3) := dk_putfield 351 (b1 := 1) (b2 := 95) (by decide +kernel) (by decide +kernel) (by decide +kernel) (by decide +kernel)
theorem dX12_namesBy_20 : decode cX12_namesBy 20 = .ok (.return_, 1) := dk_return_ (by decide +kernel)
set_option maxRecDepth 20000 in
theorem vX12_namesBy_0 {E : sm_E} {L : sm_S → Prop} {d : Nat} {x1 : Int64} {x3 : Int64}  {m : sm_M} {Q : sm_M → Prop} (hly : ∀ S, L S → ly S) (hd : 2 ≤ d) 
  (h : ∀ m_1 : sm_M, m_1 = sm_wJ m 109 60 x1 →
   (2 ≤ x1 →
      sm_callJ E L mX12_left 1 0 0 [.long x3, .long x1] m_1 (fun r_3 m_2 =>
      ∀ m_5 : sm_M, m_5 = sm_wJ m_2 109 61 r_3 →
      gX12_namesBy_37 E L d ([.ref (sm_B E + 109), .long x1, .long x3]) x1 r_3 1 m_5 Q)) ∧
   (¬ 2 ≤ x1 →
      ∀ m_7 : sm_M, m_7 = sm_wJ m_1 109 61 ((1 : Int64) - x1) →
      Q m_7)) :
  sm_callV E L mX12_namesBy d 0 0 [.ref (sm_B E + 109), .long x1, .long x3] m Q := by
  refine sm_enter (by decide +kernel) (by simp [lg_sl, Value.category]) ?_
  refine sm_aload_n (Y := mX12_namesBy) (pc := 0) 0 0 rfl rfl dX12_namesBy_0 ?_
  refine sm_lload_n (Y := mX12_namesBy) (pc := 1) 1 1 rfl rfl dX12_namesBy_1 ?_
  refine pf_RX12_348 (Y := mX12_namesBy) (pc := 2) rfl ((lk_109 hly) _) dX12_namesBy_2 (fun m_1 em_1 => ?_)
  replace h := h m_1 em_1
  refine sm_lload_n (Y := mX12_namesBy) (pc := 5) 1 1 rfl rfl dX12_namesBy_5 ?_
  refine sm_ldc2_w (Y := mX12_namesBy) (pc := 6) 2 wRX12_334 dX12_namesBy_6 ?_
  refine sm_lif_ge (Y := mX12_namesBy) (pc := 9) 21 (by decide) dX12_namesBy_9 dX12_namesBy_10 (fun hc => ?_) (fun hc => ?_)
  · replace h := h.1 hc
    refine sm_lload_n (Y := mX12_namesBy) (pc := 21) 2 3 rfl rfl dX12_namesBy_21 ?_
    refine sm_lload_n (Y := mX12_namesBy) (pc := 22) 1 1 rfl rfl dX12_namesBy_22 ?_
    refine sm_is_J (Y := mX12_namesBy) (pc := 23) (As := [.long x3, .long x1]) fX12_left wRX12_354 rfl (Nat.le_trans (by decide) hd) (Nat.le_of_ble_eq_true rfl) ⟨Nat.le_refl _, Nat.le_refl _⟩ dX12_namesBy_23 rfl (sm_monoJ h (fun r_3 m_2 h => ?_))
    refine sm_lstore0 (Y := mX12_namesBy) (pc := 26) [(5, .long r_3), (0, .ref (sm_B E + 109)), (1, .long x1), (3, .long x3)] 5 (by decide) rfl dX12_namesBy_26 ?_
    refine sm_aload_n (Y := mX12_namesBy) (pc := 28) 1 0 rfl rfl dX12_namesBy_28 ?_
    refine sm_lload (Y := mX12_namesBy) (pc := 29) 0 5 rfl dX12_namesBy_29 ?_
    refine pf_RX12_351 (Y := mX12_namesBy) (pc := 31) rfl ((lk_109 hly) _) dX12_namesBy_31 (fun m_5 em_5 => ?_)
    replace h := h m_5 em_5
    refine sm_lconst (Y := mX12_namesBy) (pc := 34) 1 (by decide) dX12_namesBy_34 ?_
    refine sm_lstore0 (Y := mX12_namesBy) (pc := 35) [(7, .long 1), (5, .long r_3), (0, .ref (sm_B E + 109)), (1, .long x1), (3, .long x3)] 7 (by decide) rfl dX12_namesBy_35 ?_
    refine sm_sub [2, 3, 1, 0] rfl ?_
    exact h
  · replace h := h.2 hc
    refine sm_aload_n (Y := mX12_namesBy) (pc := 13) 0 0 rfl rfl dX12_namesBy_13 ?_
    refine sm_lconst (Y := mX12_namesBy) (pc := 14) 1 (by decide) dX12_namesBy_14 ?_
    refine sm_lload_n (Y := mX12_namesBy) (pc := 15) 1 1 rfl rfl dX12_namesBy_15 ?_
    refine sm_lsub (Y := mX12_namesBy) (pc := 16) dX12_namesBy_16 ?_
    refine pf_RX12_351 (Y := mX12_namesBy) (pc := 17) rfl ((lk_109 hly) _) dX12_namesBy_17 (fun m_7 em_7 => ?_)
    replace h := h m_7 em_7
    exact sm_vret (Y := mX12_namesBy) (pc := 20) rfl rfl rfl dX12_namesBy_20 ⟨rfl, h⟩
abbrev mX12_namesFraction : sm_Y := (yX12_namesFraction, cX12_namesFraction, 5, none)
theorem fX12_namesFraction : sm_mi mX12_namesFraction RX12 2 := ⟨sm_in 1589 (by decide +kernel) (by decide +kernel), sm_in 1588 (by decide +kernel) (by decide +kernel), sm_in 69 (by decide +kernel) (by decide +kernel), sm_in 93 (by decide +kernel) (by decide +kernel), rfl, ⟨by decide +kernel, by decide +kernel, by decide +kernel⟩, by decide⟩
def gX12_namesFraction_13 (E : sm_E) (L : sm_S → Prop) (d : Nat) (vs : List Value) (x1 : Int64) (x3 : Int64) (s1 : Int64) (m : sm_M) (Q : sm_M → Prop) : Prop := sm_go E L mX12_namesFraction d 0 0 vs 13 [(1, .long x1), (3, .long x3)] [.long s1, .ref (sm_B E + 109)] m 0 0 (sm_Z E L vs 0 0 (sm_QV Q))
theorem dX12_namesFraction_13 : decode cX12_namesFraction 13 = .ok (.lload_n 1, 1) := dk_lload_n_1 (by decide +kernel)
theorem dX12_namesFraction_14 : decode cX12_namesFraction 14 = .ok (.lconst 0, 1) := dk_lconst_0 (by decide +kernel)
theorem dX12_namesFraction_15 : decode cX12_namesFraction 15 = .ok (.lcmp, 1) := dk_lcmp (by decide +kernel)
theorem dX12_namesFraction_16 : decode cX12_namesFraction 16 = .ok (.ifCond .ge 8, 3) := dk_ifCond_ge 8 (b1 := 0) (b2 := 8) (by decide +kernel) (by decide +kernel) (by decide +kernel) (by decide +kernel)
theorem dX12_namesFraction_24 : decode cX12_namesFraction 24 = .ok (.lload_n 3, 1) := dk_lload_n_3 (by decide +kernel)
theorem wRX12_357 : Cond.methodLink RX12 357 yX12_namesBy ∈ sm_T := sm_in 1590 (by decide +kernel) (by decide +kernel)
theorem dX12_namesFraction_25 : decode cX12_namesFraction 25 = .ok (.invokevirtual 357, 3) := dk_invokevirtual 357 (b1 := 1) (b2 := 101) (by decide +kernel) (by decide +kernel) (by decide +kernel) (by decide +kernel)
theorem dX12_namesFraction_28 : decode cX12_namesFraction 28 = .ok (.return_, 1) := dk_return_ (by decide +kernel)
theorem dX12_namesFraction_19 : decode cX12_namesFraction 19 = .ok (.lload_n 3, 1) := dk_lload_n_3 (by decide +kernel)
theorem dX12_namesFraction_20 : decode cX12_namesFraction 20 = .ok (.lneg, 1) := dk_lneg (by decide +kernel)
theorem dX12_namesFraction_21 : decode cX12_namesFraction 21 = .ok (.goto 4, 3) := dk_goto 4 (b1 := 0) (b2 := 4) (by decide +kernel) (by decide +kernel) (by decide +kernel) (by decide +kernel)
set_option maxRecDepth 20000 in
theorem vX12_namesFraction_13 {E : sm_E} {L : sm_S → Prop} {d : Nat} {vs : List Value} {x1 : Int64} {x3 : Int64} {s1 : Int64}  {m : sm_M} {Q : sm_M → Prop} (hly : ∀ S, L S → ly S) (hd : 3 ≤ d) 
  (h : (0 ≤ x1 →
      sm_callV E L mX12_namesBy 2 0 0 [.ref (sm_B E + 109), .long s1, .long x3] m (fun m_1 =>
      Q m_1)) ∧
   (¬ 0 ≤ x1 →
      sm_callV E L mX12_namesBy 2 0 0 [.ref (sm_B E + 109), .long s1, .long (-x3)] m (fun m_2 =>
      Q m_2))) :
  gX12_namesFraction_13 E L d vs x1 x3 s1 m Q := by
  refine sm_lload_n (Y := mX12_namesFraction) (pc := 13) 0 1 rfl rfl dX12_namesFraction_13 ?_
  refine sm_lconst (Y := mX12_namesFraction) (pc := 14) 0 (by decide) dX12_namesFraction_14 ?_
  refine sm_lif_ge (Y := mX12_namesFraction) (pc := 15) 24 (by decide) dX12_namesFraction_15 dX12_namesFraction_16 (fun hc => ?_) (fun hc => ?_)
  · replace h := h.1 hc
    refine sm_lload_n (Y := mX12_namesFraction) (pc := 24) 1 3 rfl rfl dX12_namesFraction_24 ?_
    refine sm_iv_V (Y := mX12_namesFraction) (pc := 25) (As := [.long s1, .long x3]) (a := 109) fX12_namesBy wRX12_357 (lk_109 hly) (by decide) rfl rfl rfl (Nat.le_trans (by decide) hd) (Nat.le_of_ble_eq_true rfl) ⟨Nat.le_refl _, Nat.le_refl _⟩ dX12_namesFraction_25 rfl (sm_monoV h (fun m_1 h => ?_))
    exact sm_vret (Y := mX12_namesFraction) (pc := 28) rfl rfl rfl dX12_namesFraction_28 ⟨rfl, h⟩
  · replace h := h.2 hc
    refine sm_lload_n (Y := mX12_namesFraction) (pc := 19) 1 3 rfl rfl dX12_namesFraction_19 ?_
    refine sm_lneg (Y := mX12_namesFraction) (pc := 20) dX12_namesFraction_20 ?_
    refine sm_goto (Y := mX12_namesFraction) (pc := 21) 25 (by decide) dX12_namesFraction_21 ?_
    refine sm_iv_V (Y := mX12_namesFraction) (pc := 25) (As := [.long s1, .long (-x3)]) (a := 109) fX12_namesBy wRX12_357 (lk_109 hly) (by decide) rfl rfl rfl (Nat.le_trans (by decide) hd) (Nat.le_of_ble_eq_true rfl) ⟨Nat.le_refl _, Nat.le_refl _⟩ dX12_namesFraction_25 rfl (sm_monoV h (fun m_2 h => ?_))
    exact sm_vret (Y := mX12_namesFraction) (pc := 28) rfl rfl rfl dX12_namesFraction_28 ⟨rfl, h⟩
theorem dX12_namesFraction_0 : decode cX12_namesFraction 0 = .ok (.aload_n 0, 1) := dk_aload_n_0 (by decide +kernel)
theorem dX12_namesFraction_1 : decode cX12_namesFraction 1 = .ok (.lload_n 1, 1) := dk_lload_n_1 (by decide +kernel)
theorem dX12_namesFraction_2 : decode cX12_namesFraction 2 = .ok (.lconst 0, 1) := dk_lconst_0 (by decide +kernel)
theorem dX12_namesFraction_3 : decode cX12_namesFraction 3 = .ok (.lcmp, 1) := dk_lcmp (by decide +kernel)
theorem dX12_namesFraction_4 : decode cX12_namesFraction 4 = .ok (.ifCond .ge 8, 3) := dk_ifCond_ge 8 (b1 := 0) (b2 := 8) (by decide +kernel) (by decide +kernel) (by decide +kernel) (by decide +kernel)
theorem dX12_namesFraction_12 : decode cX12_namesFraction 12 = .ok (.lload_n 1, 1) := dk_lload_n_1 (by decide +kernel)
theorem dX12_namesFraction_7 : decode cX12_namesFraction 7 = .ok (.lload_n 1, 1) := dk_lload_n_1 (by decide +kernel)
theorem dX12_namesFraction_8 : decode cX12_namesFraction 8 = .ok (.lneg, 1) := dk_lneg (by decide +kernel)
theorem dX12_namesFraction_9 : decode cX12_namesFraction 9 = .ok (.goto 4, 3) := dk_goto 4 (b1 := 0) (b2 := 4) (by decide +kernel) (by decide +kernel) (by decide +kernel) (by decide +kernel)
set_option maxRecDepth 20000 in
theorem vX12_namesFraction_0 {E : sm_E} {L : sm_S → Prop} {d : Nat} {x1 : Int64} {x3 : Int64}  {m : sm_M} {Q : sm_M → Prop}  (hd : 3 ≤ d) 
  (h : (0 ≤ x1 →
      gX12_namesFraction_13 E L d ([.ref (sm_B E + 109), .long x1, .long x3]) x1 x3 x1 m Q) ∧
   (¬ 0 ≤ x1 →
      gX12_namesFraction_13 E L d ([.ref (sm_B E + 109), .long x1, .long x3]) x1 x3 (-x1) m Q)) :
  sm_callV E L mX12_namesFraction d 0 0 [.ref (sm_B E + 109), .long x1, .long x3] m Q := by
  refine sm_enter (by decide +kernel) (by simp [lg_sl, Value.category]) ?_
  refine sm_aload_n (Y := mX12_namesFraction) (pc := 0) 0 0 rfl rfl dX12_namesFraction_0 ?_
  refine sm_lload_n (Y := mX12_namesFraction) (pc := 1) 1 1 rfl rfl dX12_namesFraction_1 ?_
  refine sm_lconst (Y := mX12_namesFraction) (pc := 2) 0 (by decide) dX12_namesFraction_2 ?_
  refine sm_lif_ge (Y := mX12_namesFraction) (pc := 3) 12 (by decide) dX12_namesFraction_3 dX12_namesFraction_4 (fun hc => ?_) (fun hc => ?_)
  · replace h := h.1 hc
    refine sm_lload_n (Y := mX12_namesFraction) (pc := 12) 1 1 rfl rfl dX12_namesFraction_12 ?_
    refine sm_sub [1, 2] rfl ?_
    exact h
  · replace h := h.2 hc
    refine sm_lload_n (Y := mX12_namesFraction) (pc := 7) 1 1 rfl rfl dX12_namesFraction_7 ?_
    refine sm_lneg (Y := mX12_namesFraction) (pc := 8) dX12_namesFraction_8 ?_
    refine sm_goto (Y := mX12_namesFraction) (pc := 9) 13 (by decide) dX12_namesFraction_9 ?_
    refine sm_sub [1, 2] rfl ?_
    exact h
abbrev mX12_names : sm_Y := (yX12_names, cX12_names, 4, (some FieldType.boolean))
theorem fX12_names : sm_mi mX12_names RX12 2 := ⟨sm_in 1585 (by decide +kernel) (by decide +kernel), sm_in 1584 (by decide +kernel) (by decide +kernel), sm_in 68 (by decide +kernel) (by decide +kernel), sm_in 93 (by decide +kernel) (by decide +kernel), rfl, ⟨by decide +kernel, by decide +kernel, by decide +kernel⟩, by decide⟩
def gX12_names_46 (E : sm_E) (L : sm_S → Prop) (d : Nat) (vs : List Value) (s0 : Int32) (m : sm_M) (Q : Int32 → sm_M → Prop) : Prop := sm_go E L mX12_names d 0 0 vs 46 [(0, .ref (sm_B E + 109))] [.int s0] m 0 0 (sm_Z E L vs 0 0 (sm_QI Q))
theorem dX12_names_46 : decode cX12_names 46 = .ok (.istore_n 3, 1) := dk_istore_n_3 (by decide +kernel)
theorem dX12_names_47 : decode cX12_names 47 = .ok (.iload_n 3, 1) := dk_iload_n_3 (by decide +kernel)
theorem dX12_names_48 : decode cX12_names 48 = .ok (.ifCond .eq 15, 3) := dk_ifCond_eq 15 (b1 := 0) (b2 := 15) (by decide +kernel) (by decide +kernel) (by decide +kernel) (by decide +kernel)
theorem dX12_names_63 : decode cX12_names 63 = .ok (.iconst 1, 1) := dk_iconst_1 (by decide +kernel)
theorem dX12_names_64 : decode cX12_names 64 = .ok (.ireturn, 1) := dk_ireturn (by decide +kernel)
theorem dX12_names_51 : decode cX12_names 51 = .ok (.aload_n 0, 1) := dk_aload_n_0 (by decide +kernel)
theorem dX12_names_52 : decode cX12_names 52 = .ok (.aload_n 0, 1) := dk_aload_n_0 (by decide +kernel)
theorem dX12_names_53 : decode cX12_names 53 = .ok (.getfield 170, 3) := dk_getfield 170 (b1 := 0) (b2 := 170) (by decide +kernel) (by decide +kernel) (by decide +kernel) (by decide +kernel)
theorem dX12_names_56 : decode cX12_names 56 = .ok (.aload_n 0, 1) := dk_aload_n_0 (by decide +kernel)
theorem dX12_names_57 : decode cX12_names 57 = .ok (.getfield 173, 3) := dk_getfield 173 (b1 := 0) (b2 := 173) (by decide +kernel) (by decide +kernel) (by decide +kernel) (by decide +kernel)
theorem wRX12_360 : Cond.methodLink RX12 360 yX12_namesFraction ∈ sm_T := sm_in 1586 (by decide +kernel) (by decide +kernel)
theorem dX12_names_60 : decode cX12_names 60 = .ok (.invokevirtual 360, 3) := dk_invokevirtual 360 (b1 := 1) (b2 := 104) (by decide +kernel) (by decide +kernel) (by decide +kernel) (by decide +kernel)
set_option maxRecDepth 20000 in
theorem vX12_names_46 {E : sm_E} {L : sm_S → Prop} {d : Nat} {vs : List Value} {s0 : Int32}  {m : sm_M} {Q : Int32 → sm_M → Prop} (hly : ∀ S, L S → ly S) (hd : 4 ≤ d) 
  (h : (s0 = 0 →
      Q 1 m) ∧
   (¬ s0 = 0 →
      sm_callV E L mX12_namesFraction 3 0 0 [.ref (sm_B E + 109), .long (m.2.1 109 29), .long (m.2.1 109 30)] m (fun m_2 =>
      Q 1 m_2))) :
  gX12_names_46 E L d vs s0 m Q := by
  refine sm_istore0_n (Y := mX12_names) (pc := 46) [(3, .int s0), (0, .ref (sm_B E + 109))] 3 rfl (by decide) rfl dX12_names_46 ?_
  refine sm_iload_n (Y := mX12_names) (pc := 47) 0 3 rfl rfl dX12_names_47 ?_
  refine sm_if_eq (Y := mX12_names) (pc := 48) 63 (by decide) dX12_names_48 (fun hc => ?_) (fun hc => ?_)
  · replace h := h.1 hc
    refine sm_iconst (Y := mX12_names) (pc := 63) 1 (by decide) dX12_names_63 ?_
    exact sm_zret (Y := mX12_names) (pc := 64) rfl (by decide) rfl rfl dX12_names_64 ⟨_, rfl, h⟩
  · replace h := h.2 hc
    refine sm_aload_n (Y := mX12_names) (pc := 51) 1 0 rfl rfl dX12_names_51 ?_
    refine sm_aload_n (Y := mX12_names) (pc := 52) 1 0 rfl rfl dX12_names_52 ?_
    refine gf_RX12_170 (Y := mX12_names) (pc := 53) rfl ((lk_109 hly) _) dX12_names_53 ?_
    refine sm_aload_n (Y := mX12_names) (pc := 56) 1 0 rfl rfl dX12_names_56 ?_
    refine gf_RX12_173 (Y := mX12_names) (pc := 57) rfl ((lk_109 hly) _) dX12_names_57 ?_
    refine sm_iv_V (Y := mX12_names) (pc := 60) (As := [.long (m.2.1 109 29), .long (m.2.1 109 30)]) (a := 109) fX12_namesFraction wRX12_360 (lk_109 hly) (by decide) rfl rfl rfl (Nat.le_trans (by decide) hd) (Nat.le_of_ble_eq_true rfl) ⟨Nat.le_refl _, Nat.le_refl _⟩ dX12_names_60 rfl (sm_monoV h (fun m_2 h => ?_))
    refine sm_iconst (Y := mX12_names) (pc := 63) 1 (by decide) dX12_names_63 ?_
    exact sm_zret (Y := mX12_names) (pc := 64) rfl (by decide) rfl rfl dX12_names_64 ⟨_, rfl, h⟩
theorem dX12_names_0 : decode cX12_names 0 = .ok (.aload_n 0, 1) := dk_aload_n_0 (by decide +kernel)
theorem dX12_names_1 : decode cX12_names 1 = .ok (.iload_n 1, 1) := dk_iload_n_1 (by decide +kernel)
theorem dX12_names_2 : decode cX12_names 2 = .ok (.invokevirtual 176, 3) := dk_invokevirtual 176 (b1 := 0) (b2 := 176) (by decide +kernel) (by decide +kernel) (by decide +kernel) (by decide +kernel)
theorem dX12_names_5 : decode cX12_names 5 = .ok (.aload_n 0, 1) := dk_aload_n_0 (by decide +kernel)
theorem dX12_names_6 : decode cX12_names 6 = .ok (.getfield 155, 3) := dk_getfield 155 (b1 := 0) (b2 := 155) (by decide +kernel) (by decide +kernel) (by decide +kernel) (by decide +kernel)
theorem dX12_names_9 : decode cX12_names 9 = .ok (.ifCond .ne 5, 3) := dk_ifCond_ne 5 (b1 := 0) (b2 := 5) (by decide +kernel) (by decide +kernel) (by decide +kernel) (by decide +kernel)
theorem dX12_names_14 : decode cX12_names 14 = .ok (.iload_n 2, 1) := dk_iload_n_2 (by decide +kernel)
theorem dX12_names_15 : decode cX12_names 15 = .ok (.ifCond .ne 18, 3) := dk_ifCond_ne 18 (b1 := 0) (b2 := 18) (by decide +kernel) (by decide +kernel) (by decide +kernel) (by decide +kernel)
theorem dX12_names_33 : decode cX12_names 33 = .ok (.aload_n 0, 1) := dk_aload_n_0 (by decide +kernel)
theorem dX12_names_34 : decode cX12_names 34 = .ok (.aload_n 0, 1) := dk_aload_n_0 (by decide +kernel)
theorem dX12_names_35 : decode cX12_names 35 = .ok (.getfield 152, 3) := dk_getfield 152 (b1 := 0) (b2 := 152) (by decide +kernel) (by decide +kernel) (by decide +kernel) (by decide +kernel)
theorem dX12_names_38 : decode cX12_names 38 = .ok (.lneg, 1) := dk_lneg (by decide +kernel)
theorem dX12_names_39 : decode cX12_names 39 = .ok (.aload_n 0, 1) := dk_aload_n_0 (by decide +kernel)
theorem dX12_names_40 : decode cX12_names 40 = .ok (.getfield 148, 3) := dk_getfield 148 (b1 := 0) (b2 := 148) (by decide +kernel) (by decide +kernel) (by decide +kernel) (by decide +kernel)
theorem dX12_names_43 : decode cX12_names 43 = .ok (.invokevirtual 180, 3) := dk_invokevirtual 180 (b1 := 0) (b2 := 180) (by decide +kernel) (by decide +kernel) (by decide +kernel) (by decide +kernel)
theorem dX12_names_18 : decode cX12_names 18 = .ok (.aload_n 0, 1) := dk_aload_n_0 (by decide +kernel)
theorem dX12_names_19 : decode cX12_names 19 = .ok (.aload_n 0, 1) := dk_aload_n_0 (by decide +kernel)
theorem dX12_names_20 : decode cX12_names 20 = .ok (.getfield 148, 3) := dk_getfield 148 (b1 := 0) (b2 := 148) (by decide +kernel) (by decide +kernel) (by decide +kernel) (by decide +kernel)
theorem dX12_names_23 : decode cX12_names 23 = .ok (.aload_n 0, 1) := dk_aload_n_0 (by decide +kernel)
theorem dX12_names_24 : decode cX12_names 24 = .ok (.getfield 152, 3) := dk_getfield 152 (b1 := 0) (b2 := 152) (by decide +kernel) (by decide +kernel) (by decide +kernel) (by decide +kernel)
theorem dX12_names_27 : decode cX12_names 27 = .ok (.invokevirtual 180, 3) := dk_invokevirtual 180 (b1 := 0) (b2 := 180) (by decide +kernel) (by decide +kernel) (by decide +kernel) (by decide +kernel)
theorem dX12_names_30 : decode cX12_names 30 = .ok (.goto 16, 3) := dk_goto 16 (b1 := 0) (b2 := 16) (by decide +kernel) (by decide +kernel) (by decide +kernel) (by decide +kernel)
theorem dX12_names_12 : decode cX12_names 12 = .ok (.iconst 0, 1) := dk_iconst_0 (by decide +kernel)
theorem dX12_names_13 : decode cX12_names 13 = .ok (.ireturn, 1) := dk_ireturn (by decide +kernel)
set_option maxRecDepth 20000 in
theorem vX12_names_0 {E : sm_E} {L : sm_S → Prop} {d : Nat} {x1 : Int32} {x2 : Int32}  {m : sm_M} {Q : Int32 → sm_M → Prop} (hly : ∀ S, L S → ly S) (hd : 4 ≤ d) 
  (h : sm_callV E L mX12_measured 3 0 0 [.ref (sm_B E + 109), .int x1] m (fun m_1 =>
   (¬ (m_1.1 109 25) = 0 →
      (¬ x2 = 0 →
         sm_callI E L mX12_fractionOf 2 0 0 [.ref (sm_B E + 109), .long (-(m_1.2.1 109 24)), .long (m_1.2.1 109 23)] m_1 (fun r_3 m_2 =>
         gX12_names_46 E L d ([.ref (sm_B E + 109), .int x1, .int x2]) r_3 m_2 Q)) ∧
      (x2 = 0 →
         sm_callI E L mX12_fractionOf 2 0 0 [.ref (sm_B E + 109), .long (m_1.2.1 109 23), .long (m_1.2.1 109 24)] m_1 (fun r_5 m_4 =>
         gX12_names_46 E L d ([.ref (sm_B E + 109), .int x1, .int x2]) r_5 m_4 Q))) ∧
   ((m_1.1 109 25) = 0 →
      Q 0 m_1))) :
  sm_callI E L mX12_names d 0 0 [.ref (sm_B E + 109), .int x1, .int x2] m Q := by
  refine sm_enter (by decide +kernel) (by simp [lg_sl, Value.category]) ?_
  refine sm_aload_n (Y := mX12_names) (pc := 0) 0 0 rfl rfl dX12_names_0 ?_
  refine sm_iload_n (Y := mX12_names) (pc := 1) 1 1 rfl rfl dX12_names_1 ?_
  refine sm_iv_V (Y := mX12_names) (pc := 2) (As := [.int x1]) (a := 109) fX12_measured wRX12_176 (lk_109 hly) (by decide) rfl rfl rfl (Nat.le_trans (by decide) hd) (Nat.le_of_ble_eq_true rfl) ⟨Nat.le_refl _, Nat.le_refl _⟩ dX12_names_2 rfl (sm_monoV h (fun m_1 h => ?_))
  refine sm_aload_n (Y := mX12_names) (pc := 5) 0 0 rfl rfl dX12_names_5 ?_
  refine gf_RX12_155 (Y := mX12_names) (pc := 6) rfl ((lk_109 hly) _) dX12_names_6 ?_
  refine sm_if_ne (Y := mX12_names) (pc := 9) 14 (by decide) dX12_names_9 (fun hc => ?_) (fun hc => ?_)
  · replace h := h.1 hc
    refine sm_iload_n (Y := mX12_names) (pc := 14) 2 2 rfl rfl dX12_names_14 ?_
    refine sm_if_ne (Y := mX12_names) (pc := 15) 33 (by decide) dX12_names_15 (fun hc => ?_) (fun hc => ?_)
    · replace h := h.1 hc
      refine sm_aload_n (Y := mX12_names) (pc := 33) 0 0 rfl rfl dX12_names_33 ?_
      refine sm_aload_n (Y := mX12_names) (pc := 34) 0 0 rfl rfl dX12_names_34 ?_
      refine gf_RX12_152 (Y := mX12_names) (pc := 35) rfl ((lk_109 hly) _) dX12_names_35 ?_
      refine sm_lneg (Y := mX12_names) (pc := 38) dX12_names_38 ?_
      refine sm_aload_n (Y := mX12_names) (pc := 39) 0 0 rfl rfl dX12_names_39 ?_
      refine gf_RX12_148 (Y := mX12_names) (pc := 40) rfl ((lk_109 hly) _) dX12_names_40 ?_
      refine sm_iv_I (Y := mX12_names) (pc := 43) (As := [.long (-(m_1.2.1 109 24)), .long (m_1.2.1 109 23)]) (a := 109) fX12_fractionOf wRX12_180 (lk_109 hly) (by decide) rfl rfl rfl (Nat.le_trans (by decide) hd) (Nat.le_of_ble_eq_true rfl) ⟨Nat.le_refl _, Nat.le_refl _⟩ dX12_names_43 rfl (sm_monoI h (fun r_3 m_2 h => ?_))
      refine sm_sub [0] rfl ?_
      exact h
    · replace h := h.2 hc
      refine sm_aload_n (Y := mX12_names) (pc := 18) 0 0 rfl rfl dX12_names_18 ?_
      refine sm_aload_n (Y := mX12_names) (pc := 19) 0 0 rfl rfl dX12_names_19 ?_
      refine gf_RX12_148 (Y := mX12_names) (pc := 20) rfl ((lk_109 hly) _) dX12_names_20 ?_
      refine sm_aload_n (Y := mX12_names) (pc := 23) 0 0 rfl rfl dX12_names_23 ?_
      refine gf_RX12_152 (Y := mX12_names) (pc := 24) rfl ((lk_109 hly) _) dX12_names_24 ?_
      refine sm_iv_I (Y := mX12_names) (pc := 27) (As := [.long (m_1.2.1 109 23), .long (m_1.2.1 109 24)]) (a := 109) fX12_fractionOf wRX12_180 (lk_109 hly) (by decide) rfl rfl rfl (Nat.le_trans (by decide) hd) (Nat.le_of_ble_eq_true rfl) ⟨Nat.le_refl _, Nat.le_refl _⟩ dX12_names_27 rfl (sm_monoI h (fun r_5 m_4 h => ?_))
      refine sm_goto (Y := mX12_names) (pc := 30) 46 (by decide) dX12_names_30 ?_
      refine sm_sub [0] rfl ?_
      exact h
  · replace h := h.2 hc
    refine sm_iconst (Y := mX12_names) (pc := 12) 0 (by decide) dX12_names_12 ?_
    exact sm_zret (Y := mX12_names) (pc := 13) rfl (by decide) rfl rfl dX12_names_13 ⟨_, rfl, h⟩
abbrev mX12_glass : sm_Y := (yX12_glass, cX12_glass, 1, none)
theorem fX12_glass : sm_mi mX12_glass RX12 0 := ⟨sm_in 1611 (by decide +kernel) (by decide +kernel), sm_in 1610 (by decide +kernel) (by decide +kernel), sm_in 73 (by decide +kernel) (by decide +kernel), sm_in 93 (by decide +kernel) (by decide +kernel), rfl, ⟨by decide +kernel, by decide +kernel, by decide +kernel⟩, by decide⟩
theorem dX12_glass_0 : decode cX12_glass 0 = .ok (.aload_n 0, 1) := dk_aload_n_0 (by decide +kernel)
theorem dX12_glass_1 : decode cX12_glass 1 = .ok (.getfield 348, 3) := dk_getfield 348 (b1 := 1) (b2 := 92) (by decide +kernel) (by decide +kernel) (by decide +kernel) (by decide +kernel)
theorem dX12_glass_4 : decode cX12_glass 4 = .ok (.lconst 1, 1) := dk_lconst_1 (by decide +kernel)
theorem dX12_glass_5 : decode cX12_glass 5 = .ok (.lcmp, 1) := dk_lcmp (by decide +kernel)
theorem dX12_glass_6 : decode cX12_glass 6 = .ok (.ifCond .le 20, 3) := dk_ifCond_le 20 (b1 := 0) (b2 := 20) (by decide +kernel) (by decide +kernel) (by decide +kernel) (by decide +kernel)
theorem dX12_glass_26 : decode cX12_glass 26 = .ok (.return_, 1) := dk_return_ (by decide +kernel)
theorem dX12_glass_9 : decode cX12_glass 9 = .ok (.aload_n 0, 1) := dk_aload_n_0 (by decide +kernel)
theorem dX12_glass_10 : decode cX12_glass 10 = .ok (.aload_n 0, 1) := dk_aload_n_0 (by decide +kernel)
theorem dX12_glass_11 : decode cX12_glass 11 = .ok (.getfield 348, 3) := dk_getfield 348 (b1 := 1) (b2 := 92) (by decide +kernel) (by decide +kernel) (by decide +kernel) (by decide +kernel)
theorem dX12_glass_14 : decode cX12_glass 14 = .ok (.aload_n 0, 1) := dk_aload_n_0 (by decide +kernel)
theorem dX12_glass_15 : decode cX12_glass 15 = .ok (.getfield 348, 3) := dk_getfield 348 (b1 := 1) (b2 := 92) (by decide +kernel) (by decide +kernel) (by decide +kernel) (by decide +kernel)
theorem dX12_glass_18 : decode cX12_glass 18 = .ok (.aload_n 0, 1) := dk_aload_n_0 (by decide +kernel)
theorem dX12_glass_19 : decode cX12_glass 19 = .ok (.getfield 351, 3) := dk_getfield 351 (b1 := 1) (b2 := 95) (by decide +kernel) (by decide +kernel) (by decide +kernel) (by decide +kernel)
theorem dX12_glass_22 : decode cX12_glass 22 = .ok (.lsub, 1) := dk_lsub (by decide +kernel)
theorem dX12_glass_23 : decode cX12_glass 23 = .ok (.invokevirtual 357, 3) := dk_invokevirtual 357 (b1 := 1) (b2 := 101) (by decide +kernel) (by decide +kernel) (by decide +kernel) (by decide +kernel)
set_option maxRecDepth 20000 in
theorem vX12_glass_0 {E : sm_E} {L : sm_S → Prop} {d : Nat}   {m : sm_M} {Q : sm_M → Prop} (hly : ∀ S, L S → ly S) (hd : 3 ≤ d) 
  (h : ((m.2.1 109 60) ≤ 1 →
      Q m) ∧
   (¬ (m.2.1 109 60) ≤ 1 →
      sm_callV E L mX12_namesBy 2 0 0 [.ref (sm_B E + 109), .long (m.2.1 109 60), .long ((m.2.1 109 60) - (m.2.1 109 61))] m (fun m_1 =>
      Q m_1))) :
  sm_callV E L mX12_glass d 0 0 [.ref (sm_B E + 109)] m Q := by
  refine sm_enter (by decide +kernel) (by simp [lg_sl, Value.category]) ?_
  refine sm_aload_n (Y := mX12_glass) (pc := 0) 0 0 rfl rfl dX12_glass_0 ?_
  refine gf_RX12_348 (Y := mX12_glass) (pc := 1) rfl ((lk_109 hly) _) dX12_glass_1 ?_
  refine sm_lconst (Y := mX12_glass) (pc := 4) 1 (by decide) dX12_glass_4 ?_
  refine sm_lif_le (Y := mX12_glass) (pc := 5) 26 (by decide) dX12_glass_5 dX12_glass_6 (fun hc => ?_) (fun hc => ?_)
  · replace h := h.1 hc
    exact sm_vret (Y := mX12_glass) (pc := 26) rfl rfl rfl dX12_glass_26 ⟨rfl, h⟩
  · replace h := h.2 hc
    refine sm_aload_n (Y := mX12_glass) (pc := 9) 0 0 rfl rfl dX12_glass_9 ?_
    refine sm_aload_n (Y := mX12_glass) (pc := 10) 0 0 rfl rfl dX12_glass_10 ?_
    refine gf_RX12_348 (Y := mX12_glass) (pc := 11) rfl ((lk_109 hly) _) dX12_glass_11 ?_
    refine sm_aload_n (Y := mX12_glass) (pc := 14) 0 0 rfl rfl dX12_glass_14 ?_
    refine gf_RX12_348 (Y := mX12_glass) (pc := 15) rfl ((lk_109 hly) _) dX12_glass_15 ?_
    refine sm_aload_n (Y := mX12_glass) (pc := 18) 0 0 rfl rfl dX12_glass_18 ?_
    refine gf_RX12_351 (Y := mX12_glass) (pc := 19) rfl ((lk_109 hly) _) dX12_glass_19 ?_
    refine sm_lsub (Y := mX12_glass) (pc := 22) dX12_glass_22 ?_
    refine sm_iv_V (Y := mX12_glass) (pc := 23) (As := [.long (m.2.1 109 60), .long ((m.2.1 109 60) - (m.2.1 109 61))]) (a := 109) fX12_namesBy wRX12_357 (lk_109 hly) (by decide) rfl rfl rfl (Nat.le_trans (by decide) hd) (Nat.le_of_ble_eq_true rfl) ⟨Nat.le_refl _, Nat.le_refl _⟩ dX12_glass_23 rfl (sm_monoV h (fun m_1 h => ?_))
    exact sm_vret (Y := mX12_glass) (pc := 26) rfl rfl rfl dX12_glass_26 ⟨rfl, h⟩
abbrev mX12_sizeOf : sm_Y := (yX12_sizeOf, cX12_sizeOf, 8, (some FieldType.long))
theorem fX12_sizeOf : sm_mi mX12_sizeOf RX12 2 := ⟨sm_in 1600 (by decide +kernel) (by decide +kernel), sm_in 1599 (by decide +kernel) (by decide +kernel), sm_in 71 (by decide +kernel) (by decide +kernel), sm_in 93 (by decide +kernel) (by decide +kernel), rfl, ⟨by decide +kernel, by decide +kernel, by decide +kernel⟩, by decide⟩
def gX12_sizeOf_22 (E : sm_E) (L : sm_S → Prop) (d : Nat) (vs : List Value) (x5 : Int64) (x7 : Int32) (m : sm_M) (Q : Int64 → sm_M → Prop) : Prop := sm_go E L mX12_sizeOf d 0 0 vs 22 [(0, .ref (sm_B E + 109)), (5, .long x5), (7, .int x7)] [] m 0 0 (sm_Z E L vs 0 0 (sm_QJ Q))
theorem dX12_sizeOf_22 : decode cX12_sizeOf 22 = .ok (.iload 7, 2) := dk_iload 7 (b := 7) (by decide +kernel) (by decide +kernel) (by decide +kernel)
theorem dX12_sizeOf_24 : decode cX12_sizeOf 24 = .ok (.aload_n 0, 1) := dk_aload_n_0 (by decide +kernel)
theorem dX12_sizeOf_25 : decode cX12_sizeOf 25 = .ok (.getfield 271, 3) := dk_getfield 271 (b1 := 1) (b2 := 15) (by decide +kernel) (by decide +kernel) (by decide +kernel) (by decide +kernel)
theorem dX12_sizeOf_28 : decode cX12_sizeOf 28 = .ok (.if_icmp .ge 21, 3) := dk_if_icmp_ge 21 (b1 := 0) (b2 := 21) (by decide +kernel) (by decide +kernel) (by decide +kernel) (by decide +kernel)
theorem dX12_sizeOf_49 : decode cX12_sizeOf 49 = .ok (.lload 5, 2) := dk_lload 5 (b := 5) (by decide +kernel) (by decide +kernel) (by decide +kernel)
theorem dX12_sizeOf_51 : decode cX12_sizeOf 51 = .ok (.lreturn, 1) := dk_lreturn (by decide +kernel)
theorem dX12_sizeOf_31 : decode cX12_sizeOf 31 = .ok (.lload 5, 2) := dk_lload 5 (b := 5) (by decide +kernel) (by decide +kernel) (by decide +kernel)
theorem dX12_sizeOf_33 : decode cX12_sizeOf 33 = .ok (.aload_n 0, 1) := dk_aload_n_0 (by decide +kernel)
theorem dX12_sizeOf_34 : decode cX12_sizeOf 34 = .ok (.getfield 67, 3) := dk_getfield 67 (b1 := 0) (b2 := 67) (by decide +kernel) (by decide +kernel) (by decide +kernel) (by decide +kernel)
theorem dX12_sizeOf_37 : decode cX12_sizeOf 37 = .ok (.iload 7, 2) := dk_iload 7 (b := 7) (by decide +kernel) (by decide +kernel) (by decide +kernel)
theorem dX12_sizeOf_39 : decode cX12_sizeOf 39 = .ok (.laload, 1) := dk_laload (by decide +kernel)
theorem dX12_sizeOf_40 : decode cX12_sizeOf 40 = .ok (.ladd, 1) := dk_ladd (by decide +kernel)
theorem dX12_sizeOf_41 : decode cX12_sizeOf 41 = .ok (.lstore 5, 2) := dk_lstore 5 (b := 5) (by decide +kernel) (by decide +kernel) (by decide +kernel)
theorem dX12_sizeOf_43 : decode cX12_sizeOf 43 = .ok (.iinc 7 1, 3) := dk_iinc 7 1 (b1 := 7) (b2 := 1) (by decide +kernel) (by decide +kernel) (by decide +kernel) (by decide +kernel) (by decide +kernel)
theorem dX12_sizeOf_46 : decode cX12_sizeOf 46 = .ok (.goto (-24), 3) := dk_goto (-24) (b1 := 255) (b2 := 232) (by decide +kernel) (by decide +kernel) (by decide +kernel) (by decide +kernel)
set_option maxRecDepth 20000 in
theorem vX12_sizeOf_22 {E : sm_E} {L : sm_S → Prop} {d : Nat} {vs : List Value} {x5 : Int64} {x7 : Int32}  {m : sm_M} {Q : Int64 → sm_M → Prop} (hly : ∀ S, L S → ly S) (hd : 2 ≤ d) 
  (h : ((m.1 109 36) ≤ x7 →
      Q x5 m) ∧
   (¬ (m.1 109 36) ≤ x7 →
      (vp_in x7 64) ∧ ∀ x5_2 : Int64, x5_2 = x5 + (m.2.1 127 x7.toNatClampNeg) →
      ∀ x7_3 : Int32, x7_3 = x7 + 1 →
      gX12_sizeOf_22 E L d vs x5_2 x7_3 m Q)) :
  gX12_sizeOf_22 E L d vs x5 x7 m Q := by
  refine sm_iload (Y := mX12_sizeOf) (pc := 22) 2 7 rfl dX12_sizeOf_22 ?_
  refine sm_aload_n (Y := mX12_sizeOf) (pc := 24) 0 0 rfl rfl dX12_sizeOf_24 ?_
  refine gf_RX12_271 (Y := mX12_sizeOf) (pc := 25) rfl ((lk_109 hly) _) dX12_sizeOf_25 ?_
  refine sm_icmp_ge (Y := mX12_sizeOf) (pc := 28) 49 (by decide) dX12_sizeOf_28 (fun hc => ?_) (fun hc => ?_)
  · replace h := h.1 hc
    refine sm_lload (Y := mX12_sizeOf) (pc := 49) 1 5 rfl dX12_sizeOf_49 ?_
    exact sm_lret (Y := mX12_sizeOf) (pc := 51) rfl rfl rfl dX12_sizeOf_51 ⟨_, rfl, h⟩
  · replace h := h.2 hc
    refine sm_lload (Y := mX12_sizeOf) (pc := 31) 1 5 rfl dX12_sizeOf_31 ?_
    refine sm_aload_n (Y := mX12_sizeOf) (pc := 33) 0 0 rfl rfl dX12_sizeOf_33 ?_
    refine gf_RX12_67 (Y := mX12_sizeOf) (pc := 34) (b := 127) rfl ((lk_109 hly) _) (lf_109_35 hly _) dX12_sizeOf_34 ?_
    refine sm_iload (Y := mX12_sizeOf) (pc := 37) 2 7 rfl dX12_sizeOf_37 ?_
    obtain ⟨hn_1, h⟩ := h
    refine sm_lald (Y := mX12_sizeOf) (pc := 39) (la_127 hly _) hn_1 dX12_sizeOf_39 ?_
    refine sm_ladd (Y := mX12_sizeOf) (pc := 40) dX12_sizeOf_40 ?_
    refine sm_lstore (Y := mX12_sizeOf) (pc := 41) (fun y => [(5, .long y), (0, .ref (sm_B E + 109)), (7, .int x7)]) 5 (by decide) (fun _ => rfl) dX12_sizeOf_41 (fun x5_2 ex5_2 => ?_)
    replace h := h x5_2 ex5_2
    refine sm_iinc (Y := mX12_sizeOf) (pc := 43) (fun y => [(7, .int y), (5, .long x5_2), (0, .ref (sm_B E + 109))]) 2 7 rfl (by decide) (fun _ => rfl) dX12_sizeOf_43 (fun x7_3 ex7_3 => ?_)
    replace h := h x7_3 ex7_3
    refine sm_goto (Y := mX12_sizeOf) (pc := 46) 22 (by decide) dX12_sizeOf_46 ?_
    refine sm_sub [2, 1, 0] rfl ?_
    exact h
theorem dX12_sizeOf_0 : decode cX12_sizeOf 0 = .ok (.lload_n 1, 1) := dk_lload_n_1 (by decide +kernel)
theorem dX12_sizeOf_1 : decode cX12_sizeOf 1 = .ok (.ldc2_w 334, 3) := dk_ldc2_w 334 (b1 := 1) (b2 := 78) (by decide +kernel) (by decide +kernel) (by decide +kernel) (by decide +kernel)
theorem dX12_sizeOf_4 : decode cX12_sizeOf 4 = .ok (.lcmp, 1) := dk_lcmp (by decide +kernel)
theorem dX12_sizeOf_5 : decode cX12_sizeOf 5 = .ok (.ifCond .ge 5, 3) := dk_ifCond_ge 5 (b1 := 0) (b2 := 5) (by decide +kernel) (by decide +kernel) (by decide +kernel) (by decide +kernel)
theorem dX12_sizeOf_10 : decode cX12_sizeOf 10 = .ok (.aload_n 0, 1) := dk_aload_n_0 (by decide +kernel)
theorem dX12_sizeOf_11 : decode cX12_sizeOf 11 = .ok (.lload_n 1, 1) := dk_lload_n_1 (by decide +kernel)
theorem dX12_sizeOf_12 : decode cX12_sizeOf 12 = .ok (.lload_n 3, 1) := dk_lload_n_3 (by decide +kernel)
theorem dX12_sizeOf_13 : decode cX12_sizeOf 13 = .ok (.invokevirtual 274, 3) := dk_invokevirtual 274 (b1 := 1) (b2 := 18) (by decide +kernel) (by decide +kernel) (by decide +kernel) (by decide +kernel)
theorem dX12_sizeOf_16 : decode cX12_sizeOf 16 = .ok (.lconst 0, 1) := dk_lconst_0 (by decide +kernel)
theorem dX12_sizeOf_17 : decode cX12_sizeOf 17 = .ok (.lstore 5, 2) := dk_lstore 5 (b := 5) (by decide +kernel) (by decide +kernel) (by decide +kernel)
theorem dX12_sizeOf_19 : decode cX12_sizeOf 19 = .ok (.iconst 0, 1) := dk_iconst_0 (by decide +kernel)
theorem dX12_sizeOf_20 : decode cX12_sizeOf 20 = .ok (.istore 7, 2) := dk_istore 7 (b := 7) (by decide +kernel) (by decide +kernel) (by decide +kernel)
theorem dX12_sizeOf_8 : decode cX12_sizeOf 8 = .ok (.lconst 0, 1) := dk_lconst_0 (by decide +kernel)
theorem dX12_sizeOf_9 : decode cX12_sizeOf 9 = .ok (.lreturn, 1) := dk_lreturn (by decide +kernel)
set_option maxRecDepth 20000 in
theorem vX12_sizeOf_0 {E : sm_E} {L : sm_S → Prop} {d : Nat} {x1 : Int64} {x3 : Int64}  {m : sm_M} {Q : Int64 → sm_M → Prop} (hly : ∀ S, L S → ly S) (hd : 2 ≤ d) 
  (h : (2 ≤ x1 →
      sm_callV E L mX12_termsOf 1 0 0 [.ref (sm_B E + 109), .long x1, .long x3] m (fun m_1 =>
      gX12_sizeOf_22 E L d ([.ref (sm_B E + 109), .long x1, .long x3]) 0 0 m_1 Q)) ∧
   (¬ 2 ≤ x1 →
      Q 0 m)) :
  sm_callJ E L mX12_sizeOf d 0 0 [.ref (sm_B E + 109), .long x1, .long x3] m Q := by
  refine sm_enter (by decide +kernel) (by simp [lg_sl, Value.category]) ?_
  refine sm_lload_n (Y := mX12_sizeOf) (pc := 0) 1 1 rfl rfl dX12_sizeOf_0 ?_
  refine sm_ldc2_w (Y := mX12_sizeOf) (pc := 1) 2 wRX12_334 dX12_sizeOf_1 ?_
  refine sm_lif_ge (Y := mX12_sizeOf) (pc := 4) 10 (by decide) dX12_sizeOf_4 dX12_sizeOf_5 (fun hc => ?_) (fun hc => ?_)
  · replace h := h.1 hc
    refine sm_aload_n (Y := mX12_sizeOf) (pc := 10) 0 0 rfl rfl dX12_sizeOf_10 ?_
    refine sm_lload_n (Y := mX12_sizeOf) (pc := 11) 1 1 rfl rfl dX12_sizeOf_11 ?_
    refine sm_lload_n (Y := mX12_sizeOf) (pc := 12) 2 3 rfl rfl dX12_sizeOf_12 ?_
    refine sm_iv_V (Y := mX12_sizeOf) (pc := 13) (As := [.long x1, .long x3]) (a := 109) fX12_termsOf wRX12_274 (lk_109 hly) (by decide) rfl rfl rfl (Nat.le_trans (by decide) hd) (Nat.le_of_ble_eq_true rfl) ⟨Nat.le_refl _, Nat.le_refl _⟩ dX12_sizeOf_13 rfl (sm_monoV h (fun m_1 h => ?_))
    refine sm_lconst (Y := mX12_sizeOf) (pc := 16) 0 (by decide) dX12_sizeOf_16 ?_
    refine sm_lstore0 (Y := mX12_sizeOf) (pc := 17) [(5, .long 0), (0, .ref (sm_B E + 109)), (1, .long x1), (3, .long x3)] 5 (by decide) rfl dX12_sizeOf_17 ?_
    refine sm_iconst (Y := mX12_sizeOf) (pc := 19) 0 (by decide) dX12_sizeOf_19 ?_
    refine sm_istore0 (Y := mX12_sizeOf) (pc := 20) [(7, .int 0), (5, .long 0), (0, .ref (sm_B E + 109)), (1, .long x1), (3, .long x3)] 7 (by decide) rfl dX12_sizeOf_20 ?_
    refine sm_sub [2, 1, 0] rfl ?_
    exact h
  · replace h := h.2 hc
    refine sm_lconst (Y := mX12_sizeOf) (pc := 8) 0 (by decide) dX12_sizeOf_8 ?_
    exact sm_lret (Y := mX12_sizeOf) (pc := 9) rfl rfl rfl dX12_sizeOf_9 ⟨_, rfl, h⟩
abbrev mX12_evenBy : sm_Y := (yX12_evenBy, cX12_evenBy, 6, (some FieldType.long))
theorem fX12_evenBy : sm_mt mX12_evenBy 2 := ⟨sm_in 1607 (by decide +kernel) (by decide +kernel), sm_in 1606 (by decide +kernel) (by decide +kernel), sm_in 93 (by decide +kernel) (by decide +kernel), ⟨by decide +kernel, by decide +kernel, by decide +kernel⟩, by decide⟩
theorem dX12_evenBy_0 : decode cX12_evenBy 0 = .ok (.lload_n 0, 1) := dk_lload_n_0 (by decide +kernel)
theorem dX12_evenBy_1 : decode cX12_evenBy 1 = .ok (.lload_n 0, 1) := dk_lload_n_0 (by decide +kernel)
theorem dX12_evenBy_2 : decode cX12_evenBy 2 = .ok (.lload_n 2, 1) := dk_lload_n_2 (by decide +kernel)
theorem dX12_evenBy_3 : decode cX12_evenBy 3 = .ok (.invokestatic 354, 3) := dk_invokestatic 354 (b1 := 1) (b2 := 98) (by decide +kernel) (by decide +kernel) (by decide +kernel) (by decide +kernel)
theorem dX12_evenBy_6 : decode cX12_evenBy 6 = .ok (.lsub, 1) := dk_lsub (by decide +kernel)
theorem dX12_evenBy_7 : decode cX12_evenBy 7 = .ok (.lload_n 2, 1) := dk_lload_n_2 (by decide +kernel)
theorem dX12_evenBy_8 : decode cX12_evenBy 8 = .ok (.ldiv, 1) := dk_ldiv (by decide +kernel)
theorem dX12_evenBy_9 : decode cX12_evenBy 9 = .ok (.lstore 4, 2) := dk_lstore 4 (b := 4) (by decide +kernel) (by decide +kernel) (by decide +kernel)
theorem dX12_evenBy_11 : decode cX12_evenBy 11 = .ok (.lload 4, 2) := dk_lload 4 (b := 4) (by decide +kernel) (by decide +kernel) (by decide +kernel)
theorem dX12_evenBy_13 : decode cX12_evenBy 13 = .ok (.ldc2_w 334, 3) := dk_ldc2_w 334 (b1 := 1) (b2 := 78) (by decide +kernel) (by decide +kernel) (by decide +kernel) (by decide +kernel)
theorem dX12_evenBy_16 : decode cX12_evenBy 16 = .ok (.lrem, 1) := dk_lrem (by decide +kernel)
theorem dX12_evenBy_17 : decode cX12_evenBy 17 = .ok (.lconst 0, 1) := dk_lconst_0 (by decide +kernel)
theorem dX12_evenBy_18 : decode cX12_evenBy 18 = .ok (.lcmp, 1) := dk_lcmp (by decide +kernel)
theorem dX12_evenBy_19 : decode cX12_evenBy 19 = .ok (.ifCond .ne 8, 3) := dk_ifCond_ne 8 (b1 := 0) (b2 := 8) (by decide +kernel) (by decide +kernel) (by decide +kernel) (by decide +kernel)
theorem dX12_evenBy_27 : decode cX12_evenBy 27 = .ok (.lload 4, 2) := dk_lload 4 (b := 4) (by decide +kernel) (by decide +kernel) (by decide +kernel)
theorem dX12_evenBy_29 : decode cX12_evenBy 29 = .ok (.lconst 1, 1) := dk_lconst_1 (by decide +kernel)
theorem dX12_evenBy_30 : decode cX12_evenBy 30 = .ok (.ladd, 1) := dk_ladd (by decide +kernel)
theorem dX12_evenBy_31 : decode cX12_evenBy 31 = .ok (.lreturn, 1) := dk_lreturn (by decide +kernel)
theorem dX12_evenBy_22 : decode cX12_evenBy 22 = .ok (.lload 4, 2) := dk_lload 4 (b := 4) (by decide +kernel) (by decide +kernel) (by decide +kernel)
theorem dX12_evenBy_24 : decode cX12_evenBy 24 = .ok (.goto 7, 3) := dk_goto 7 (b1 := 0) (b2 := 7) (by decide +kernel) (by decide +kernel) (by decide +kernel) (by decide +kernel)
set_option maxRecDepth 20000 in
theorem vX12_evenBy_0 {E : sm_E} {L : sm_S → Prop} {d : Nat} {x0 : Int64} {x2 : Int64}  {m : sm_M} {Q : Int64 → sm_M → Prop}  (hd : 2 ≤ d) 
  (h : sm_callJ E L mX12_left 1 0 0 [.long x0, .long x2] m (fun r_2 m_1 =>
   (¬ x2 = 0) ∧ ∀ x4_4 : Int64, x4_4 = (x0 - r_2) / x2 →
   (¬ (sm_remL x4_4 2) = 0 →
      Q (x4_4 + 1) m_1) ∧
   ((sm_remL x4_4 2) = 0 →
      Q x4_4 m_1))) :
  sm_callJ E L mX12_evenBy d 0 0 [.long x0, .long x2] m Q := by
  refine sm_enter (by decide +kernel) (by simp [lg_sl, Value.category]) ?_
  refine sm_lload_n (Y := mX12_evenBy) (pc := 0) 0 0 rfl rfl dX12_evenBy_0 ?_
  refine sm_lload_n (Y := mX12_evenBy) (pc := 1) 0 0 rfl rfl dX12_evenBy_1 ?_
  refine sm_lload_n (Y := mX12_evenBy) (pc := 2) 1 2 rfl rfl dX12_evenBy_2 ?_
  refine sm_is_J (Y := mX12_evenBy) (pc := 3) (As := [.long x0, .long x2]) fX12_left wRX12_354 rfl (Nat.le_trans (by decide) hd) (Nat.le_of_ble_eq_true rfl) ⟨Nat.le_refl _, Nat.le_refl _⟩ dX12_evenBy_3 rfl (sm_monoJ h (fun r_2 m_1 h => ?_))
  refine sm_lsub (Y := mX12_evenBy) (pc := 6) dX12_evenBy_6 ?_
  refine sm_lload_n (Y := mX12_evenBy) (pc := 7) 1 2 rfl rfl dX12_evenBy_7 ?_
  obtain ⟨hn_3, h⟩ := h
  refine sm_ldiv (Y := mX12_evenBy) (pc := 8) hn_3 dX12_evenBy_8 ?_
  refine sm_lstore (Y := mX12_evenBy) (pc := 9) (fun y => [(4, .long y), (0, .long x0), (2, .long x2)]) 4 (by decide) (fun _ => rfl) dX12_evenBy_9 (fun x4_4 ex4_4 => ?_)
  replace h := h x4_4 ex4_4
  refine sm_lload (Y := mX12_evenBy) (pc := 11) 0 4 rfl dX12_evenBy_11 ?_
  refine sm_ldc2_w (Y := mX12_evenBy) (pc := 13) 2 wRX12_334 dX12_evenBy_13 ?_
  refine sm_lrem (Y := mX12_evenBy) (pc := 16) (by decide) dX12_evenBy_16 ?_
  refine sm_lconst (Y := mX12_evenBy) (pc := 17) 0 (by decide) dX12_evenBy_17 ?_
  refine sm_lif_ne (Y := mX12_evenBy) (pc := 18) 27 (by decide) dX12_evenBy_18 dX12_evenBy_19 (fun hc => ?_) (fun hc => ?_)
  · replace h := h.1 hc
    refine sm_lload (Y := mX12_evenBy) (pc := 27) 0 4 rfl dX12_evenBy_27 ?_
    refine sm_lconst (Y := mX12_evenBy) (pc := 29) 1 (by decide) dX12_evenBy_29 ?_
    refine sm_ladd (Y := mX12_evenBy) (pc := 30) dX12_evenBy_30 ?_
    exact sm_lret (Y := mX12_evenBy) (pc := 31) rfl rfl rfl dX12_evenBy_31 ⟨_, rfl, h⟩
  · replace h := h.2 hc
    refine sm_lload (Y := mX12_evenBy) (pc := 22) 0 4 rfl dX12_evenBy_22 ?_
    refine sm_goto (Y := mX12_evenBy) (pc := 24) 31 (by decide) dX12_evenBy_24 ?_
    exact sm_lret (Y := mX12_evenBy) (pc := 31) rfl rfl rfl dX12_evenBy_31 ⟨_, rfl, h⟩
abbrev mX12_genusOf : sm_Y := (yX12_genusOf, cX12_genusOf, 15, (some FieldType.int))
theorem fX12_genusOf : sm_mi mX12_genusOf RX12 2 := ⟨sm_in 1604 (by decide +kernel) (by decide +kernel), sm_in 1603 (by decide +kernel) (by decide +kernel), sm_in 72 (by decide +kernel) (by decide +kernel), sm_in 93 (by decide +kernel) (by decide +kernel), rfl, ⟨by decide +kernel, by decide +kernel, by decide +kernel⟩, by decide⟩
def gX12_genusOf_108 (E : sm_E) (L : sm_S → Prop) (d : Nat) (vs : List Value) (x10 : Int32) (x13 : Int64) (s0 : Int64) (m : sm_M) (Q : Int32 → sm_M → Prop) : Prop := sm_go E L mX12_genusOf d 0 0 vs 108 [(10, .int x10), (13, .long x13)] [.long s0] m 0 0 (sm_Z E L vs 0 0 (sm_QI Q))
def gX12_genusOf_67 (E : sm_E) (L : sm_S → Prop) (d : Nat) (vs : List Value) (x6 : Int64) (x8 : Int64) (x10 : Int32) (m : sm_M) (Q : Int32 → sm_M → Prop) : Prop := sm_go E L mX12_genusOf d 0 0 vs 67 [(6, .long x6), (8, .long x8), (10, .int x10)] [] m 0 0 (sm_Z E L vs 0 0 (sm_QI Q))
def gX12_genusOf_48 (E : sm_E) (L : sm_S → Prop) (d : Nat) (vs : List Value) (x1 : Int64) (x3 : Int64) (x5 : Int32) (s0 : Int64) (m : sm_M) (Q : Int32 → sm_M → Prop) : Prop := sm_go E L mX12_genusOf d 0 0 vs 48 [(1, .long x1), (3, .long x3), (5, .int x5)] [.long s0] m 0 0 (sm_Z E L vs 0 0 (sm_QI Q))
theorem dX12_genusOf_108 : decode cX12_genusOf 108 = .ok (.lstore 6, 2) := dk_lstore 6 (b := 6) (by decide +kernel) (by decide +kernel) (by decide +kernel)
theorem dX12_genusOf_110 : decode cX12_genusOf 110 = .ok (.lload 13, 2) := dk_lload 13 (b := 13) (by decide +kernel) (by decide +kernel) (by decide +kernel)
theorem dX12_genusOf_112 : decode cX12_genusOf 112 = .ok (.lconst 0, 1) := dk_lconst_0 (by decide +kernel)
theorem dX12_genusOf_113 : decode cX12_genusOf 113 = .ok (.lcmp, 1) := dk_lcmp (by decide +kernel)
theorem dX12_genusOf_114 : decode cX12_genusOf 114 = .ok (.ifCond .ge 9, 3) := dk_ifCond_ge 9 (b1 := 0) (b2 := 9) (by decide +kernel) (by decide +kernel) (by decide +kernel) (by decide +kernel)
theorem dX12_genusOf_123 : decode cX12_genusOf 123 = .ok (.lload 13, 2) := dk_lload 13 (b := 13) (by decide +kernel) (by decide +kernel) (by decide +kernel)
theorem dX12_genusOf_125 : decode cX12_genusOf 125 = .ok (.lstore 8, 2) := dk_lstore 8 (b := 8) (by decide +kernel) (by decide +kernel) (by decide +kernel)
theorem dX12_genusOf_127 : decode cX12_genusOf 127 = .ok (.iinc 10 1, 3) := dk_iinc 10 1 (b1 := 10) (b2 := 1) (by decide +kernel) (by decide +kernel) (by decide +kernel) (by decide +kernel) (by decide +kernel)
theorem dX12_genusOf_130 : decode cX12_genusOf 130 = .ok (.goto (-63), 3) := dk_goto (-63) (b1 := 255) (b2 := 193) (by decide +kernel) (by decide +kernel) (by decide +kernel) (by decide +kernel)
theorem dX12_genusOf_117 : decode cX12_genusOf 117 = .ok (.lload 13, 2) := dk_lload 13 (b := 13) (by decide +kernel) (by decide +kernel) (by decide +kernel)
theorem dX12_genusOf_119 : decode cX12_genusOf 119 = .ok (.lneg, 1) := dk_lneg (by decide +kernel)
theorem dX12_genusOf_120 : decode cX12_genusOf 120 = .ok (.goto 5, 3) := dk_goto 5 (b1 := 0) (b2 := 5) (by decide +kernel) (by decide +kernel) (by decide +kernel) (by decide +kernel)
set_option maxRecDepth 20000 in
theorem vX12_genusOf_108 {E : sm_E} {L : sm_S → Prop} {d : Nat} {vs : List Value} {x10 : Int32} {x13 : Int64} {s0 : Int64}  {m : sm_M} {Q : Int32 → sm_M → Prop}  (hd : 3 ≤ d) 
  (h : (0 ≤ x13 →
      ∀ x10_3 : Int32, x10_3 = x10 + 1 →
      gX12_genusOf_67 E L d vs s0 x13 x10_3 m Q) ∧
   (¬ 0 ≤ x13 →
      ∀ x8_4 : Int64, x8_4 = -x13 →
      ∀ x10_5 : Int32, x10_5 = x10 + 1 →
      gX12_genusOf_67 E L d vs s0 x8_4 x10_5 m Q)) :
  gX12_genusOf_108 E L d vs x10 x13 s0 m Q := by
  refine sm_lstore0 (Y := mX12_genusOf) (pc := 108) [(6, .long s0), (10, .int x10), (13, .long x13)] 6 (by decide) rfl dX12_genusOf_108 ?_
  refine sm_lload (Y := mX12_genusOf) (pc := 110) 2 13 rfl dX12_genusOf_110 ?_
  refine sm_lconst (Y := mX12_genusOf) (pc := 112) 0 (by decide) dX12_genusOf_112 ?_
  refine sm_lif_ge (Y := mX12_genusOf) (pc := 113) 123 (by decide) dX12_genusOf_113 dX12_genusOf_114 (fun hc => ?_) (fun hc => ?_)
  · replace h := h.1 hc
    refine sm_lload (Y := mX12_genusOf) (pc := 123) 2 13 rfl dX12_genusOf_123 ?_
    refine sm_lstore0 (Y := mX12_genusOf) (pc := 125) [(8, .long x13), (6, .long s0), (10, .int x10), (13, .long x13)] 8 (by decide) rfl dX12_genusOf_125 ?_
    refine sm_iinc (Y := mX12_genusOf) (pc := 127) (fun y => [(10, .int y), (8, .long x13), (6, .long s0), (13, .long x13)]) 2 10 rfl (by decide) (fun _ => rfl) dX12_genusOf_127 (fun x10_3 ex10_3 => ?_)
    replace h := h x10_3 ex10_3
    refine sm_goto (Y := mX12_genusOf) (pc := 130) 67 (by decide) dX12_genusOf_130 ?_
    refine sm_sub [2, 1, 0] rfl ?_
    exact h
  · replace h := h.2 hc
    refine sm_lload (Y := mX12_genusOf) (pc := 117) 2 13 rfl dX12_genusOf_117 ?_
    refine sm_lneg (Y := mX12_genusOf) (pc := 119) dX12_genusOf_119 ?_
    refine sm_goto (Y := mX12_genusOf) (pc := 120) 125 (by decide) dX12_genusOf_120 ?_
    refine sm_lstore (Y := mX12_genusOf) (pc := 125) (fun y => [(8, .long y), (6, .long s0), (10, .int x10), (13, .long x13)]) 8 (by decide) (fun _ => rfl) dX12_genusOf_125 (fun x8_4 ex8_4 => ?_)
    replace h := h x8_4 ex8_4
    refine sm_iinc (Y := mX12_genusOf) (pc := 127) (fun y => [(10, .int y), (8, .long x8_4), (6, .long s0), (13, .long x13)]) 2 10 rfl (by decide) (fun _ => rfl) dX12_genusOf_127 (fun x10_5 ex10_5 => ?_)
    replace h := h x10_5 ex10_5
    refine sm_goto (Y := mX12_genusOf) (pc := 130) 67 (by decide) dX12_genusOf_130 ?_
    refine sm_sub [2, 1, 0] rfl ?_
    exact h
theorem dX12_genusOf_67 : decode cX12_genusOf 67 = .ok (.lload 8, 2) := dk_lload 8 (b := 8) (by decide +kernel) (by decide +kernel) (by decide +kernel)
theorem dX12_genusOf_69 : decode cX12_genusOf 69 = .ok (.lconst 0, 1) := dk_lconst_0 (by decide +kernel)
theorem dX12_genusOf_70 : decode cX12_genusOf 70 = .ok (.lcmp, 1) := dk_lcmp (by decide +kernel)
theorem dX12_genusOf_71 : decode cX12_genusOf 71 = .ok (.ifCond .eq 62, 3) := dk_ifCond_eq 62 (b1 := 0) (b2 := 62) (by decide +kernel) (by decide +kernel) (by decide +kernel) (by decide +kernel)
theorem dX12_genusOf_133 : decode cX12_genusOf 133 = .ok (.iload 10, 2) := dk_iload 10 (b := 10) (by decide +kernel) (by decide +kernel) (by decide +kernel)
theorem dX12_genusOf_135 : decode cX12_genusOf 135 = .ok (.iconst 2, 1) := dk_iconst_2 (by decide +kernel)
theorem dX12_genusOf_136 : decode cX12_genusOf 136 = .ok (.idiv, 1) := dk_idiv (by decide +kernel)
theorem dX12_genusOf_137 : decode cX12_genusOf 137 = .ok (.ireturn, 1) := dk_ireturn (by decide +kernel)
theorem dX12_genusOf_74 : decode cX12_genusOf 74 = .ok (.lload 6, 2) := dk_lload 6 (b := 6) (by decide +kernel) (by decide +kernel) (by decide +kernel)
theorem dX12_genusOf_76 : decode cX12_genusOf 76 = .ok (.lload 8, 2) := dk_lload 8 (b := 8) (by decide +kernel) (by decide +kernel) (by decide +kernel)
theorem wRX12_363 : Cond.methodLink RX12 363 yX12_evenBy ∈ sm_T := sm_in 1605 (by decide +kernel) (by decide +kernel)
theorem dX12_genusOf_78 : decode cX12_genusOf 78 = .ok (.invokestatic 363, 3) := dk_invokestatic 363 (b1 := 1) (b2 := 107) (by decide +kernel) (by decide +kernel) (by decide +kernel) (by decide +kernel)
theorem dX12_genusOf_81 : decode cX12_genusOf 81 = .ok (.lstore 11, 2) := dk_lstore 11 (b := 11) (by decide +kernel) (by decide +kernel) (by decide +kernel)
theorem dX12_genusOf_83 : decode cX12_genusOf 83 = .ok (.lload 6, 2) := dk_lload 6 (b := 6) (by decide +kernel) (by decide +kernel) (by decide +kernel)
theorem dX12_genusOf_85 : decode cX12_genusOf 85 = .ok (.lload 11, 2) := dk_lload 11 (b := 11) (by decide +kernel) (by decide +kernel) (by decide +kernel)
theorem dX12_genusOf_87 : decode cX12_genusOf 87 = .ok (.lload 8, 2) := dk_lload 8 (b := 8) (by decide +kernel) (by decide +kernel) (by decide +kernel)
theorem dX12_genusOf_89 : decode cX12_genusOf 89 = .ok (.lmul, 1) := dk_lmul (by decide +kernel)
theorem dX12_genusOf_90 : decode cX12_genusOf 90 = .ok (.lsub, 1) := dk_lsub (by decide +kernel)
theorem dX12_genusOf_91 : decode cX12_genusOf 91 = .ok (.lstore 13, 2) := dk_lstore 13 (b := 13) (by decide +kernel) (by decide +kernel) (by decide +kernel)
theorem dX12_genusOf_93 : decode cX12_genusOf 93 = .ok (.lload 13, 2) := dk_lload 13 (b := 13) (by decide +kernel) (by decide +kernel) (by decide +kernel)
theorem dX12_genusOf_95 : decode cX12_genusOf 95 = .ok (.lconst 0, 1) := dk_lconst_0 (by decide +kernel)
theorem dX12_genusOf_96 : decode cX12_genusOf 96 = .ok (.lcmp, 1) := dk_lcmp (by decide +kernel)
theorem dX12_genusOf_97 : decode cX12_genusOf 97 = .ok (.ifCond .ge 9, 3) := dk_ifCond_ge 9 (b1 := 0) (b2 := 9) (by decide +kernel) (by decide +kernel) (by decide +kernel) (by decide +kernel)
theorem dX12_genusOf_106 : decode cX12_genusOf 106 = .ok (.lload 8, 2) := dk_lload 8 (b := 8) (by decide +kernel) (by decide +kernel) (by decide +kernel)
theorem dX12_genusOf_100 : decode cX12_genusOf 100 = .ok (.lload 8, 2) := dk_lload 8 (b := 8) (by decide +kernel) (by decide +kernel) (by decide +kernel)
theorem dX12_genusOf_102 : decode cX12_genusOf 102 = .ok (.lneg, 1) := dk_lneg (by decide +kernel)
theorem dX12_genusOf_103 : decode cX12_genusOf 103 = .ok (.goto 5, 3) := dk_goto 5 (b1 := 0) (b2 := 5) (by decide +kernel) (by decide +kernel) (by decide +kernel) (by decide +kernel)
set_option maxRecDepth 20000 in
theorem vX12_genusOf_67 {E : sm_E} {L : sm_S → Prop} {d : Nat} {vs : List Value} {x6 : Int64} {x8 : Int64} {x10 : Int32}  {m : sm_M} {Q : Int32 → sm_M → Prop}  (hd : 3 ≤ d) 
  (h : (x8 = 0 →
      Q (x10 / 2) m) ∧
   (¬ x8 = 0 →
      sm_callJ E L mX12_evenBy 2 0 0 [.long x6, .long x8] m (fun r_2 m_1 =>
      ∀ x13_4 : Int64, x13_4 = x6 - (r_2 * x8) →
      (0 ≤ x13_4 →
         gX12_genusOf_108 E L d vs x10 x13_4 x8 m_1 Q) ∧
      (¬ 0 ≤ x13_4 →
         gX12_genusOf_108 E L d vs x10 x13_4 (-x8) m_1 Q)))) :
  gX12_genusOf_67 E L d vs x6 x8 x10 m Q := by
  refine sm_lload (Y := mX12_genusOf) (pc := 67) 1 8 rfl dX12_genusOf_67 ?_
  refine sm_lconst (Y := mX12_genusOf) (pc := 69) 0 (by decide) dX12_genusOf_69 ?_
  refine sm_lif_eq (Y := mX12_genusOf) (pc := 70) 133 (by decide) dX12_genusOf_70 dX12_genusOf_71 (fun hc => ?_) (fun hc => ?_)
  · replace h := h.1 hc
    refine sm_iload (Y := mX12_genusOf) (pc := 133) 2 10 rfl dX12_genusOf_133 ?_
    refine sm_iconst (Y := mX12_genusOf) (pc := 135) 2 (by decide) dX12_genusOf_135 ?_
    refine sm_idiv (Y := mX12_genusOf) (pc := 136) (by decide) dX12_genusOf_136 ?_
    exact sm_iret (Y := mX12_genusOf) (pc := 137) rfl rfl rfl dX12_genusOf_137 ⟨_, rfl, h⟩
  · replace h := h.2 hc
    refine sm_lload (Y := mX12_genusOf) (pc := 74) 0 6 rfl dX12_genusOf_74 ?_
    refine sm_lload (Y := mX12_genusOf) (pc := 76) 1 8 rfl dX12_genusOf_76 ?_
    refine sm_is_J (Y := mX12_genusOf) (pc := 78) (As := [.long x6, .long x8]) fX12_evenBy wRX12_363 rfl (Nat.le_trans (by decide) hd) (Nat.le_of_ble_eq_true rfl) ⟨Nat.le_refl _, Nat.le_refl _⟩ dX12_genusOf_78 rfl (sm_monoJ h (fun r_2 m_1 h => ?_))
    refine sm_lstore0 (Y := mX12_genusOf) (pc := 81) [(11, .long r_2), (6, .long x6), (8, .long x8), (10, .int x10)] 11 (by decide) rfl dX12_genusOf_81 ?_
    refine sm_lload (Y := mX12_genusOf) (pc := 83) 1 6 rfl dX12_genusOf_83 ?_
    refine sm_lload (Y := mX12_genusOf) (pc := 85) 0 11 rfl dX12_genusOf_85 ?_
    refine sm_lload (Y := mX12_genusOf) (pc := 87) 2 8 rfl dX12_genusOf_87 ?_
    refine sm_lmul (Y := mX12_genusOf) (pc := 89) dX12_genusOf_89 ?_
    refine sm_lsub (Y := mX12_genusOf) (pc := 90) dX12_genusOf_90 ?_
    refine sm_lstore (Y := mX12_genusOf) (pc := 91) (fun y => [(13, .long y), (11, .long r_2), (6, .long x6), (8, .long x8), (10, .int x10)]) 13 (by decide) (fun _ => rfl) dX12_genusOf_91 (fun x13_4 ex13_4 => ?_)
    replace h := h x13_4 ex13_4
    refine sm_lload (Y := mX12_genusOf) (pc := 93) 0 13 rfl dX12_genusOf_93 ?_
    refine sm_lconst (Y := mX12_genusOf) (pc := 95) 0 (by decide) dX12_genusOf_95 ?_
    refine sm_lif_ge (Y := mX12_genusOf) (pc := 96) 106 (by decide) dX12_genusOf_96 dX12_genusOf_97 (fun hc => ?_) (fun hc => ?_)
    · replace h := h.1 hc
      refine sm_lload (Y := mX12_genusOf) (pc := 106) 3 8 rfl dX12_genusOf_106 ?_
      refine sm_sub [4, 0] rfl ?_
      exact h
    · replace h := h.2 hc
      refine sm_lload (Y := mX12_genusOf) (pc := 100) 3 8 rfl dX12_genusOf_100 ?_
      refine sm_lneg (Y := mX12_genusOf) (pc := 102) dX12_genusOf_102 ?_
      refine sm_goto (Y := mX12_genusOf) (pc := 103) 108 (by decide) dX12_genusOf_103 ?_
      refine sm_sub [4, 0] rfl ?_
      exact h
theorem dX12_genusOf_48 : decode cX12_genusOf 48 = .ok (.lstore 6, 2) := dk_lstore 6 (b := 6) (by decide +kernel) (by decide +kernel) (by decide +kernel)
theorem dX12_genusOf_50 : decode cX12_genusOf 50 = .ok (.iload 5, 2) := dk_iload 5 (b := 5) (by decide +kernel) (by decide +kernel) (by decide +kernel)
theorem dX12_genusOf_52 : decode cX12_genusOf 52 = .ok (.ifCond .eq 9, 3) := dk_ifCond_eq 9 (b1 := 0) (b2 := 9) (by decide +kernel) (by decide +kernel) (by decide +kernel) (by decide +kernel)
theorem dX12_genusOf_61 : decode cX12_genusOf 61 = .ok (.lload_n 3, 1) := dk_lload_n_3 (by decide +kernel)
theorem dX12_genusOf_62 : decode cX12_genusOf 62 = .ok (.lstore 8, 2) := dk_lstore 8 (b := 8) (by decide +kernel) (by decide +kernel) (by decide +kernel)
theorem dX12_genusOf_64 : decode cX12_genusOf 64 = .ok (.iconst 0, 1) := dk_iconst_0 (by decide +kernel)
theorem dX12_genusOf_65 : decode cX12_genusOf 65 = .ok (.istore 10, 2) := dk_istore 10 (b := 10) (by decide +kernel) (by decide +kernel) (by decide +kernel)
theorem dX12_genusOf_55 : decode cX12_genusOf 55 = .ok (.lload_n 1, 1) := dk_lload_n_1 (by decide +kernel)
theorem dX12_genusOf_56 : decode cX12_genusOf 56 = .ok (.lload_n 3, 1) := dk_lload_n_3 (by decide +kernel)
theorem dX12_genusOf_57 : decode cX12_genusOf 57 = .ok (.lsub, 1) := dk_lsub (by decide +kernel)
theorem dX12_genusOf_58 : decode cX12_genusOf 58 = .ok (.goto 4, 3) := dk_goto 4 (b1 := 0) (b2 := 4) (by decide +kernel) (by decide +kernel) (by decide +kernel) (by decide +kernel)
set_option maxRecDepth 20000 in
theorem vX12_genusOf_48 {E : sm_E} {L : sm_S → Prop} {d : Nat} {vs : List Value} {x1 : Int64} {x3 : Int64} {x5 : Int32} {s0 : Int64}  {m : sm_M} {Q : Int32 → sm_M → Prop}  (hd : 3 ≤ d) 
  (h : (x5 = 0 →
      gX12_genusOf_67 E L d vs s0 x3 0 m Q) ∧
   (¬ x5 = 0 →
      ∀ x8_4 : Int64, x8_4 = x1 - x3 →
      gX12_genusOf_67 E L d vs s0 x8_4 0 m Q)) :
  gX12_genusOf_48 E L d vs x1 x3 x5 s0 m Q := by
  refine sm_lstore0 (Y := mX12_genusOf) (pc := 48) [(6, .long s0), (1, .long x1), (3, .long x3), (5, .int x5)] 6 (by decide) rfl dX12_genusOf_48 ?_
  refine sm_iload (Y := mX12_genusOf) (pc := 50) 3 5 rfl dX12_genusOf_50 ?_
  refine sm_if_eq (Y := mX12_genusOf) (pc := 52) 61 (by decide) dX12_genusOf_52 (fun hc => ?_) (fun hc => ?_)
  · replace h := h.1 hc
    refine sm_lload_n (Y := mX12_genusOf) (pc := 61) 2 3 rfl rfl dX12_genusOf_61 ?_
    refine sm_lstore0 (Y := mX12_genusOf) (pc := 62) [(8, .long x3), (6, .long s0), (1, .long x1), (3, .long x3), (5, .int x5)] 8 (by decide) rfl dX12_genusOf_62 ?_
    refine sm_iconst (Y := mX12_genusOf) (pc := 64) 0 (by decide) dX12_genusOf_64 ?_
    refine sm_istore0 (Y := mX12_genusOf) (pc := 65) [(10, .int 0), (8, .long x3), (6, .long s0), (1, .long x1), (3, .long x3), (5, .int x5)] 10 (by decide) rfl dX12_genusOf_65 ?_
    refine sm_sub [2, 1, 0] rfl ?_
    exact h
  · replace h := h.2 hc
    refine sm_lload_n (Y := mX12_genusOf) (pc := 55) 1 1 rfl rfl dX12_genusOf_55 ?_
    refine sm_lload_n (Y := mX12_genusOf) (pc := 56) 2 3 rfl rfl dX12_genusOf_56 ?_
    refine sm_lsub (Y := mX12_genusOf) (pc := 57) dX12_genusOf_57 ?_
    refine sm_goto (Y := mX12_genusOf) (pc := 58) 62 (by decide) dX12_genusOf_58 ?_
    refine sm_lstore (Y := mX12_genusOf) (pc := 62) (fun y => [(8, .long y), (6, .long s0), (1, .long x1), (3, .long x3), (5, .int x5)]) 8 (by decide) (fun _ => rfl) dX12_genusOf_62 (fun x8_4 ex8_4 => ?_)
    replace h := h x8_4 ex8_4
    refine sm_iconst (Y := mX12_genusOf) (pc := 64) 0 (by decide) dX12_genusOf_64 ?_
    refine sm_istore0 (Y := mX12_genusOf) (pc := 65) [(10, .int 0), (8, .long x8_4), (6, .long s0), (1, .long x1), (3, .long x3), (5, .int x5)] 10 (by decide) rfl dX12_genusOf_65 ?_
    refine sm_sub [2, 1, 0] rfl ?_
    exact h
theorem dX12_genusOf_0 : decode cX12_genusOf 0 = .ok (.lload_n 1, 1) := dk_lload_n_1 (by decide +kernel)
theorem dX12_genusOf_1 : decode cX12_genusOf 1 = .ok (.ldc2_w 334, 3) := dk_ldc2_w 334 (b1 := 1) (b2 := 78) (by decide +kernel) (by decide +kernel) (by decide +kernel) (by decide +kernel)
theorem dX12_genusOf_4 : decode cX12_genusOf 4 = .ok (.lcmp, 1) := dk_lcmp (by decide +kernel)
theorem dX12_genusOf_5 : decode cX12_genusOf 5 = .ok (.ifCond .ge 5, 3) := dk_ifCond_ge 5 (b1 := 0) (b2 := 5) (by decide +kernel) (by decide +kernel) (by decide +kernel) (by decide +kernel)
theorem dX12_genusOf_10 : decode cX12_genusOf 10 = .ok (.lload_n 1, 1) := dk_lload_n_1 (by decide +kernel)
theorem dX12_genusOf_11 : decode cX12_genusOf 11 = .ok (.ldc2_w 334, 3) := dk_ldc2_w 334 (b1 := 1) (b2 := 78) (by decide +kernel) (by decide +kernel) (by decide +kernel) (by decide +kernel)
theorem dX12_genusOf_14 : decode cX12_genusOf 14 = .ok (.lrem, 1) := dk_lrem (by decide +kernel)
theorem dX12_genusOf_15 : decode cX12_genusOf 15 = .ok (.lconst 0, 1) := dk_lconst_0 (by decide +kernel)
theorem dX12_genusOf_16 : decode cX12_genusOf 16 = .ok (.lcmp, 1) := dk_lcmp (by decide +kernel)
theorem dX12_genusOf_17 : decode cX12_genusOf 17 = .ok (.ifCond .eq 17, 3) := dk_ifCond_eq 17 (b1 := 0) (b2 := 17) (by decide +kernel) (by decide +kernel) (by decide +kernel) (by decide +kernel)
theorem dX12_genusOf_34 : decode cX12_genusOf 34 = .ok (.iconst 0, 1) := dk_iconst_0 (by decide +kernel)
theorem dX12_genusOf_35 : decode cX12_genusOf 35 = .ok (.istore 5, 2) := dk_istore 5 (b := 5) (by decide +kernel) (by decide +kernel) (by decide +kernel)
theorem dX12_genusOf_37 : decode cX12_genusOf 37 = .ok (.iload 5, 2) := dk_iload 5 (b := 5) (by decide +kernel) (by decide +kernel) (by decide +kernel)
theorem dX12_genusOf_39 : decode cX12_genusOf 39 = .ok (.ifCond .eq 8, 3) := dk_ifCond_eq 8 (b1 := 0) (b2 := 8) (by decide +kernel) (by decide +kernel) (by decide +kernel) (by decide +kernel)
theorem dX12_genusOf_47 : decode cX12_genusOf 47 = .ok (.lload_n 1, 1) := dk_lload_n_1 (by decide +kernel)
theorem dX12_genusOf_20 : decode cX12_genusOf 20 = .ok (.lload_n 3, 1) := dk_lload_n_3 (by decide +kernel)
theorem dX12_genusOf_21 : decode cX12_genusOf 21 = .ok (.ldc2_w 334, 3) := dk_ldc2_w 334 (b1 := 1) (b2 := 78) (by decide +kernel) (by decide +kernel) (by decide +kernel) (by decide +kernel)
theorem dX12_genusOf_24 : decode cX12_genusOf 24 = .ok (.lrem, 1) := dk_lrem (by decide +kernel)
theorem dX12_genusOf_25 : decode cX12_genusOf 25 = .ok (.lconst 0, 1) := dk_lconst_0 (by decide +kernel)
theorem dX12_genusOf_26 : decode cX12_genusOf 26 = .ok (.lcmp, 1) := dk_lcmp (by decide +kernel)
theorem dX12_genusOf_27 : decode cX12_genusOf 27 = .ok (.ifCond .eq 7, 3) := dk_ifCond_eq 7 (b1 := 0) (b2 := 7) (by decide +kernel) (by decide +kernel) (by decide +kernel) (by decide +kernel)
theorem dX12_genusOf_30 : decode cX12_genusOf 30 = .ok (.iconst 1, 1) := dk_iconst_1 (by decide +kernel)
theorem dX12_genusOf_31 : decode cX12_genusOf 31 = .ok (.goto 4, 3) := dk_goto 4 (b1 := 0) (b2 := 4) (by decide +kernel) (by decide +kernel) (by decide +kernel) (by decide +kernel)
theorem dX12_genusOf_42 : decode cX12_genusOf 42 = .ok (.lload_n 1, 1) := dk_lload_n_1 (by decide +kernel)
theorem dX12_genusOf_43 : decode cX12_genusOf 43 = .ok (.lneg, 1) := dk_lneg (by decide +kernel)
theorem dX12_genusOf_44 : decode cX12_genusOf 44 = .ok (.goto 4, 3) := dk_goto 4 (b1 := 0) (b2 := 4) (by decide +kernel) (by decide +kernel) (by decide +kernel) (by decide +kernel)
theorem dX12_genusOf_8 : decode cX12_genusOf 8 = .ok (.iconst 0, 1) := dk_iconst_0 (by decide +kernel)
theorem dX12_genusOf_9 : decode cX12_genusOf 9 = .ok (.ireturn, 1) := dk_ireturn (by decide +kernel)
set_option maxRecDepth 20000 in
theorem vX12_genusOf_0 {E : sm_E} {L : sm_S → Prop} {d : Nat} {x1 : Int64} {x3 : Int64}  {m : sm_M} {Q : Int32 → sm_M → Prop}  (hd : 3 ≤ d) 
  (h : (2 ≤ x1 →
      ((sm_remL x1 2) = 0 →
         gX12_genusOf_48 E L d ([.ref (sm_B E + 109), .long x1, .long x3]) x1 x3 0 x1 m Q) ∧
      (¬ (sm_remL x1 2) = 0 →
         ((sm_remL x3 2) = 0 →
            gX12_genusOf_48 E L d ([.ref (sm_B E + 109), .long x1, .long x3]) x1 x3 0 x1 m Q) ∧
         (¬ (sm_remL x3 2) = 0 →
            gX12_genusOf_48 E L d ([.ref (sm_B E + 109), .long x1, .long x3]) x1 x3 1 (-x1) m Q))) ∧
   (¬ 2 ≤ x1 →
      Q 0 m)) :
  sm_callI E L mX12_genusOf d 0 0 [.ref (sm_B E + 109), .long x1, .long x3] m Q := by
  refine sm_enter (by decide +kernel) (by simp [lg_sl, Value.category]) ?_
  refine sm_lload_n (Y := mX12_genusOf) (pc := 0) 1 1 rfl rfl dX12_genusOf_0 ?_
  refine sm_ldc2_w (Y := mX12_genusOf) (pc := 1) 2 wRX12_334 dX12_genusOf_1 ?_
  refine sm_lif_ge (Y := mX12_genusOf) (pc := 4) 10 (by decide) dX12_genusOf_4 dX12_genusOf_5 (fun hc => ?_) (fun hc => ?_)
  · replace h := h.1 hc
    refine sm_lload_n (Y := mX12_genusOf) (pc := 10) 1 1 rfl rfl dX12_genusOf_10 ?_
    refine sm_ldc2_w (Y := mX12_genusOf) (pc := 11) 2 wRX12_334 dX12_genusOf_11 ?_
    refine sm_lrem (Y := mX12_genusOf) (pc := 14) (by decide) dX12_genusOf_14 ?_
    refine sm_lconst (Y := mX12_genusOf) (pc := 15) 0 (by decide) dX12_genusOf_15 ?_
    refine sm_lif_eq (Y := mX12_genusOf) (pc := 16) 34 (by decide) dX12_genusOf_16 dX12_genusOf_17 (fun hc => ?_) (fun hc => ?_)
    · replace h := h.1 hc
      refine sm_iconst (Y := mX12_genusOf) (pc := 34) 0 (by decide) dX12_genusOf_34 ?_
      refine sm_istore0 (Y := mX12_genusOf) (pc := 35) [(5, .int 0), (0, .ref (sm_B E + 109)), (1, .long x1), (3, .long x3)] 5 (by decide) rfl dX12_genusOf_35 ?_
      refine sm_iload (Y := mX12_genusOf) (pc := 37) 0 5 rfl dX12_genusOf_37 ?_
      refine sm_if_eq (Y := mX12_genusOf) (pc := 39) 47 (by decide) dX12_genusOf_39 (fun hc => ?_) (fun hc => ?_)
      rotate_left
      · exact absurd hc (by decide)
      refine sm_lload_n (Y := mX12_genusOf) (pc := 47) 2 1 rfl rfl dX12_genusOf_47 ?_
      refine sm_sub [2, 3, 0] rfl ?_
      exact h
    · replace h := h.2 hc
      refine sm_lload_n (Y := mX12_genusOf) (pc := 20) 2 3 rfl rfl dX12_genusOf_20 ?_
      refine sm_ldc2_w (Y := mX12_genusOf) (pc := 21) 2 wRX12_334 dX12_genusOf_21 ?_
      refine sm_lrem (Y := mX12_genusOf) (pc := 24) (by decide) dX12_genusOf_24 ?_
      refine sm_lconst (Y := mX12_genusOf) (pc := 25) 0 (by decide) dX12_genusOf_25 ?_
      refine sm_lif_eq (Y := mX12_genusOf) (pc := 26) 34 (by decide) dX12_genusOf_26 dX12_genusOf_27 (fun hc => ?_) (fun hc => ?_)
      · replace h := h.1 hc
        refine sm_iconst (Y := mX12_genusOf) (pc := 34) 0 (by decide) dX12_genusOf_34 ?_
        refine sm_istore0 (Y := mX12_genusOf) (pc := 35) [(5, .int 0), (0, .ref (sm_B E + 109)), (1, .long x1), (3, .long x3)] 5 (by decide) rfl dX12_genusOf_35 ?_
        refine sm_iload (Y := mX12_genusOf) (pc := 37) 0 5 rfl dX12_genusOf_37 ?_
        refine sm_if_eq (Y := mX12_genusOf) (pc := 39) 47 (by decide) dX12_genusOf_39 (fun hc => ?_) (fun hc => ?_)
        rotate_left
        · exact absurd hc (by decide)
        refine sm_lload_n (Y := mX12_genusOf) (pc := 47) 2 1 rfl rfl dX12_genusOf_47 ?_
        refine sm_sub [2, 3, 0] rfl ?_
        exact h
      · replace h := h.2 hc
        refine sm_iconst (Y := mX12_genusOf) (pc := 30) 1 (by decide) dX12_genusOf_30 ?_
        refine sm_goto (Y := mX12_genusOf) (pc := 31) 35 (by decide) dX12_genusOf_31 ?_
        refine sm_istore0 (Y := mX12_genusOf) (pc := 35) [(5, .int 1), (0, .ref (sm_B E + 109)), (1, .long x1), (3, .long x3)] 5 (by decide) rfl dX12_genusOf_35 ?_
        refine sm_iload (Y := mX12_genusOf) (pc := 37) 0 5 rfl dX12_genusOf_37 ?_
        refine sm_if_eq (Y := mX12_genusOf) (pc := 39) 47 (by decide) dX12_genusOf_39 (fun hc => ?_) (fun hc => ?_)
        · exact absurd hc (by decide)
        refine sm_lload_n (Y := mX12_genusOf) (pc := 42) 2 1 rfl rfl dX12_genusOf_42 ?_
        refine sm_lneg (Y := mX12_genusOf) (pc := 43) dX12_genusOf_43 ?_
        refine sm_goto (Y := mX12_genusOf) (pc := 44) 48 (by decide) dX12_genusOf_44 ?_
        refine sm_sub [2, 3, 0] rfl ?_
        exact h
  · replace h := h.2 hc
    refine sm_iconst (Y := mX12_genusOf) (pc := 8) 0 (by decide) dX12_genusOf_8 ?_
    exact sm_iret (Y := mX12_genusOf) (pc := 9) rfl rfl rfl dX12_genusOf_9 ⟨_, rfl, h⟩
abbrev mX12_unlinkOf : sm_Y := (yX12_unlinkOf, cX12_unlinkOf, 27, (some FieldType.int))
theorem fX12_unlinkOf : sm_mi mX12_unlinkOf RX12 3 := ⟨sm_in 1616 (by decide +kernel) (by decide +kernel), sm_in 1615 (by decide +kernel) (by decide +kernel), sm_in 74 (by decide +kernel) (by decide +kernel), sm_in 93 (by decide +kernel) (by decide +kernel), rfl, ⟨by decide +kernel, by decide +kernel, by decide +kernel⟩, by decide⟩
def gX12_unlinkOf_296 (E : sm_E) (L : sm_S → Prop) (d : Nat) (vs : List Value) (x5 : Int32) (x6 : Int64) (x8 : Int32) (x14 : Int32) (x16 : Int32) (x21 : Int32) (s0 : Int32) (m : sm_M) (Q : Int32 → sm_M → Prop) : Prop := sm_go E L mX12_unlinkOf d 0 0 vs 296 [(0, .ref (sm_B E + 109)), (5, .int x5), (6, .long x6), (8, .int x8), (14, .int x14), (16, .int x16), (21, .int x21)] [.int s0] m 0 0 (sm_Z E L vs 0 0 (sm_QI Q))
def gX12_unlinkOf_195 (E : sm_E) (L : sm_S → Prop) (d : Nat) (vs : List Value) (x5 : Int32) (x6 : Int64) (x8 : Int32) (x14 : Int32) (x15 : Int32) (x16 : Int32) (x17 : Int64) (x21 : Int32) (x24 : Int32) (s0 : Int64) (m : sm_M) (Q : Int32 → sm_M → Prop) : Prop := sm_go E L mX12_unlinkOf d 0 0 vs 195 [(0, .ref (sm_B E + 109)), (5, .int x5), (6, .long x6), (8, .int x8), (14, .int x14), (15, .int x15), (16, .int x16), (17, .long x17), (21, .int x21), (24, .int x24)] [.long s0] m 0 0 (sm_Z E L vs 0 0 (sm_QI Q))
def gX12_unlinkOf_175 (E : sm_E) (L : sm_S → Prop) (d : Nat) (vs : List Value) (x5 : Int32) (x6 : Int64) (x8 : Int32) (x14 : Int32) (x15 : Int32) (x16 : Int32) (x17 : Int64) (x19 : Int64) (x21 : Int32) (x22 : Int64) (s0 : Int32) (m : sm_M) (Q : Int32 → sm_M → Prop) : Prop := sm_go E L mX12_unlinkOf d 0 0 vs 175 [(0, .ref (sm_B E + 109)), (5, .int x5), (6, .long x6), (8, .int x8), (14, .int x14), (15, .int x15), (16, .int x16), (17, .long x17), (19, .long x19), (21, .int x21), (22, .long x22)] [.int s0] m 0 0 (sm_Z E L vs 0 0 (sm_QI Q))
def gX12_unlinkOf_153 (E : sm_E) (L : sm_S → Prop) (d : Nat) (vs : List Value) (x5 : Int32) (x6 : Int64) (x8 : Int32) (x14 : Int32) (x15 : Int32) (x16 : Int32) (x17 : Int64) (x19 : Int64) (x21 : Int32) (s0 : Int64) (s1 : Int64) (m : sm_M) (Q : Int32 → sm_M → Prop) : Prop := sm_go E L mX12_unlinkOf d 0 0 vs 153 [(0, .ref (sm_B E + 109)), (5, .int x5), (6, .long x6), (8, .int x8), (14, .int x14), (15, .int x15), (16, .int x16), (17, .long x17), (19, .long x19), (21, .int x21)] [.long s1, .long s0] m 0 0 (sm_Z E L vs 0 0 (sm_QI Q))
def gX12_unlinkOf_124 (E : sm_E) (L : sm_S → Prop) (d : Nat) (vs : List Value) (x5 : Int32) (x6 : Int64) (x8 : Int32) (x14 : Int32) (x15 : Int32) (x16 : Int32) (x17 : Int64) (x19 : Int64) (x21 : Int32) (m : sm_M) (Q : Int32 → sm_M → Prop) : Prop := sm_go E L mX12_unlinkOf d 0 0 vs 124 [(0, .ref (sm_B E + 109)), (5, .int x5), (6, .long x6), (8, .int x8), (14, .int x14), (15, .int x15), (16, .int x16), (17, .long x17), (19, .long x19), (21, .int x21)] [] m 0 0 (sm_Z E L vs 0 0 (sm_QI Q))
def gX12_unlinkOf_95 (E : sm_E) (L : sm_S → Prop) (d : Nat) (vs : List Value) (x5 : Int32) (x6 : Int64) (x8 : Int32) (x14 : Int32) (x15 : Int32) (x16 : Int32) (m : sm_M) (Q : Int32 → sm_M → Prop) : Prop := sm_go E L mX12_unlinkOf d 0 0 vs 95 [(0, .ref (sm_B E + 109)), (5, .int x5), (6, .long x6), (8, .int x8), (14, .int x14), (15, .int x15), (16, .int x16)] [] m 0 0 (sm_Z E L vs 0 0 (sm_QI Q))
def gX12_unlinkOf_34 (E : sm_E) (L : sm_S → Prop) (d : Nat) (vs : List Value) (x5 : Int32) (x6 : Int64) (x8 : Int32) (x9 : Int32) (x10 : Int64) (x12 : Int64) (m : sm_M) (Q : Int32 → sm_M → Prop) : Prop := sm_go E L mX12_unlinkOf d 0 0 vs 34 [(0, .ref (sm_B E + 109)), (5, .int x5), (6, .long x6), (8, .int x8), (9, .int x9), (10, .long x10), (12, .long x12)] [] m 0 0 (sm_Z E L vs 0 0 (sm_QI Q))
theorem dX12_unlinkOf_296 : decode cX12_unlinkOf 296 = .ok (.istore 15, 2) := dk_istore 15 (b := 15) (by decide +kernel) (by decide +kernel) (by decide +kernel)
theorem dX12_unlinkOf_298 : decode cX12_unlinkOf 298 = .ok (.iload 14, 2) := dk_iload 14 (b := 14) (by decide +kernel) (by decide +kernel) (by decide +kernel)
theorem dX12_unlinkOf_300 : decode cX12_unlinkOf 300 = .ok (.ifCond .lt 10, 3) := dk_ifCond_lt 10 (b1 := 0) (b2 := 10) (by decide +kernel) (by decide +kernel) (by decide +kernel) (by decide +kernel)
theorem dX12_unlinkOf_310 : decode cX12_unlinkOf 310 = .ok (.iload 21, 2) := dk_iload 21 (b := 21) (by decide +kernel) (by decide +kernel) (by decide +kernel)
theorem dX12_unlinkOf_312 : decode cX12_unlinkOf 312 = .ok (.goto 5, 3) := dk_goto 5 (b1 := 0) (b2 := 5) (by decide +kernel) (by decide +kernel) (by decide +kernel) (by decide +kernel)
theorem dX12_unlinkOf_317 : decode cX12_unlinkOf 317 = .ok (.istore 14, 2) := dk_istore 14 (b := 14) (by decide +kernel) (by decide +kernel) (by decide +kernel)
theorem dX12_unlinkOf_319 : decode cX12_unlinkOf 319 = .ok (.iinc 16 1, 3) := dk_iinc 16 1 (b1 := 16) (b2 := 1) (by decide +kernel) (by decide +kernel) (by decide +kernel) (by decide +kernel) (by decide +kernel)
theorem dX12_unlinkOf_322 : decode cX12_unlinkOf 322 = .ok (.goto (-227), 3) := dk_goto (-227) (b1 := 255) (b2 := 29) (by decide +kernel) (by decide +kernel) (by decide +kernel) (by decide +kernel)
theorem dX12_unlinkOf_303 : decode cX12_unlinkOf 303 = .ok (.iload 21, 2) := dk_iload 21 (b := 21) (by decide +kernel) (by decide +kernel) (by decide +kernel)
theorem dX12_unlinkOf_305 : decode cX12_unlinkOf 305 = .ok (.iload 14, 2) := dk_iload 14 (b := 14) (by decide +kernel) (by decide +kernel) (by decide +kernel)
theorem dX12_unlinkOf_307 : decode cX12_unlinkOf 307 = .ok (.if_icmp .ge 8, 3) := dk_if_icmp_ge 8 (b1 := 0) (b2 := 8) (by decide +kernel) (by decide +kernel) (by decide +kernel) (by decide +kernel)
theorem dX12_unlinkOf_315 : decode cX12_unlinkOf 315 = .ok (.iload 14, 2) := dk_iload 14 (b := 14) (by decide +kernel) (by decide +kernel) (by decide +kernel)
set_option maxRecDepth 20000 in
theorem vX12_unlinkOf_296 {E : sm_E} {L : sm_S → Prop} {d : Nat} {vs : List Value} {x5 : Int32} {x6 : Int64} {x8 : Int32} {x14 : Int32} {x16 : Int32} {x21 : Int32} {s0 : Int32}  {m : sm_M} {Q : Int32 → sm_M → Prop}  {dr : Nat} (hd : 4 ≤ d) (hr : dr + 1 ≤ d) 
  (h : (x14 < 0 →
      ∀ x16_3 : Int32, x16_3 = x16 + 1 →
      gX12_unlinkOf_95 E L d vs x5 x6 x8 x21 s0 x16_3 m Q) ∧
   (¬ x14 < 0 →
      (x14 ≤ x21 →
         ∀ x16_5 : Int32, x16_5 = x16 + 1 →
         gX12_unlinkOf_95 E L d vs x5 x6 x8 x14 s0 x16_5 m Q) ∧
      (¬ x14 ≤ x21 →
         ∀ x16_7 : Int32, x16_7 = x16 + 1 →
         gX12_unlinkOf_95 E L d vs x5 x6 x8 x21 s0 x16_7 m Q))) :
  gX12_unlinkOf_296 E L d vs x5 x6 x8 x14 x16 x21 s0 m Q := by
  refine sm_istore0 (Y := mX12_unlinkOf) (pc := 296) [(15, .int s0), (0, .ref (sm_B E + 109)), (5, .int x5), (6, .long x6), (8, .int x8), (14, .int x14), (16, .int x16), (21, .int x21)] 15 (by decide) rfl dX12_unlinkOf_296 ?_
  refine sm_iload (Y := mX12_unlinkOf) (pc := 298) 5 14 rfl dX12_unlinkOf_298 ?_
  refine sm_if_lt (Y := mX12_unlinkOf) (pc := 300) 310 (by decide) dX12_unlinkOf_300 (fun hc => ?_) (fun hc => ?_)
  · replace h := h.1 hc
    refine sm_iload (Y := mX12_unlinkOf) (pc := 310) 7 21 rfl dX12_unlinkOf_310 ?_
    refine sm_goto (Y := mX12_unlinkOf) (pc := 312) 317 (by decide) dX12_unlinkOf_312 ?_
    refine sm_istore0 (Y := mX12_unlinkOf) (pc := 317) [(14, .int x21), (15, .int s0), (0, .ref (sm_B E + 109)), (5, .int x5), (6, .long x6), (8, .int x8), (16, .int x16), (21, .int x21)] 14 (by decide) rfl dX12_unlinkOf_317 ?_
    refine sm_iinc (Y := mX12_unlinkOf) (pc := 319) (fun y => [(16, .int y), (14, .int x21), (15, .int s0), (0, .ref (sm_B E + 109)), (5, .int x5), (6, .long x6), (8, .int x8), (21, .int x21)]) 6 16 rfl (by decide) (fun _ => rfl) dX12_unlinkOf_319 (fun x16_3 ex16_3 => ?_)
    replace h := h x16_3 ex16_3
    refine sm_goto (Y := mX12_unlinkOf) (pc := 322) 95 (by decide) dX12_unlinkOf_322 ?_
    refine sm_sub [3, 4, 5, 6, 1, 2, 0] rfl ?_
    exact h
  · replace h := h.2 hc
    refine sm_iload (Y := mX12_unlinkOf) (pc := 303) 7 21 rfl dX12_unlinkOf_303 ?_
    refine sm_iload (Y := mX12_unlinkOf) (pc := 305) 5 14 rfl dX12_unlinkOf_305 ?_
    refine sm_icmp_ge (Y := mX12_unlinkOf) (pc := 307) 315 (by decide) dX12_unlinkOf_307 (fun hc => ?_) (fun hc => ?_)
    · replace h := h.1 hc
      refine sm_iload (Y := mX12_unlinkOf) (pc := 315) 5 14 rfl dX12_unlinkOf_315 ?_
      refine sm_istore0 (Y := mX12_unlinkOf) (pc := 317) [(14, .int x14), (15, .int s0), (0, .ref (sm_B E + 109)), (5, .int x5), (6, .long x6), (8, .int x8), (16, .int x16), (21, .int x21)] 14 (by decide) rfl dX12_unlinkOf_317 ?_
      refine sm_iinc (Y := mX12_unlinkOf) (pc := 319) (fun y => [(16, .int y), (14, .int x14), (15, .int s0), (0, .ref (sm_B E + 109)), (5, .int x5), (6, .long x6), (8, .int x8), (21, .int x21)]) 6 16 rfl (by decide) (fun _ => rfl) dX12_unlinkOf_319 (fun x16_5 ex16_5 => ?_)
      replace h := h x16_5 ex16_5
      refine sm_goto (Y := mX12_unlinkOf) (pc := 322) 95 (by decide) dX12_unlinkOf_322 ?_
      refine sm_sub [3, 4, 5, 6, 1, 2, 0] rfl ?_
      exact h
    · replace h := h.2 hc
      refine sm_iload (Y := mX12_unlinkOf) (pc := 310) 7 21 rfl dX12_unlinkOf_310 ?_
      refine sm_goto (Y := mX12_unlinkOf) (pc := 312) 317 (by decide) dX12_unlinkOf_312 ?_
      refine sm_istore0 (Y := mX12_unlinkOf) (pc := 317) [(14, .int x21), (15, .int s0), (0, .ref (sm_B E + 109)), (5, .int x5), (6, .long x6), (8, .int x8), (16, .int x16), (21, .int x21)] 14 (by decide) rfl dX12_unlinkOf_317 ?_
      refine sm_iinc (Y := mX12_unlinkOf) (pc := 319) (fun y => [(16, .int y), (14, .int x21), (15, .int s0), (0, .ref (sm_B E + 109)), (5, .int x5), (6, .long x6), (8, .int x8), (21, .int x21)]) 6 16 rfl (by decide) (fun _ => rfl) dX12_unlinkOf_319 (fun x16_7 ex16_7 => ?_)
      replace h := h x16_7 ex16_7
      refine sm_goto (Y := mX12_unlinkOf) (pc := 322) 95 (by decide) dX12_unlinkOf_322 ?_
      refine sm_sub [3, 4, 5, 6, 1, 2, 0] rfl ?_
      exact h
theorem dX12_unlinkOf_195 : decode cX12_unlinkOf 195 = .ok (.lstore 25, 2) := dk_lstore 25 (b := 25) (by decide +kernel) (by decide +kernel) (by decide +kernel)
theorem dX12_unlinkOf_197 : decode cX12_unlinkOf 197 = .ok (.iload 24, 2) := dk_iload 24 (b := 24) (by decide +kernel) (by decide +kernel) (by decide +kernel)
theorem dX12_unlinkOf_199 : decode cX12_unlinkOf 199 = .ok (.ifCond .eq 7, 3) := dk_ifCond_eq 7 (b1 := 0) (b2 := 7) (by decide +kernel) (by decide +kernel) (by decide +kernel) (by decide +kernel)
theorem dX12_unlinkOf_206 : decode cX12_unlinkOf 206 = .ok (.lload 17, 2) := dk_lload 17 (b := 17) (by decide +kernel) (by decide +kernel) (by decide +kernel)
theorem dX12_unlinkOf_208 : decode cX12_unlinkOf 208 = .ok (.lstore 19, 2) := dk_lstore 19 (b := 19) (by decide +kernel) (by decide +kernel) (by decide +kernel)
theorem dX12_unlinkOf_210 : decode cX12_unlinkOf 210 = .ok (.lload 25, 2) := dk_lload 25 (b := 25) (by decide +kernel) (by decide +kernel) (by decide +kernel)
theorem dX12_unlinkOf_212 : decode cX12_unlinkOf 212 = .ok (.lstore 17, 2) := dk_lstore 17 (b := 17) (by decide +kernel) (by decide +kernel) (by decide +kernel)
theorem dX12_unlinkOf_214 : decode cX12_unlinkOf 214 = .ok (.iinc 21 (-1), 3) := dk_iinc 21 (-1) (b1 := 21) (b2 := 255) (by decide +kernel) (by decide +kernel) (by decide +kernel) (by decide +kernel) (by decide +kernel)
theorem dX12_unlinkOf_217 : decode cX12_unlinkOf 217 = .ok (.goto (-93), 3) := dk_goto (-93) (b1 := 255) (b2 := 163) (by decide +kernel) (by decide +kernel) (by decide +kernel) (by decide +kernel)
theorem dX12_unlinkOf_202 : decode cX12_unlinkOf 202 = .ok (.lconst 1, 1) := dk_lconst_1 (by decide +kernel)
theorem dX12_unlinkOf_203 : decode cX12_unlinkOf 203 = .ok (.goto 5, 3) := dk_goto 5 (b1 := 0) (b2 := 5) (by decide +kernel) (by decide +kernel) (by decide +kernel) (by decide +kernel)
set_option maxRecDepth 20000 in
theorem vX12_unlinkOf_195 {E : sm_E} {L : sm_S → Prop} {d : Nat} {vs : List Value} {x5 : Int32} {x6 : Int64} {x8 : Int32} {x14 : Int32} {x15 : Int32} {x16 : Int32} {x17 : Int64} {x21 : Int32} {x24 : Int32} {s0 : Int64}  {m : sm_M} {Q : Int32 → sm_M → Prop}  {dr : Nat} (hd : 4 ≤ d) (hr : dr + 1 ≤ d) 
  (h : (x24 = 0 →
      ∀ x21_4 : Int32, x21_4 = x21 + (-1) →
      gX12_unlinkOf_124 E L d vs x5 x6 x8 x14 x15 x16 s0 x17 x21_4 m Q) ∧
   (¬ x24 = 0 →
      ∀ x21_7 : Int32, x21_7 = x21 + (-1) →
      gX12_unlinkOf_124 E L d vs x5 x6 x8 x14 x15 x16 s0 1 x21_7 m Q)) :
  gX12_unlinkOf_195 E L d vs x5 x6 x8 x14 x15 x16 x17 x21 x24 s0 m Q := by
  refine sm_lstore0 (Y := mX12_unlinkOf) (pc := 195) [(25, .long s0), (0, .ref (sm_B E + 109)), (5, .int x5), (6, .long x6), (8, .int x8), (14, .int x14), (15, .int x15), (16, .int x16), (17, .long x17), (21, .int x21), (24, .int x24)] 25 (by decide) rfl dX12_unlinkOf_195 ?_
  refine sm_iload (Y := mX12_unlinkOf) (pc := 197) 10 24 rfl dX12_unlinkOf_197 ?_
  refine sm_if_eq (Y := mX12_unlinkOf) (pc := 199) 206 (by decide) dX12_unlinkOf_199 (fun hc => ?_) (fun hc => ?_)
  · replace h := h.1 hc
    refine sm_lload (Y := mX12_unlinkOf) (pc := 206) 8 17 rfl dX12_unlinkOf_206 ?_
    refine sm_lstore0 (Y := mX12_unlinkOf) (pc := 208) [(19, .long x17), (25, .long s0), (0, .ref (sm_B E + 109)), (5, .int x5), (6, .long x6), (8, .int x8), (14, .int x14), (15, .int x15), (16, .int x16), (17, .long x17), (21, .int x21), (24, .int x24)] 19 (by decide) rfl dX12_unlinkOf_208 ?_
    refine sm_lload (Y := mX12_unlinkOf) (pc := 210) 1 25 rfl dX12_unlinkOf_210 ?_
    refine sm_lstore0 (Y := mX12_unlinkOf) (pc := 212) [(17, .long s0), (19, .long x17), (25, .long s0), (0, .ref (sm_B E + 109)), (5, .int x5), (6, .long x6), (8, .int x8), (14, .int x14), (15, .int x15), (16, .int x16), (21, .int x21), (24, .int x24)] 17 (by decide) rfl dX12_unlinkOf_212 ?_
    refine sm_iinc (Y := mX12_unlinkOf) (pc := 214) (fun y => [(21, .int y), (17, .long s0), (19, .long x17), (25, .long s0), (0, .ref (sm_B E + 109)), (5, .int x5), (6, .long x6), (8, .int x8), (14, .int x14), (15, .int x15), (16, .int x16), (24, .int x24)]) 10 21 rfl (by decide) (fun _ => rfl) dX12_unlinkOf_214 (fun x21_4 ex21_4 => ?_)
    replace h := h x21_4 ex21_4
    refine sm_goto (Y := mX12_unlinkOf) (pc := 217) 124 (by decide) dX12_unlinkOf_217 ?_
    refine sm_sub [4, 5, 6, 7, 8, 9, 10, 1, 2, 0] rfl ?_
    exact h
  · replace h := h.2 hc
    refine sm_lconst (Y := mX12_unlinkOf) (pc := 202) 1 (by decide) dX12_unlinkOf_202 ?_
    refine sm_goto (Y := mX12_unlinkOf) (pc := 203) 208 (by decide) dX12_unlinkOf_203 ?_
    refine sm_lstore0 (Y := mX12_unlinkOf) (pc := 208) [(19, .long 1), (25, .long s0), (0, .ref (sm_B E + 109)), (5, .int x5), (6, .long x6), (8, .int x8), (14, .int x14), (15, .int x15), (16, .int x16), (17, .long x17), (21, .int x21), (24, .int x24)] 19 (by decide) rfl dX12_unlinkOf_208 ?_
    refine sm_lload (Y := mX12_unlinkOf) (pc := 210) 1 25 rfl dX12_unlinkOf_210 ?_
    refine sm_lstore0 (Y := mX12_unlinkOf) (pc := 212) [(17, .long s0), (19, .long 1), (25, .long s0), (0, .ref (sm_B E + 109)), (5, .int x5), (6, .long x6), (8, .int x8), (14, .int x14), (15, .int x15), (16, .int x16), (21, .int x21), (24, .int x24)] 17 (by decide) rfl dX12_unlinkOf_212 ?_
    refine sm_iinc (Y := mX12_unlinkOf) (pc := 214) (fun y => [(21, .int y), (17, .long s0), (19, .long 1), (25, .long s0), (0, .ref (sm_B E + 109)), (5, .int x5), (6, .long x6), (8, .int x8), (14, .int x14), (15, .int x15), (16, .int x16), (24, .int x24)]) 10 21 rfl (by decide) (fun _ => rfl) dX12_unlinkOf_214 (fun x21_7 ex21_7 => ?_)
    replace h := h x21_7 ex21_7
    refine sm_goto (Y := mX12_unlinkOf) (pc := 217) 124 (by decide) dX12_unlinkOf_217 ?_
    refine sm_sub [4, 5, 6, 7, 8, 9, 10, 1, 2, 0] rfl ?_
    exact h
theorem dX12_unlinkOf_175 : decode cX12_unlinkOf 175 = .ok (.istore 24, 2) := dk_istore 24 (b := 24) (by decide +kernel) (by decide +kernel) (by decide +kernel)
theorem dX12_unlinkOf_177 : decode cX12_unlinkOf 177 = .ok (.iload 24, 2) := dk_iload 24 (b := 24) (by decide +kernel) (by decide +kernel) (by decide +kernel)
theorem dX12_unlinkOf_179 : decode cX12_unlinkOf 179 = .ok (.ifCond .eq 8, 3) := dk_ifCond_eq 8 (b1 := 0) (b2 := 8) (by decide +kernel) (by decide +kernel) (by decide +kernel) (by decide +kernel)
theorem dX12_unlinkOf_187 : decode cX12_unlinkOf 187 = .ok (.lload 22, 2) := dk_lload 22 (b := 22) (by decide +kernel) (by decide +kernel) (by decide +kernel)
theorem dX12_unlinkOf_189 : decode cX12_unlinkOf 189 = .ok (.lload 17, 2) := dk_lload 17 (b := 17) (by decide +kernel) (by decide +kernel) (by decide +kernel)
theorem dX12_unlinkOf_191 : decode cX12_unlinkOf 191 = .ok (.lmul, 1) := dk_lmul (by decide +kernel)
theorem dX12_unlinkOf_192 : decode cX12_unlinkOf 192 = .ok (.lload 19, 2) := dk_lload 19 (b := 19) (by decide +kernel) (by decide +kernel) (by decide +kernel)
theorem dX12_unlinkOf_194 : decode cX12_unlinkOf 194 = .ok (.ladd, 1) := dk_ladd (by decide +kernel)
theorem dX12_unlinkOf_182 : decode cX12_unlinkOf 182 = .ok (.lload 22, 2) := dk_lload 22 (b := 22) (by decide +kernel) (by decide +kernel) (by decide +kernel)
theorem dX12_unlinkOf_184 : decode cX12_unlinkOf 184 = .ok (.goto 11, 3) := dk_goto 11 (b1 := 0) (b2 := 11) (by decide +kernel) (by decide +kernel) (by decide +kernel) (by decide +kernel)
set_option maxRecDepth 20000 in
theorem vX12_unlinkOf_175 {E : sm_E} {L : sm_S → Prop} {d : Nat} {vs : List Value} {x5 : Int32} {x6 : Int64} {x8 : Int32} {x14 : Int32} {x15 : Int32} {x16 : Int32} {x17 : Int64} {x19 : Int64} {x21 : Int32} {x22 : Int64} {s0 : Int32}  {m : sm_M} {Q : Int32 → sm_M → Prop}  {dr : Nat} (hd : 4 ≤ d) (hr : dr + 1 ≤ d) 
  (h : (s0 = 0 →
      gX12_unlinkOf_195 E L d vs x5 x6 x8 x14 x15 x16 x17 x21 s0 ((x22 * x17) + x19) m Q) ∧
   (¬ s0 = 0 →
      gX12_unlinkOf_195 E L d vs x5 x6 x8 x14 x15 x16 x17 x21 s0 x22 m Q)) :
  gX12_unlinkOf_175 E L d vs x5 x6 x8 x14 x15 x16 x17 x19 x21 x22 s0 m Q := by
  refine sm_istore0 (Y := mX12_unlinkOf) (pc := 175) [(24, .int s0), (0, .ref (sm_B E + 109)), (5, .int x5), (6, .long x6), (8, .int x8), (14, .int x14), (15, .int x15), (16, .int x16), (17, .long x17), (19, .long x19), (21, .int x21), (22, .long x22)] 24 (by decide) rfl dX12_unlinkOf_175 ?_
  refine sm_iload (Y := mX12_unlinkOf) (pc := 177) 0 24 rfl dX12_unlinkOf_177 ?_
  refine sm_if_eq (Y := mX12_unlinkOf) (pc := 179) 187 (by decide) dX12_unlinkOf_179 (fun hc => ?_) (fun hc => ?_)
  · replace h := h.1 hc
    refine sm_lload (Y := mX12_unlinkOf) (pc := 187) 11 22 rfl dX12_unlinkOf_187 ?_
    refine sm_lload (Y := mX12_unlinkOf) (pc := 189) 8 17 rfl dX12_unlinkOf_189 ?_
    refine sm_lmul (Y := mX12_unlinkOf) (pc := 191) dX12_unlinkOf_191 ?_
    refine sm_lload (Y := mX12_unlinkOf) (pc := 192) 9 19 rfl dX12_unlinkOf_192 ?_
    refine sm_ladd (Y := mX12_unlinkOf) (pc := 194) dX12_unlinkOf_194 ?_
    refine sm_sub [1, 2, 3, 4, 5, 6, 7, 8, 10, 0] rfl ?_
    exact h
  · replace h := h.2 hc
    refine sm_lload (Y := mX12_unlinkOf) (pc := 182) 11 22 rfl dX12_unlinkOf_182 ?_
    refine sm_goto (Y := mX12_unlinkOf) (pc := 184) 195 (by decide) dX12_unlinkOf_184 ?_
    refine sm_sub [1, 2, 3, 4, 5, 6, 7, 8, 10, 0] rfl ?_
    exact h
theorem dX12_unlinkOf_153 : decode cX12_unlinkOf 153 = .ok (.lsub, 1) := dk_lsub (by decide +kernel)
theorem dX12_unlinkOf_154 : decode cX12_unlinkOf 154 = .ok (.lstore 22, 2) := dk_lstore 22 (b := 22) (by decide +kernel) (by decide +kernel) (by decide +kernel)
theorem dX12_unlinkOf_156 : decode cX12_unlinkOf 156 = .ok (.iload 21, 2) := dk_iload 21 (b := 21) (by decide +kernel) (by decide +kernel) (by decide +kernel)
theorem dX12_unlinkOf_158 : decode cX12_unlinkOf 158 = .ok (.aload_n 0, 1) := dk_aload_n_0 (by decide +kernel)
theorem dX12_unlinkOf_159 : decode cX12_unlinkOf 159 = .ok (.getfield 124, 3) := dk_getfield 124 (b1 := 0) (b2 := 124) (by decide +kernel) (by decide +kernel) (by decide +kernel) (by decide +kernel)
theorem dX12_unlinkOf_162 : decode cX12_unlinkOf 162 = .ok (.iload 5, 2) := dk_iload 5 (b := 5) (by decide +kernel) (by decide +kernel) (by decide +kernel)
theorem dX12_unlinkOf_164 : decode cX12_unlinkOf 164 = .ok (.iaload, 1) := dk_iaload (by decide +kernel)
theorem dX12_unlinkOf_165 : decode cX12_unlinkOf 165 = .ok (.iconst 1, 1) := dk_iconst_1 (by decide +kernel)
theorem dX12_unlinkOf_166 : decode cX12_unlinkOf 166 = .ok (.isub, 1) := dk_isub (by decide +kernel)
theorem dX12_unlinkOf_167 : decode cX12_unlinkOf 167 = .ok (.if_icmp .ne 7, 3) := dk_if_icmp_ne 7 (b1 := 0) (b2 := 7) (by decide +kernel) (by decide +kernel) (by decide +kernel) (by decide +kernel)
theorem dX12_unlinkOf_174 : decode cX12_unlinkOf 174 = .ok (.iconst 0, 1) := dk_iconst_0 (by decide +kernel)
theorem dX12_unlinkOf_170 : decode cX12_unlinkOf 170 = .ok (.iconst 1, 1) := dk_iconst_1 (by decide +kernel)
theorem dX12_unlinkOf_171 : decode cX12_unlinkOf 171 = .ok (.goto 4, 3) := dk_goto 4 (b1 := 0) (b2 := 4) (by decide +kernel) (by decide +kernel) (by decide +kernel) (by decide +kernel)
set_option maxRecDepth 20000 in
theorem vX12_unlinkOf_153 {E : sm_E} {L : sm_S → Prop} {d : Nat} {vs : List Value} {x5 : Int32} {x6 : Int64} {x8 : Int32} {x14 : Int32} {x15 : Int32} {x16 : Int32} {x17 : Int64} {x19 : Int64} {x21 : Int32} {s0 : Int64} {s1 : Int64}  {m : sm_M} {Q : Int32 → sm_M → Prop} (hly : ∀ S, L S → ly S) {dr : Nat} (hd : 4 ≤ d) (hr : dr + 1 ≤ d) 
  (h : ∀ x22_1 : Int64, x22_1 = s0 - s1 →
   (vp_in x5 10) ∧ (¬ x21 = ((m.1 146 x5.toNatClampNeg) - 1) →
      gX12_unlinkOf_175 E L d vs x5 x6 x8 x14 x15 x16 x17 x19 x21 x22_1 0 m Q) ∧
   (x21 = ((m.1 146 x5.toNatClampNeg) - 1) →
      gX12_unlinkOf_175 E L d vs x5 x6 x8 x14 x15 x16 x17 x19 x21 x22_1 1 m Q)) :
  gX12_unlinkOf_153 E L d vs x5 x6 x8 x14 x15 x16 x17 x19 x21 s0 s1 m Q := by
  refine sm_lsub (Y := mX12_unlinkOf) (pc := 153) dX12_unlinkOf_153 ?_
  refine sm_lstore (Y := mX12_unlinkOf) (pc := 154) (fun y => [(22, .long y), (0, .ref (sm_B E + 109)), (5, .int x5), (6, .long x6), (8, .int x8), (14, .int x14), (15, .int x15), (16, .int x16), (17, .long x17), (19, .long x19), (21, .int x21)]) 22 (by decide) (fun _ => rfl) dX12_unlinkOf_154 (fun x22_1 ex22_1 => ?_)
  replace h := h x22_1 ex22_1
  refine sm_iload (Y := mX12_unlinkOf) (pc := 156) 10 21 rfl dX12_unlinkOf_156 ?_
  refine sm_aload_n (Y := mX12_unlinkOf) (pc := 158) 1 0 rfl rfl dX12_unlinkOf_158 ?_
  refine gf_RX12_124 (Y := mX12_unlinkOf) (pc := 159) (b := 146) rfl ((lk_109 hly) _) (lf_109_63 hly _) dX12_unlinkOf_159 ?_
  refine sm_iload (Y := mX12_unlinkOf) (pc := 162) 2 5 rfl dX12_unlinkOf_162 ?_
  obtain ⟨hn_2, h⟩ := h
  refine sm_iald (Y := mX12_unlinkOf) (pc := 164) (la_146 hly _) hn_2 dX12_unlinkOf_164 ?_
  refine sm_iconst (Y := mX12_unlinkOf) (pc := 165) 1 (by decide) dX12_unlinkOf_165 ?_
  refine sm_isub (Y := mX12_unlinkOf) (pc := 166) dX12_unlinkOf_166 ?_
  refine sm_icmp_ne (Y := mX12_unlinkOf) (pc := 167) 174 (by decide) dX12_unlinkOf_167 (fun hc => ?_) (fun hc => ?_)
  · replace h := h.1 hc
    refine sm_iconst (Y := mX12_unlinkOf) (pc := 174) 0 (by decide) dX12_unlinkOf_174 ?_
    refine sm_sub [1, 2, 3, 4, 5, 6, 7, 8, 9, 10, 0] rfl ?_
    exact h
  · replace h := h.2 hc
    refine sm_iconst (Y := mX12_unlinkOf) (pc := 170) 1 (by decide) dX12_unlinkOf_170 ?_
    refine sm_goto (Y := mX12_unlinkOf) (pc := 171) 175 (by decide) dX12_unlinkOf_171 ?_
    refine sm_sub [1, 2, 3, 4, 5, 6, 7, 8, 9, 10, 0] rfl ?_
    exact h
theorem dX12_unlinkOf_124 : decode cX12_unlinkOf 124 = .ok (.iload 21, 2) := dk_iload 21 (b := 21) (by decide +kernel) (by decide +kernel) (by decide +kernel)
theorem dX12_unlinkOf_126 : decode cX12_unlinkOf 126 = .ok (.ifCond .lt 94, 3) := dk_ifCond_lt 94 (b1 := 0) (b2 := 94) (by decide +kernel) (by decide +kernel) (by decide +kernel) (by decide +kernel)
theorem dX12_unlinkOf_220 : decode cX12_unlinkOf 220 = .ok (.aload_n 0, 1) := dk_aload_n_0 (by decide +kernel)
theorem dX12_unlinkOf_221 : decode cX12_unlinkOf 221 = .ok (.lload 17, 2) := dk_lload 17 (b := 17) (by decide +kernel) (by decide +kernel) (by decide +kernel)
theorem dX12_unlinkOf_223 : decode cX12_unlinkOf 223 = .ok (.lload 19, 2) := dk_lload 19 (b := 19) (by decide +kernel) (by decide +kernel) (by decide +kernel)
theorem dX12_unlinkOf_225 : decode cX12_unlinkOf 225 = .ok (.invokevirtual 180, 3) := dk_invokevirtual 180 (b1 := 0) (b2 := 180) (by decide +kernel) (by decide +kernel) (by decide +kernel) (by decide +kernel)
theorem dX12_unlinkOf_228 : decode cX12_unlinkOf 228 = .ok (.pop, 1) := dk_pop (by decide +kernel)
theorem dX12_unlinkOf_229 : decode cX12_unlinkOf 229 = .ok (.aload_n 0, 1) := dk_aload_n_0 (by decide +kernel)
theorem dX12_unlinkOf_230 : decode cX12_unlinkOf 230 = .ok (.aload_n 0, 1) := dk_aload_n_0 (by decide +kernel)
theorem dX12_unlinkOf_231 : decode cX12_unlinkOf 231 = .ok (.getfield 170, 3) := dk_getfield 170 (b1 := 0) (b2 := 170) (by decide +kernel) (by decide +kernel) (by decide +kernel) (by decide +kernel)
theorem dX12_unlinkOf_234 : decode cX12_unlinkOf 234 = .ok (.aload_n 0, 1) := dk_aload_n_0 (by decide +kernel)
theorem dX12_unlinkOf_235 : decode cX12_unlinkOf 235 = .ok (.getfield 173, 3) := dk_getfield 173 (b1 := 0) (b2 := 173) (by decide +kernel) (by decide +kernel) (by decide +kernel) (by decide +kernel)
theorem dX12_unlinkOf_238 : decode cX12_unlinkOf 238 = .ok (.invokevirtual 360, 3) := dk_invokevirtual 360 (b1 := 1) (b2 := 104) (by decide +kernel) (by decide +kernel) (by decide +kernel) (by decide +kernel)
theorem dX12_unlinkOf_241 : decode cX12_unlinkOf 241 = .ok (.aload_n 0, 1) := dk_aload_n_0 (by decide +kernel)
theorem dX12_unlinkOf_242 : decode cX12_unlinkOf 242 = .ok (.aload_n 0, 1) := dk_aload_n_0 (by decide +kernel)
theorem dX12_unlinkOf_243 : decode cX12_unlinkOf 243 = .ok (.getfield 348, 3) := dk_getfield 348 (b1 := 1) (b2 := 92) (by decide +kernel) (by decide +kernel) (by decide +kernel) (by decide +kernel)
theorem dX12_unlinkOf_246 : decode cX12_unlinkOf 246 = .ok (.aload_n 0, 1) := dk_aload_n_0 (by decide +kernel)
theorem dX12_unlinkOf_247 : decode cX12_unlinkOf 247 = .ok (.getfield 351, 3) := dk_getfield 351 (b1 := 1) (b2 := 95) (by decide +kernel) (by decide +kernel) (by decide +kernel) (by decide +kernel)
theorem wRX12_366 : Cond.methodLink RX12 366 yX12_sizeOf ∈ sm_T := sm_in 1597 (by decide +kernel) (by decide +kernel)
theorem dX12_unlinkOf_250 : decode cX12_unlinkOf 250 = .ok (.invokevirtual 366, 3) := dk_invokevirtual 366 (b1 := 1) (b2 := 110) (by decide +kernel) (by decide +kernel) (by decide +kernel) (by decide +kernel)
theorem dX12_unlinkOf_253 : decode cX12_unlinkOf 253 = .ok (.lload 6, 2) := dk_lload 6 (b := 6) (by decide +kernel) (by decide +kernel) (by decide +kernel)
theorem dX12_unlinkOf_255 : decode cX12_unlinkOf 255 = .ok (.lcmp, 1) := dk_lcmp (by decide +kernel)
theorem dX12_unlinkOf_256 : decode cX12_unlinkOf 256 = .ok (.ifCond .ge 63, 3) := dk_ifCond_ge 63 (b1 := 0) (b2 := 63) (by decide +kernel) (by decide +kernel) (by decide +kernel) (by decide +kernel)
theorem dX12_unlinkOf_259 : decode cX12_unlinkOf 259 = .ok (.aload_n 0, 1) := dk_aload_n_0 (by decide +kernel)
theorem dX12_unlinkOf_260 : decode cX12_unlinkOf 260 = .ok (.aload_n 0, 1) := dk_aload_n_0 (by decide +kernel)
theorem dX12_unlinkOf_261 : decode cX12_unlinkOf 261 = .ok (.getfield 348, 3) := dk_getfield 348 (b1 := 1) (b2 := 92) (by decide +kernel) (by decide +kernel) (by decide +kernel) (by decide +kernel)
theorem dX12_unlinkOf_264 : decode cX12_unlinkOf 264 = .ok (.aload_n 0, 1) := dk_aload_n_0 (by decide +kernel)
theorem dX12_unlinkOf_265 : decode cX12_unlinkOf 265 = .ok (.getfield 351, 3) := dk_getfield 351 (b1 := 1) (b2 := 95) (by decide +kernel) (by decide +kernel) (by decide +kernel) (by decide +kernel)
theorem dX12_unlinkOf_268 : decode cX12_unlinkOf 268 = .ok (.iload 5, 2) := dk_iload 5 (b := 5) (by decide +kernel) (by decide +kernel) (by decide +kernel)
theorem dX12_unlinkOf_270 : decode cX12_unlinkOf 270 = .ok (.iconst 1, 1) := dk_iconst_1 (by decide +kernel)
theorem dX12_unlinkOf_271 : decode cX12_unlinkOf 271 = .ok (.iadd, 1) := dk_iadd (by decide +kernel)
theorem wRX12_369 : Cond.methodLink RX12 369 yX12_unlinkOf ∈ sm_T := sm_in 1613 (by decide +kernel) (by decide +kernel)
theorem dX12_unlinkOf_272 : decode cX12_unlinkOf 272 = .ok (.invokevirtual 369, 3) := dk_invokevirtual 369 (b1 := 1) (b2 := 113) (by decide +kernel) (by decide +kernel) (by decide +kernel) (by decide +kernel)
theorem dX12_unlinkOf_275 : decode cX12_unlinkOf 275 = .ok (.istore 21, 2) := dk_istore 21 (b := 21) (by decide +kernel) (by decide +kernel) (by decide +kernel)
theorem dX12_unlinkOf_277 : decode cX12_unlinkOf 277 = .ok (.iload 14, 2) := dk_iload 14 (b := 14) (by decide +kernel) (by decide +kernel) (by decide +kernel)
theorem dX12_unlinkOf_279 : decode cX12_unlinkOf 279 = .ok (.ifCond .lt 10, 3) := dk_ifCond_lt 10 (b1 := 0) (b2 := 10) (by decide +kernel) (by decide +kernel) (by decide +kernel) (by decide +kernel)
theorem dX12_unlinkOf_289 : decode cX12_unlinkOf 289 = .ok (.iload 16, 2) := dk_iload 16 (b := 16) (by decide +kernel) (by decide +kernel) (by decide +kernel)
theorem dX12_unlinkOf_291 : decode cX12_unlinkOf 291 = .ok (.goto 5, 3) := dk_goto 5 (b1 := 0) (b2 := 5) (by decide +kernel) (by decide +kernel) (by decide +kernel) (by decide +kernel)
theorem dX12_unlinkOf_282 : decode cX12_unlinkOf 282 = .ok (.iload 21, 2) := dk_iload 21 (b := 21) (by decide +kernel) (by decide +kernel) (by decide +kernel)
theorem dX12_unlinkOf_284 : decode cX12_unlinkOf 284 = .ok (.iload 14, 2) := dk_iload 14 (b := 14) (by decide +kernel) (by decide +kernel) (by decide +kernel)
theorem dX12_unlinkOf_286 : decode cX12_unlinkOf 286 = .ok (.if_icmp .ge 8, 3) := dk_if_icmp_ge 8 (b1 := 0) (b2 := 8) (by decide +kernel) (by decide +kernel) (by decide +kernel) (by decide +kernel)
theorem dX12_unlinkOf_294 : decode cX12_unlinkOf 294 = .ok (.iload 15, 2) := dk_iload 15 (b := 15) (by decide +kernel) (by decide +kernel) (by decide +kernel)
theorem dX12_unlinkOf_129 : decode cX12_unlinkOf 129 = .ok (.aload_n 0, 1) := dk_aload_n_0 (by decide +kernel)
theorem dX12_unlinkOf_130 : decode cX12_unlinkOf 130 = .ok (.getfield 121, 3) := dk_getfield 121 (b1 := 0) (b2 := 121) (by decide +kernel) (by decide +kernel) (by decide +kernel) (by decide +kernel)
theorem dX12_unlinkOf_133 : decode cX12_unlinkOf 133 = .ok (.iload 8, 2) := dk_iload 8 (b := 8) (by decide +kernel) (by decide +kernel) (by decide +kernel)
theorem dX12_unlinkOf_135 : decode cX12_unlinkOf 135 = .ok (.iload 21, 2) := dk_iload 21 (b := 21) (by decide +kernel) (by decide +kernel) (by decide +kernel)
theorem dX12_unlinkOf_137 : decode cX12_unlinkOf 137 = .ok (.iadd, 1) := dk_iadd (by decide +kernel)
theorem dX12_unlinkOf_138 : decode cX12_unlinkOf 138 = .ok (.laload, 1) := dk_laload (by decide +kernel)
theorem dX12_unlinkOf_139 : decode cX12_unlinkOf 139 = .ok (.iload 21, 2) := dk_iload 21 (b := 21) (by decide +kernel) (by decide +kernel) (by decide +kernel)
theorem dX12_unlinkOf_141 : decode cX12_unlinkOf 141 = .ok (.iload 16, 2) := dk_iload 16 (b := 16) (by decide +kernel) (by decide +kernel) (by decide +kernel)
theorem dX12_unlinkOf_143 : decode cX12_unlinkOf 143 = .ok (.if_icmp .ne 9, 3) := dk_if_icmp_ne 9 (b1 := 0) (b2 := 9) (by decide +kernel) (by decide +kernel) (by decide +kernel) (by decide +kernel)
theorem dX12_unlinkOf_152 : decode cX12_unlinkOf 152 = .ok (.lconst 0, 1) := dk_lconst_0 (by decide +kernel)
theorem dX12_unlinkOf_146 : decode cX12_unlinkOf 146 = .ok (.ldc2_w 334, 3) := dk_ldc2_w 334 (b1 := 1) (b2 := 78) (by decide +kernel) (by decide +kernel) (by decide +kernel) (by decide +kernel)
theorem dX12_unlinkOf_149 : decode cX12_unlinkOf 149 = .ok (.goto 4, 3) := dk_goto 4 (b1 := 0) (b2 := 4) (by decide +kernel) (by decide +kernel) (by decide +kernel) (by decide +kernel)
set_option maxRecDepth 20000 in
theorem vX12_unlinkOf_124 {E : sm_E} {L : sm_S → Prop} {d : Nat} {vs : List Value} {x5 : Int32} {x6 : Int64} {x8 : Int32} {x14 : Int32} {x15 : Int32} {x16 : Int32} {x17 : Int64} {x19 : Int64} {x21 : Int32}  {m : sm_M} {Q : Int32 → sm_M → Prop} (hly : ∀ S, L S → ly S) {dr : Nat} (hd : 4 ≤ d) (hr : dr + 1 ≤ d) 
  (h : (x21 < 0 →
      sm_callI E L mX12_fractionOf 2 0 0 [.ref (sm_B E + 109), .long x17, .long x19] m (fun r_2 m_1 =>
      sm_callV E L mX12_namesFraction 3 0 0 [.ref (sm_B E + 109), .long (m_1.2.1 109 29), .long (m_1.2.1 109 30)] m_1 (fun m_3 =>
      sm_callJ E L mX12_sizeOf 2 0 0 [.ref (sm_B E + 109), .long (m_3.2.1 109 60), .long (m_3.2.1 109 61)] m_3 (fun r_5 m_4 =>
      (x6 ≤ r_5 →
         ∀ x16_6 : Int32, x16_6 = x16 + 1 →
         gX12_unlinkOf_95 E L d vs x5 x6 x8 x14 x15 x16_6 m_4 Q) ∧
      (¬ x6 ≤ r_5 →
         sm_callI E L mX12_unlinkOf dr 0 0 [.ref (sm_B E + 109), .long (m_4.2.1 109 60), .long (m_4.2.1 109 61), .int (x5 + 1)] m_4 (fun r_8 m_7 =>
         (x14 < 0 →
            gX12_unlinkOf_296 E L d vs x5 x6 x8 x14 x16 r_8 x16 m_7 Q) ∧
         (¬ x14 < 0 →
            (x14 ≤ r_8 →
               gX12_unlinkOf_296 E L d vs x5 x6 x8 x14 x16 r_8 x15 m_7 Q) ∧
            (¬ x14 ≤ r_8 →
               gX12_unlinkOf_296 E L d vs x5 x6 x8 x14 x16 r_8 x16 m_7 Q)))))))) ∧
   (¬ x21 < 0 →
      (vp_in (x8 + x21) 160) ∧ (¬ x21 = x16 →
         gX12_unlinkOf_153 E L d vs x5 x6 x8 x14 x15 x16 x17 x19 x21 (m.2.1 145 (x8 + x21).toNatClampNeg) 0 m Q) ∧
      (x21 = x16 →
         gX12_unlinkOf_153 E L d vs x5 x6 x8 x14 x15 x16 x17 x19 x21 (m.2.1 145 (x8 + x21).toNatClampNeg) 2 m Q))) :
  gX12_unlinkOf_124 E L d vs x5 x6 x8 x14 x15 x16 x17 x19 x21 m Q := by
  refine sm_iload (Y := mX12_unlinkOf) (pc := 124) 9 21 rfl dX12_unlinkOf_124 ?_
  refine sm_if_lt (Y := mX12_unlinkOf) (pc := 126) 220 (by decide) dX12_unlinkOf_126 (fun hc => ?_) (fun hc => ?_)
  · replace h := h.1 hc
    refine sm_aload_n (Y := mX12_unlinkOf) (pc := 220) 0 0 rfl rfl dX12_unlinkOf_220 ?_
    refine sm_lload (Y := mX12_unlinkOf) (pc := 221) 7 17 rfl dX12_unlinkOf_221 ?_
    refine sm_lload (Y := mX12_unlinkOf) (pc := 223) 8 19 rfl dX12_unlinkOf_223 ?_
    refine sm_iv_I (Y := mX12_unlinkOf) (pc := 225) (As := [.long x17, .long x19]) (a := 109) fX12_fractionOf wRX12_180 (lk_109 hly) (by decide) rfl rfl rfl (Nat.le_trans (by decide) hd) (Nat.le_of_ble_eq_true rfl) ⟨Nat.le_refl _, Nat.le_refl _⟩ dX12_unlinkOf_225 rfl (sm_monoI h (fun r_2 m_1 h => ?_))
    refine sm_pop (Y := mX12_unlinkOf) (pc := 228) rfl dX12_unlinkOf_228 ?_
    refine sm_aload_n (Y := mX12_unlinkOf) (pc := 229) 0 0 rfl rfl dX12_unlinkOf_229 ?_
    refine sm_aload_n (Y := mX12_unlinkOf) (pc := 230) 0 0 rfl rfl dX12_unlinkOf_230 ?_
    refine gf_RX12_170 (Y := mX12_unlinkOf) (pc := 231) rfl ((lk_109 hly) _) dX12_unlinkOf_231 ?_
    refine sm_aload_n (Y := mX12_unlinkOf) (pc := 234) 0 0 rfl rfl dX12_unlinkOf_234 ?_
    refine gf_RX12_173 (Y := mX12_unlinkOf) (pc := 235) rfl ((lk_109 hly) _) dX12_unlinkOf_235 ?_
    refine sm_iv_V (Y := mX12_unlinkOf) (pc := 238) (As := [.long (m_1.2.1 109 29), .long (m_1.2.1 109 30)]) (a := 109) fX12_namesFraction wRX12_360 (lk_109 hly) (by decide) rfl rfl rfl (Nat.le_trans (by decide) hd) (Nat.le_of_ble_eq_true rfl) ⟨Nat.le_refl _, Nat.le_refl _⟩ dX12_unlinkOf_238 rfl (sm_monoV h (fun m_3 h => ?_))
    refine sm_aload_n (Y := mX12_unlinkOf) (pc := 241) 0 0 rfl rfl dX12_unlinkOf_241 ?_
    refine sm_aload_n (Y := mX12_unlinkOf) (pc := 242) 0 0 rfl rfl dX12_unlinkOf_242 ?_
    refine gf_RX12_348 (Y := mX12_unlinkOf) (pc := 243) rfl ((lk_109 hly) _) dX12_unlinkOf_243 ?_
    refine sm_aload_n (Y := mX12_unlinkOf) (pc := 246) 0 0 rfl rfl dX12_unlinkOf_246 ?_
    refine gf_RX12_351 (Y := mX12_unlinkOf) (pc := 247) rfl ((lk_109 hly) _) dX12_unlinkOf_247 ?_
    refine sm_iv_J (Y := mX12_unlinkOf) (pc := 250) (As := [.long (m_3.2.1 109 60), .long (m_3.2.1 109 61)]) (a := 109) fX12_sizeOf wRX12_366 (lk_109 hly) (by decide) rfl rfl rfl (Nat.le_trans (by decide) hd) (Nat.le_of_ble_eq_true rfl) ⟨Nat.le_refl _, Nat.le_refl _⟩ dX12_unlinkOf_250 rfl (sm_monoJ h (fun r_5 m_4 h => ?_))
    refine sm_lload (Y := mX12_unlinkOf) (pc := 253) 2 6 rfl dX12_unlinkOf_253 ?_
    refine sm_lif_ge (Y := mX12_unlinkOf) (pc := 255) 319 (by decide) dX12_unlinkOf_255 dX12_unlinkOf_256 (fun hc => ?_) (fun hc => ?_)
    · replace h := h.1 hc
      refine sm_iinc (Y := mX12_unlinkOf) (pc := 319) (fun y => [(16, .int y), (0, .ref (sm_B E + 109)), (5, .int x5), (6, .long x6), (8, .int x8), (14, .int x14), (15, .int x15), (17, .long x17), (19, .long x19), (21, .int x21)]) 6 16 rfl (by decide) (fun _ => rfl) dX12_unlinkOf_319 (fun x16_6 ex16_6 => ?_)
      replace h := h x16_6 ex16_6
      refine sm_goto (Y := mX12_unlinkOf) (pc := 322) 95 (by decide) dX12_unlinkOf_322 ?_
      refine sm_sub [1, 2, 3, 4, 5, 6, 0] rfl ?_
      exact h
    · replace h := h.2 hc
      refine sm_aload_n (Y := mX12_unlinkOf) (pc := 259) 0 0 rfl rfl dX12_unlinkOf_259 ?_
      refine sm_aload_n (Y := mX12_unlinkOf) (pc := 260) 0 0 rfl rfl dX12_unlinkOf_260 ?_
      refine gf_RX12_348 (Y := mX12_unlinkOf) (pc := 261) rfl ((lk_109 hly) _) dX12_unlinkOf_261 ?_
      refine sm_aload_n (Y := mX12_unlinkOf) (pc := 264) 0 0 rfl rfl dX12_unlinkOf_264 ?_
      refine gf_RX12_351 (Y := mX12_unlinkOf) (pc := 265) rfl ((lk_109 hly) _) dX12_unlinkOf_265 ?_
      refine sm_iload (Y := mX12_unlinkOf) (pc := 268) 1 5 rfl dX12_unlinkOf_268 ?_
      refine sm_iconst (Y := mX12_unlinkOf) (pc := 270) 1 (by decide) dX12_unlinkOf_270 ?_
      refine sm_iadd (Y := mX12_unlinkOf) (pc := 271) dX12_unlinkOf_271 ?_
      refine sm_iv_I (Y := mX12_unlinkOf) (pc := 272) (As := [.long (m_4.2.1 109 60), .long (m_4.2.1 109 61), .int (x5 + 1)]) (a := 109) fX12_unlinkOf wRX12_369 (lk_109 hly) (by decide) rfl rfl rfl hr (Nat.le_of_ble_eq_true rfl) ⟨Nat.le_refl _, Nat.le_refl _⟩ dX12_unlinkOf_272 rfl (sm_monoI h (fun r_8 m_7 h => ?_))
      refine sm_istore0 (Y := mX12_unlinkOf) (pc := 275) [(21, .int r_8), (0, .ref (sm_B E + 109)), (5, .int x5), (6, .long x6), (8, .int x8), (14, .int x14), (15, .int x15), (16, .int x16), (17, .long x17), (19, .long x19)] 21 (by decide) rfl dX12_unlinkOf_275 ?_
      refine sm_iload (Y := mX12_unlinkOf) (pc := 277) 5 14 rfl dX12_unlinkOf_277 ?_
      refine sm_if_lt (Y := mX12_unlinkOf) (pc := 279) 289 (by decide) dX12_unlinkOf_279 (fun hc => ?_) (fun hc => ?_)
      · replace h := h.1 hc
        refine sm_iload (Y := mX12_unlinkOf) (pc := 289) 7 16 rfl dX12_unlinkOf_289 ?_
        refine sm_goto (Y := mX12_unlinkOf) (pc := 291) 296 (by decide) dX12_unlinkOf_291 ?_
        refine sm_sub [1, 2, 3, 4, 5, 7, 0] rfl ?_
        exact h
      · replace h := h.2 hc
        refine sm_iload (Y := mX12_unlinkOf) (pc := 282) 0 21 rfl dX12_unlinkOf_282 ?_
        refine sm_iload (Y := mX12_unlinkOf) (pc := 284) 5 14 rfl dX12_unlinkOf_284 ?_
        refine sm_icmp_ge (Y := mX12_unlinkOf) (pc := 286) 294 (by decide) dX12_unlinkOf_286 (fun hc => ?_) (fun hc => ?_)
        · replace h := h.1 hc
          refine sm_iload (Y := mX12_unlinkOf) (pc := 294) 6 15 rfl dX12_unlinkOf_294 ?_
          refine sm_sub [1, 2, 3, 4, 5, 7, 0] rfl ?_
          exact h
        · replace h := h.2 hc
          refine sm_iload (Y := mX12_unlinkOf) (pc := 289) 7 16 rfl dX12_unlinkOf_289 ?_
          refine sm_goto (Y := mX12_unlinkOf) (pc := 291) 296 (by decide) dX12_unlinkOf_291 ?_
          refine sm_sub [1, 2, 3, 4, 5, 7, 0] rfl ?_
          exact h
  · replace h := h.2 hc
    refine sm_aload_n (Y := mX12_unlinkOf) (pc := 129) 0 0 rfl rfl dX12_unlinkOf_129 ?_
    refine gf_RX12_121 (Y := mX12_unlinkOf) (pc := 130) (b := 145) rfl ((lk_109 hly) _) (lf_109_62 hly _) dX12_unlinkOf_130 ?_
    refine sm_iload (Y := mX12_unlinkOf) (pc := 133) 3 8 rfl dX12_unlinkOf_133 ?_
    refine sm_iload (Y := mX12_unlinkOf) (pc := 135) 9 21 rfl dX12_unlinkOf_135 ?_
    refine sm_iadd (Y := mX12_unlinkOf) (pc := 137) dX12_unlinkOf_137 ?_
    obtain ⟨hn_10, h⟩ := h
    refine sm_lald (Y := mX12_unlinkOf) (pc := 138) (la_145 hly _) hn_10 dX12_unlinkOf_138 ?_
    refine sm_iload (Y := mX12_unlinkOf) (pc := 139) 9 21 rfl dX12_unlinkOf_139 ?_
    refine sm_iload (Y := mX12_unlinkOf) (pc := 141) 6 16 rfl dX12_unlinkOf_141 ?_
    refine sm_icmp_ne (Y := mX12_unlinkOf) (pc := 143) 152 (by decide) dX12_unlinkOf_143 (fun hc => ?_) (fun hc => ?_)
    · replace h := h.1 hc
      refine sm_lconst (Y := mX12_unlinkOf) (pc := 152) 0 (by decide) dX12_unlinkOf_152 ?_
      exact h
    · replace h := h.2 hc
      refine sm_ldc2_w (Y := mX12_unlinkOf) (pc := 146) 2 wRX12_334 dX12_unlinkOf_146 ?_
      refine sm_goto (Y := mX12_unlinkOf) (pc := 149) 153 (by decide) dX12_unlinkOf_149 ?_
      exact h
theorem dX12_unlinkOf_95 : decode cX12_unlinkOf 95 = .ok (.iload 16, 2) := dk_iload 16 (b := 16) (by decide +kernel) (by decide +kernel) (by decide +kernel)
theorem dX12_unlinkOf_97 : decode cX12_unlinkOf 97 = .ok (.aload_n 0, 1) := dk_aload_n_0 (by decide +kernel)
theorem dX12_unlinkOf_98 : decode cX12_unlinkOf 98 = .ok (.getfield 124, 3) := dk_getfield 124 (b1 := 0) (b2 := 124) (by decide +kernel) (by decide +kernel) (by decide +kernel) (by decide +kernel)
theorem dX12_unlinkOf_101 : decode cX12_unlinkOf 101 = .ok (.iload 5, 2) := dk_iload 5 (b := 5) (by decide +kernel) (by decide +kernel) (by decide +kernel)
theorem dX12_unlinkOf_103 : decode cX12_unlinkOf 103 = .ok (.iaload, 1) := dk_iaload (by decide +kernel)
theorem dX12_unlinkOf_104 : decode cX12_unlinkOf 104 = .ok (.if_icmp .ge 221, 3) := dk_if_icmp_ge 221 (b1 := 0) (b2 := 221) (by decide +kernel) (by decide +kernel) (by decide +kernel) (by decide +kernel)
theorem dX12_unlinkOf_325 : decode cX12_unlinkOf 325 = .ok (.aload_n 0, 1) := dk_aload_n_0 (by decide +kernel)
theorem dX12_unlinkOf_326 : decode cX12_unlinkOf 326 = .ok (.iload 15, 2) := dk_iload 15 (b := 15) (by decide +kernel) (by decide +kernel) (by decide +kernel)
theorem dX12_unlinkOf_328 : decode cX12_unlinkOf 328 = .ok (.putfield 373, 3) := dk_putfield 373 (b1 := 1) (b2 := 117) (by decide +kernel) (by decide +kernel) (by decide +kernel) (by decide +kernel)
theorem dX12_unlinkOf_331 : decode cX12_unlinkOf 331 = .ok (.iload 14, 2) := dk_iload 14 (b := 14) (by decide +kernel) (by decide +kernel) (by decide +kernel)
theorem dX12_unlinkOf_333 : decode cX12_unlinkOf 333 = .ok (.iconst 1, 1) := dk_iconst_1 (by decide +kernel)
theorem dX12_unlinkOf_334 : decode cX12_unlinkOf 334 = .ok (.iadd, 1) := dk_iadd (by decide +kernel)
theorem dX12_unlinkOf_335 : decode cX12_unlinkOf 335 = .ok (.ireturn, 1) := dk_ireturn (by decide +kernel)
theorem dX12_unlinkOf_107 : decode cX12_unlinkOf 107 = .ok (.lconst 0, 1) := dk_lconst_0 (by decide +kernel)
theorem dX12_unlinkOf_108 : decode cX12_unlinkOf 108 = .ok (.lstore 17, 2) := dk_lstore 17 (b := 17) (by decide +kernel) (by decide +kernel) (by decide +kernel)
theorem dX12_unlinkOf_110 : decode cX12_unlinkOf 110 = .ok (.lconst 0, 1) := dk_lconst_0 (by decide +kernel)
theorem dX12_unlinkOf_111 : decode cX12_unlinkOf 111 = .ok (.lstore 19, 2) := dk_lstore 19 (b := 19) (by decide +kernel) (by decide +kernel) (by decide +kernel)
theorem dX12_unlinkOf_113 : decode cX12_unlinkOf 113 = .ok (.aload_n 0, 1) := dk_aload_n_0 (by decide +kernel)
theorem dX12_unlinkOf_114 : decode cX12_unlinkOf 114 = .ok (.getfield 124, 3) := dk_getfield 124 (b1 := 0) (b2 := 124) (by decide +kernel) (by decide +kernel) (by decide +kernel) (by decide +kernel)
theorem dX12_unlinkOf_117 : decode cX12_unlinkOf 117 = .ok (.iload 5, 2) := dk_iload 5 (b := 5) (by decide +kernel) (by decide +kernel) (by decide +kernel)
theorem dX12_unlinkOf_119 : decode cX12_unlinkOf 119 = .ok (.iaload, 1) := dk_iaload (by decide +kernel)
theorem dX12_unlinkOf_120 : decode cX12_unlinkOf 120 = .ok (.iconst 1, 1) := dk_iconst_1 (by decide +kernel)
theorem dX12_unlinkOf_121 : decode cX12_unlinkOf 121 = .ok (.isub, 1) := dk_isub (by decide +kernel)
theorem dX12_unlinkOf_122 : decode cX12_unlinkOf 122 = .ok (.istore 21, 2) := dk_istore 21 (b := 21) (by decide +kernel) (by decide +kernel) (by decide +kernel)
set_option maxRecDepth 20000 in
theorem vX12_unlinkOf_95 {E : sm_E} {L : sm_S → Prop} {d : Nat} {vs : List Value} {x5 : Int32} {x6 : Int64} {x8 : Int32} {x14 : Int32} {x15 : Int32} {x16 : Int32}  {m : sm_M} {Q : Int32 → sm_M → Prop} (hly : ∀ S, L S → ly S) {dr : Nat} (hd : 4 ≤ d) (hr : dr + 1 ≤ d) 
  (h : (vp_in x5 10) ∧ ((m.1 146 x5.toNatClampNeg) ≤ x16 →
      ∀ m_2 : sm_M, m_2 = sm_wI m 109 64 x15 →
      Q (x14 + 1) m_2) ∧
   (¬ (m.1 146 x5.toNatClampNeg) ≤ x16 →
      (vp_in x5 10) ∧ ∀ x21_6 : Int32, x21_6 = (m.1 146 x5.toNatClampNeg) - 1 →
      gX12_unlinkOf_124 E L d vs x5 x6 x8 x14 x15 x16 0 0 x21_6 m Q)) :
  gX12_unlinkOf_95 E L d vs x5 x6 x8 x14 x15 x16 m Q := by
  refine sm_iload (Y := mX12_unlinkOf) (pc := 95) 6 16 rfl dX12_unlinkOf_95 ?_
  refine sm_aload_n (Y := mX12_unlinkOf) (pc := 97) 0 0 rfl rfl dX12_unlinkOf_97 ?_
  refine gf_RX12_124 (Y := mX12_unlinkOf) (pc := 98) (b := 146) rfl ((lk_109 hly) _) (lf_109_63 hly _) dX12_unlinkOf_98 ?_
  refine sm_iload (Y := mX12_unlinkOf) (pc := 101) 1 5 rfl dX12_unlinkOf_101 ?_
  obtain ⟨hn_1, h⟩ := h
  refine sm_iald (Y := mX12_unlinkOf) (pc := 103) (la_146 hly _) hn_1 dX12_unlinkOf_103 ?_
  refine sm_icmp_ge (Y := mX12_unlinkOf) (pc := 104) 325 (by decide) dX12_unlinkOf_104 (fun hc => ?_) (fun hc => ?_)
  · replace h := h.1 hc
    refine sm_aload_n (Y := mX12_unlinkOf) (pc := 325) 0 0 rfl rfl dX12_unlinkOf_325 ?_
    refine sm_iload (Y := mX12_unlinkOf) (pc := 326) 5 15 rfl dX12_unlinkOf_326 ?_
    refine pf_RX12_373 (Y := mX12_unlinkOf) (pc := 328) rfl ((lk_109 hly) _) dX12_unlinkOf_328 (fun m_2 em_2 => ?_)
    replace h := h m_2 em_2
    refine sm_iload (Y := mX12_unlinkOf) (pc := 331) 4 14 rfl dX12_unlinkOf_331 ?_
    refine sm_iconst (Y := mX12_unlinkOf) (pc := 333) 1 (by decide) dX12_unlinkOf_333 ?_
    refine sm_iadd (Y := mX12_unlinkOf) (pc := 334) dX12_unlinkOf_334 ?_
    exact sm_iret (Y := mX12_unlinkOf) (pc := 335) rfl rfl rfl dX12_unlinkOf_335 ⟨_, rfl, h⟩
  · replace h := h.2 hc
    refine sm_lconst (Y := mX12_unlinkOf) (pc := 107) 0 (by decide) dX12_unlinkOf_107 ?_
    refine sm_lstore0 (Y := mX12_unlinkOf) (pc := 108) [(17, .long 0), (0, .ref (sm_B E + 109)), (5, .int x5), (6, .long x6), (8, .int x8), (14, .int x14), (15, .int x15), (16, .int x16)] 17 (by decide) rfl dX12_unlinkOf_108 ?_
    refine sm_lconst (Y := mX12_unlinkOf) (pc := 110) 0 (by decide) dX12_unlinkOf_110 ?_
    refine sm_lstore0 (Y := mX12_unlinkOf) (pc := 111) [(19, .long 0), (17, .long 0), (0, .ref (sm_B E + 109)), (5, .int x5), (6, .long x6), (8, .int x8), (14, .int x14), (15, .int x15), (16, .int x16)] 19 (by decide) rfl dX12_unlinkOf_111 ?_
    refine sm_aload_n (Y := mX12_unlinkOf) (pc := 113) 2 0 rfl rfl dX12_unlinkOf_113 ?_
    refine gf_RX12_124 (Y := mX12_unlinkOf) (pc := 114) (b := 146) rfl ((lk_109 hly) _) (lf_109_63 hly _) dX12_unlinkOf_114 ?_
    refine sm_iload (Y := mX12_unlinkOf) (pc := 117) 3 5 rfl dX12_unlinkOf_117 ?_
    obtain ⟨hn_5, h⟩ := h
    refine sm_iald (Y := mX12_unlinkOf) (pc := 119) (la_146 hly _) hn_5 dX12_unlinkOf_119 ?_
    refine sm_iconst (Y := mX12_unlinkOf) (pc := 120) 1 (by decide) dX12_unlinkOf_120 ?_
    refine sm_isub (Y := mX12_unlinkOf) (pc := 121) dX12_unlinkOf_121 ?_
    refine sm_istore (Y := mX12_unlinkOf) (pc := 122) (fun y => [(21, .int y), (19, .long 0), (17, .long 0), (0, .ref (sm_B E + 109)), (5, .int x5), (6, .long x6), (8, .int x8), (14, .int x14), (15, .int x15), (16, .int x16)]) 21 (by decide) (fun _ => rfl) dX12_unlinkOf_122 (fun x21_6 ex21_6 => ?_)
    replace h := h x21_6 ex21_6
    refine sm_sub [3, 4, 5, 6, 7, 8, 9, 2, 1, 0] rfl ?_
    exact h
theorem dX12_unlinkOf_34 : decode cX12_unlinkOf 34 = .ok (.lload 12, 2) := dk_lload 12 (b := 12) (by decide +kernel) (by decide +kernel) (by decide +kernel)
theorem dX12_unlinkOf_36 : decode cX12_unlinkOf 36 = .ok (.lconst 0, 1) := dk_lconst_0 (by decide +kernel)
theorem dX12_unlinkOf_37 : decode cX12_unlinkOf 37 = .ok (.lcmp, 1) := dk_lcmp (by decide +kernel)
theorem dX12_unlinkOf_38 : decode cX12_unlinkOf 38 = .ok (.ifCond .eq 39, 3) := dk_ifCond_eq 39 (b1 := 0) (b2 := 39) (by decide +kernel) (by decide +kernel) (by decide +kernel) (by decide +kernel)
theorem dX12_unlinkOf_77 : decode cX12_unlinkOf 77 = .ok (.aload_n 0, 1) := dk_aload_n_0 (by decide +kernel)
theorem dX12_unlinkOf_78 : decode cX12_unlinkOf 78 = .ok (.getfield 124, 3) := dk_getfield 124 (b1 := 0) (b2 := 124) (by decide +kernel) (by decide +kernel) (by decide +kernel) (by decide +kernel)
theorem dX12_unlinkOf_81 : decode cX12_unlinkOf 81 = .ok (.iload 5, 2) := dk_iload 5 (b := 5) (by decide +kernel) (by decide +kernel) (by decide +kernel)
theorem dX12_unlinkOf_83 : decode cX12_unlinkOf 83 = .ok (.iload 9, 2) := dk_iload 9 (b := 9) (by decide +kernel) (by decide +kernel) (by decide +kernel)
theorem dX12_unlinkOf_85 : decode cX12_unlinkOf 85 = .ok (.iastore, 1) := dk_iastore (by decide +kernel)
theorem dX12_unlinkOf_86 : decode cX12_unlinkOf 86 = .ok (.iconst (-1), 1) := dk_iconst_m1 (by decide +kernel)
theorem dX12_unlinkOf_87 : decode cX12_unlinkOf 87 = .ok (.istore 14, 2) := dk_istore 14 (b := 14) (by decide +kernel) (by decide +kernel) (by decide +kernel)
theorem dX12_unlinkOf_89 : decode cX12_unlinkOf 89 = .ok (.iconst (-1), 1) := dk_iconst_m1 (by decide +kernel)
theorem dX12_unlinkOf_90 : decode cX12_unlinkOf 90 = .ok (.istore 15, 2) := dk_istore 15 (b := 15) (by decide +kernel) (by decide +kernel) (by decide +kernel)
theorem dX12_unlinkOf_92 : decode cX12_unlinkOf 92 = .ok (.iconst 0, 1) := dk_iconst_0 (by decide +kernel)
theorem dX12_unlinkOf_93 : decode cX12_unlinkOf 93 = .ok (.istore 16, 2) := dk_istore 16 (b := 16) (by decide +kernel) (by decide +kernel) (by decide +kernel)
theorem dX12_unlinkOf_41 : decode cX12_unlinkOf 41 = .ok (.aload_n 0, 1) := dk_aload_n_0 (by decide +kernel)
theorem dX12_unlinkOf_42 : decode cX12_unlinkOf 42 = .ok (.getfield 121, 3) := dk_getfield 121 (b1 := 0) (b2 := 121) (by decide +kernel) (by decide +kernel) (by decide +kernel) (by decide +kernel)
theorem dX12_unlinkOf_45 : decode cX12_unlinkOf 45 = .ok (.iload 8, 2) := dk_iload 8 (b := 8) (by decide +kernel) (by decide +kernel) (by decide +kernel)
theorem dX12_unlinkOf_47 : decode cX12_unlinkOf 47 = .ok (.iload 9, 2) := dk_iload 9 (b := 9) (by decide +kernel) (by decide +kernel) (by decide +kernel)
theorem dX12_unlinkOf_49 : decode cX12_unlinkOf 49 = .ok (.iadd, 1) := dk_iadd (by decide +kernel)
theorem dX12_unlinkOf_50 : decode cX12_unlinkOf 50 = .ok (.lload 10, 2) := dk_lload 10 (b := 10) (by decide +kernel) (by decide +kernel) (by decide +kernel)
theorem dX12_unlinkOf_52 : decode cX12_unlinkOf 52 = .ok (.lload 12, 2) := dk_lload 12 (b := 12) (by decide +kernel) (by decide +kernel) (by decide +kernel)
theorem dX12_unlinkOf_54 : decode cX12_unlinkOf 54 = .ok (.ldiv, 1) := dk_ldiv (by decide +kernel)
theorem dX12_unlinkOf_55 : decode cX12_unlinkOf 55 = .ok (.lastore, 1) := dk_lastore (by decide +kernel)
theorem dX12_unlinkOf_56 : decode cX12_unlinkOf 56 = .ok (.iinc 9 1, 3) := dk_iinc 9 1 (b1 := 9) (b2 := 1) (by decide +kernel) (by decide +kernel) (by decide +kernel) (by decide +kernel) (by decide +kernel)
theorem dX12_unlinkOf_59 : decode cX12_unlinkOf 59 = .ok (.lload 10, 2) := dk_lload 10 (b := 10) (by decide +kernel) (by decide +kernel) (by decide +kernel)
theorem dX12_unlinkOf_61 : decode cX12_unlinkOf 61 = .ok (.lload 12, 2) := dk_lload 12 (b := 12) (by decide +kernel) (by decide +kernel) (by decide +kernel)
theorem dX12_unlinkOf_63 : decode cX12_unlinkOf 63 = .ok (.lrem, 1) := dk_lrem (by decide +kernel)
theorem dX12_unlinkOf_64 : decode cX12_unlinkOf 64 = .ok (.lstore 14, 2) := dk_lstore 14 (b := 14) (by decide +kernel) (by decide +kernel) (by decide +kernel)
theorem dX12_unlinkOf_66 : decode cX12_unlinkOf 66 = .ok (.lload 12, 2) := dk_lload 12 (b := 12) (by decide +kernel) (by decide +kernel) (by decide +kernel)
theorem dX12_unlinkOf_68 : decode cX12_unlinkOf 68 = .ok (.lstore 10, 2) := dk_lstore 10 (b := 10) (by decide +kernel) (by decide +kernel) (by decide +kernel)
theorem dX12_unlinkOf_70 : decode cX12_unlinkOf 70 = .ok (.lload 14, 2) := dk_lload 14 (b := 14) (by decide +kernel) (by decide +kernel) (by decide +kernel)
theorem dX12_unlinkOf_72 : decode cX12_unlinkOf 72 = .ok (.lstore 12, 2) := dk_lstore 12 (b := 12) (by decide +kernel) (by decide +kernel) (by decide +kernel)
theorem dX12_unlinkOf_74 : decode cX12_unlinkOf 74 = .ok (.goto (-40), 3) := dk_goto (-40) (b1 := 255) (b2 := 216) (by decide +kernel) (by decide +kernel) (by decide +kernel) (by decide +kernel)
set_option maxRecDepth 20000 in
theorem vX12_unlinkOf_34 {E : sm_E} {L : sm_S → Prop} {d : Nat} {vs : List Value} {x5 : Int32} {x6 : Int64} {x8 : Int32} {x9 : Int32} {x10 : Int64} {x12 : Int64}  {m : sm_M} {Q : Int32 → sm_M → Prop} (hly : ∀ S, L S → ly S) {dr : Nat} (hd : 4 ≤ d) (hr : dr + 1 ≤ d) 
  (h : (x12 = 0 →
      (vp_in x5 10) ∧ ∀ m_1 : sm_M, m_1 = sm_wI m 146 x5.toNatClampNeg x9 →
      gX12_unlinkOf_95 E L d vs x5 x6 x8 (-1) (-1) 0 m_1 Q) ∧
   (¬ x12 = 0 →
      (¬ x12 = 0) ∧ (vp_in (x8 + x9) 160) ∧ ∀ m_7 : sm_M, m_7 = sm_wJ m 145 (x8 + x9).toNatClampNeg (x10 / x12) →
      ∀ x9_9 : Int32, x9_9 = x9 + 1 →
      (¬ x12 = 0) ∧ ∀ x14_11 : Int64, x14_11 = sm_remL x10 x12 →
      gX12_unlinkOf_34 E L d vs x5 x6 x8 x9_9 x12 x14_11 m_7 Q)) :
  gX12_unlinkOf_34 E L d vs x5 x6 x8 x9 x10 x12 m Q := by
  refine sm_lload (Y := mX12_unlinkOf) (pc := 34) 6 12 rfl dX12_unlinkOf_34 ?_
  refine sm_lconst (Y := mX12_unlinkOf) (pc := 36) 0 (by decide) dX12_unlinkOf_36 ?_
  refine sm_lif_eq (Y := mX12_unlinkOf) (pc := 37) 77 (by decide) dX12_unlinkOf_37 dX12_unlinkOf_38 (fun hc => ?_) (fun hc => ?_)
  · replace h := h.1 hc
    refine sm_aload_n (Y := mX12_unlinkOf) (pc := 77) 0 0 rfl rfl dX12_unlinkOf_77 ?_
    refine gf_RX12_124 (Y := mX12_unlinkOf) (pc := 78) (b := 146) rfl ((lk_109 hly) _) (lf_109_63 hly _) dX12_unlinkOf_78 ?_
    refine sm_iload (Y := mX12_unlinkOf) (pc := 81) 1 5 rfl dX12_unlinkOf_81 ?_
    refine sm_iload (Y := mX12_unlinkOf) (pc := 83) 4 9 rfl dX12_unlinkOf_83 ?_
    obtain ⟨hn_2, h⟩ := h
    refine sm_iast (Y := mX12_unlinkOf) (pc := 85) (la_146 hly _) hn_2 dX12_unlinkOf_85 (fun m_1 em_1 => ?_)
    replace h := h m_1 em_1
    refine sm_iconst (Y := mX12_unlinkOf) (pc := 86) (-1) (by decide) dX12_unlinkOf_86 ?_
    refine sm_istore0 (Y := mX12_unlinkOf) (pc := 87) [(14, .int (-1)), (0, .ref (sm_B E + 109)), (5, .int x5), (6, .long x6), (8, .int x8), (9, .int x9), (10, .long x10), (12, .long x12)] 14 (by decide) rfl dX12_unlinkOf_87 ?_
    refine sm_iconst (Y := mX12_unlinkOf) (pc := 89) (-1) (by decide) dX12_unlinkOf_89 ?_
    refine sm_istore0 (Y := mX12_unlinkOf) (pc := 90) [(15, .int (-1)), (14, .int (-1)), (0, .ref (sm_B E + 109)), (5, .int x5), (6, .long x6), (8, .int x8), (9, .int x9), (10, .long x10), (12, .long x12)] 15 (by decide) rfl dX12_unlinkOf_90 ?_
    refine sm_iconst (Y := mX12_unlinkOf) (pc := 92) 0 (by decide) dX12_unlinkOf_92 ?_
    refine sm_istore0 (Y := mX12_unlinkOf) (pc := 93) [(16, .int 0), (15, .int (-1)), (14, .int (-1)), (0, .ref (sm_B E + 109)), (5, .int x5), (6, .long x6), (8, .int x8), (9, .int x9), (10, .long x10), (12, .long x12)] 16 (by decide) rfl dX12_unlinkOf_93 ?_
    refine sm_sub [3, 4, 5, 6, 2, 1, 0] rfl ?_
    exact h
  · replace h := h.2 hc
    refine sm_aload_n (Y := mX12_unlinkOf) (pc := 41) 0 0 rfl rfl dX12_unlinkOf_41 ?_
    refine gf_RX12_121 (Y := mX12_unlinkOf) (pc := 42) (b := 145) rfl ((lk_109 hly) _) (lf_109_62 hly _) dX12_unlinkOf_42 ?_
    refine sm_iload (Y := mX12_unlinkOf) (pc := 45) 3 8 rfl dX12_unlinkOf_45 ?_
    refine sm_iload (Y := mX12_unlinkOf) (pc := 47) 4 9 rfl dX12_unlinkOf_47 ?_
    refine sm_iadd (Y := mX12_unlinkOf) (pc := 49) dX12_unlinkOf_49 ?_
    refine sm_lload (Y := mX12_unlinkOf) (pc := 50) 5 10 rfl dX12_unlinkOf_50 ?_
    refine sm_lload (Y := mX12_unlinkOf) (pc := 52) 6 12 rfl dX12_unlinkOf_52 ?_
    obtain ⟨hn_6, h⟩ := h
    refine sm_ldiv (Y := mX12_unlinkOf) (pc := 54) hn_6 dX12_unlinkOf_54 ?_
    obtain ⟨hn_8, h⟩ := h
    refine sm_last (Y := mX12_unlinkOf) (pc := 55) (la_145 hly _) hn_8 dX12_unlinkOf_55 (fun m_7 em_7 => ?_)
    replace h := h m_7 em_7
    refine sm_iinc (Y := mX12_unlinkOf) (pc := 56) (fun y => [(9, .int y), (0, .ref (sm_B E + 109)), (5, .int x5), (6, .long x6), (8, .int x8), (10, .long x10), (12, .long x12)]) 4 9 rfl (by decide) (fun _ => rfl) dX12_unlinkOf_56 (fun x9_9 ex9_9 => ?_)
    replace h := h x9_9 ex9_9
    refine sm_lload (Y := mX12_unlinkOf) (pc := 59) 5 10 rfl dX12_unlinkOf_59 ?_
    refine sm_lload (Y := mX12_unlinkOf) (pc := 61) 6 12 rfl dX12_unlinkOf_61 ?_
    obtain ⟨hn_10, h⟩ := h
    refine sm_lrem (Y := mX12_unlinkOf) (pc := 63) hn_10 dX12_unlinkOf_63 ?_
    refine sm_lstore (Y := mX12_unlinkOf) (pc := 64) (fun y => [(14, .long y), (9, .int x9_9), (0, .ref (sm_B E + 109)), (5, .int x5), (6, .long x6), (8, .int x8), (10, .long x10), (12, .long x12)]) 14 (by decide) (fun _ => rfl) dX12_unlinkOf_64 (fun x14_11 ex14_11 => ?_)
    replace h := h x14_11 ex14_11
    refine sm_lload (Y := mX12_unlinkOf) (pc := 66) 7 12 rfl dX12_unlinkOf_66 ?_
    refine sm_lstore0 (Y := mX12_unlinkOf) (pc := 68) [(10, .long x12), (14, .long x14_11), (9, .int x9_9), (0, .ref (sm_B E + 109)), (5, .int x5), (6, .long x6), (8, .int x8), (12, .long x12)] 10 (by decide) rfl dX12_unlinkOf_68 ?_
    refine sm_lload (Y := mX12_unlinkOf) (pc := 70) 1 14 rfl dX12_unlinkOf_70 ?_
    refine sm_lstore0 (Y := mX12_unlinkOf) (pc := 72) [(12, .long x14_11), (10, .long x12), (14, .long x14_11), (9, .int x9_9), (0, .ref (sm_B E + 109)), (5, .int x5), (6, .long x6), (8, .int x8)] 12 (by decide) rfl dX12_unlinkOf_72 ?_
    refine sm_goto (Y := mX12_unlinkOf) (pc := 74) 34 (by decide) dX12_unlinkOf_74 ?_
    refine sm_sub [4, 5, 6, 7, 3, 1, 0] rfl ?_
    exact h
theorem dX12_unlinkOf_0 : decode cX12_unlinkOf 0 = .ok (.lload_n 1, 1) := dk_lload_n_1 (by decide +kernel)
theorem dX12_unlinkOf_1 : decode cX12_unlinkOf 1 = .ok (.ldc2_w 334, 3) := dk_ldc2_w 334 (b1 := 1) (b2 := 78) (by decide +kernel) (by decide +kernel) (by decide +kernel) (by decide +kernel)
theorem dX12_unlinkOf_4 : decode cX12_unlinkOf 4 = .ok (.lcmp, 1) := dk_lcmp (by decide +kernel)
theorem dX12_unlinkOf_5 : decode cX12_unlinkOf 5 = .ok (.ifCond .ge 5, 3) := dk_ifCond_ge 5 (b1 := 0) (b2 := 5) (by decide +kernel) (by decide +kernel) (by decide +kernel) (by decide +kernel)
theorem dX12_unlinkOf_10 : decode cX12_unlinkOf 10 = .ok (.aload_n 0, 1) := dk_aload_n_0 (by decide +kernel)
theorem dX12_unlinkOf_11 : decode cX12_unlinkOf 11 = .ok (.lload_n 1, 1) := dk_lload_n_1 (by decide +kernel)
theorem dX12_unlinkOf_12 : decode cX12_unlinkOf 12 = .ok (.lload_n 3, 1) := dk_lload_n_3 (by decide +kernel)
theorem dX12_unlinkOf_13 : decode cX12_unlinkOf 13 = .ok (.invokevirtual 366, 3) := dk_invokevirtual 366 (b1 := 1) (b2 := 110) (by decide +kernel) (by decide +kernel) (by decide +kernel) (by decide +kernel)
theorem dX12_unlinkOf_16 : decode cX12_unlinkOf 16 = .ok (.lstore 6, 2) := dk_lstore 6 (b := 6) (by decide +kernel) (by decide +kernel) (by decide +kernel)
theorem dX12_unlinkOf_18 : decode cX12_unlinkOf 18 = .ok (.bipush 16, 2) := dk_bipush 16 (b := 16) (by decide +kernel) (by decide +kernel) (by decide +kernel)
theorem dX12_unlinkOf_20 : decode cX12_unlinkOf 20 = .ok (.iload 5, 2) := dk_iload 5 (b := 5) (by decide +kernel) (by decide +kernel) (by decide +kernel)
theorem dX12_unlinkOf_22 : decode cX12_unlinkOf 22 = .ok (.imul, 1) := dk_imul (by decide +kernel)
theorem dX12_unlinkOf_23 : decode cX12_unlinkOf 23 = .ok (.istore 8, 2) := dk_istore 8 (b := 8) (by decide +kernel) (by decide +kernel) (by decide +kernel)
theorem dX12_unlinkOf_25 : decode cX12_unlinkOf 25 = .ok (.iconst 0, 1) := dk_iconst_0 (by decide +kernel)
theorem dX12_unlinkOf_26 : decode cX12_unlinkOf 26 = .ok (.istore 9, 2) := dk_istore 9 (b := 9) (by decide +kernel) (by decide +kernel) (by decide +kernel)
theorem dX12_unlinkOf_28 : decode cX12_unlinkOf 28 = .ok (.lload_n 1, 1) := dk_lload_n_1 (by decide +kernel)
theorem dX12_unlinkOf_29 : decode cX12_unlinkOf 29 = .ok (.lstore 10, 2) := dk_lstore 10 (b := 10) (by decide +kernel) (by decide +kernel) (by decide +kernel)
theorem dX12_unlinkOf_31 : decode cX12_unlinkOf 31 = .ok (.lload_n 3, 1) := dk_lload_n_3 (by decide +kernel)
theorem dX12_unlinkOf_32 : decode cX12_unlinkOf 32 = .ok (.lstore 12, 2) := dk_lstore 12 (b := 12) (by decide +kernel) (by decide +kernel) (by decide +kernel)
theorem dX12_unlinkOf_8 : decode cX12_unlinkOf 8 = .ok (.iconst 0, 1) := dk_iconst_0 (by decide +kernel)
theorem dX12_unlinkOf_9 : decode cX12_unlinkOf 9 = .ok (.ireturn, 1) := dk_ireturn (by decide +kernel)
set_option maxRecDepth 20000 in
theorem vX12_unlinkOf_0 {E : sm_E} {L : sm_S → Prop} {d : Nat} {x1 : Int64} {x3 : Int64} {x5 : Int32}  {m : sm_M} {Q : Int32 → sm_M → Prop} (hly : ∀ S, L S → ly S) {dr : Nat} (hd : 4 ≤ d) (hr : dr + 1 ≤ d) 
  (h : (2 ≤ x1 →
      sm_callJ E L mX12_sizeOf 2 0 0 [.ref (sm_B E + 109), .long x1, .long x3] m (fun r_2 m_1 =>
      ∀ x8_4 : Int32, x8_4 = (16 : Int32) * x5 →
      gX12_unlinkOf_34 E L d ([.ref (sm_B E + 109), .long x1, .long x3, .int x5]) x5 r_2 x8_4 0 x1 x3 m_1 Q)) ∧
   (¬ 2 ≤ x1 →
      Q 0 m)) :
  sm_callI E L mX12_unlinkOf d 0 0 [.ref (sm_B E + 109), .long x1, .long x3, .int x5] m Q := by
  refine sm_enter (by decide +kernel) (by simp [lg_sl, Value.category]) ?_
  refine sm_lload_n (Y := mX12_unlinkOf) (pc := 0) 1 1 rfl rfl dX12_unlinkOf_0 ?_
  refine sm_ldc2_w (Y := mX12_unlinkOf) (pc := 1) 2 wRX12_334 dX12_unlinkOf_1 ?_
  refine sm_lif_ge (Y := mX12_unlinkOf) (pc := 4) 10 (by decide) dX12_unlinkOf_4 dX12_unlinkOf_5 (fun hc => ?_) (fun hc => ?_)
  · replace h := h.1 hc
    refine sm_aload_n (Y := mX12_unlinkOf) (pc := 10) 0 0 rfl rfl dX12_unlinkOf_10 ?_
    refine sm_lload_n (Y := mX12_unlinkOf) (pc := 11) 1 1 rfl rfl dX12_unlinkOf_11 ?_
    refine sm_lload_n (Y := mX12_unlinkOf) (pc := 12) 2 3 rfl rfl dX12_unlinkOf_12 ?_
    refine sm_iv_J (Y := mX12_unlinkOf) (pc := 13) (As := [.long x1, .long x3]) (a := 109) fX12_sizeOf wRX12_366 (lk_109 hly) (by decide) rfl rfl rfl (Nat.le_trans (by decide) hd) (Nat.le_of_ble_eq_true rfl) ⟨Nat.le_refl _, Nat.le_refl _⟩ dX12_unlinkOf_13 rfl (sm_monoJ h (fun r_2 m_1 h => ?_))
    refine sm_lstore0 (Y := mX12_unlinkOf) (pc := 16) [(6, .long r_2), (0, .ref (sm_B E + 109)), (1, .long x1), (3, .long x3), (5, .int x5)] 6 (by decide) rfl dX12_unlinkOf_16 ?_
    refine sm_bipush (Y := mX12_unlinkOf) (pc := 18) 16 (by decide) dX12_unlinkOf_18 ?_
    refine sm_iload (Y := mX12_unlinkOf) (pc := 20) 4 5 rfl dX12_unlinkOf_20 ?_
    refine sm_imul (Y := mX12_unlinkOf) (pc := 22) dX12_unlinkOf_22 ?_
    refine sm_istore (Y := mX12_unlinkOf) (pc := 23) (fun y => [(8, .int y), (6, .long r_2), (0, .ref (sm_B E + 109)), (1, .long x1), (3, .long x3), (5, .int x5)]) 8 (by decide) (fun _ => rfl) dX12_unlinkOf_23 (fun x8_4 ex8_4 => ?_)
    replace h := h x8_4 ex8_4
    refine sm_iconst (Y := mX12_unlinkOf) (pc := 25) 0 (by decide) dX12_unlinkOf_25 ?_
    refine sm_istore0 (Y := mX12_unlinkOf) (pc := 26) [(9, .int 0), (8, .int x8_4), (6, .long r_2), (0, .ref (sm_B E + 109)), (1, .long x1), (3, .long x3), (5, .int x5)] 9 (by decide) rfl dX12_unlinkOf_26 ?_
    refine sm_lload_n (Y := mX12_unlinkOf) (pc := 28) 4 1 rfl rfl dX12_unlinkOf_28 ?_
    refine sm_lstore0 (Y := mX12_unlinkOf) (pc := 29) [(10, .long x1), (9, .int 0), (8, .int x8_4), (6, .long r_2), (0, .ref (sm_B E + 109)), (1, .long x1), (3, .long x3), (5, .int x5)] 10 (by decide) rfl dX12_unlinkOf_29 ?_
    refine sm_lload_n (Y := mX12_unlinkOf) (pc := 31) 6 3 rfl rfl dX12_unlinkOf_31 ?_
    refine sm_lstore0 (Y := mX12_unlinkOf) (pc := 32) [(12, .long x3), (10, .long x1), (9, .int 0), (8, .int x8_4), (6, .long r_2), (0, .ref (sm_B E + 109)), (1, .long x1), (3, .long x3), (5, .int x5)] 12 (by decide) rfl dX12_unlinkOf_32 ?_
    refine sm_sub [5, 8, 4, 3, 2, 1, 0] rfl ?_
    exact h
  · replace h := h.2 hc
    refine sm_iconst (Y := mX12_unlinkOf) (pc := 8) 0 (by decide) dX12_unlinkOf_8 ?_
    exact sm_iret (Y := mX12_unlinkOf) (pc := 9) rfl rfl rfl dX12_unlinkOf_9 ⟨_, rfl, h⟩
abbrev mX12_name : sm_Y := (yX12_name, cX12_name, 9, (some FieldType.int))
theorem fX12_name : sm_mi mX12_name RX12 3 := ⟨sm_in 1580 (by decide +kernel) (by decide +kernel), sm_in 1578 (by decide +kernel) (by decide +kernel), sm_in 1579 (by decide +kernel) (by decide +kernel), sm_in 93 (by decide +kernel) (by decide +kernel), rfl, ⟨by decide +kernel, by decide +kernel, by decide +kernel⟩, by decide⟩
theorem dX12_name_0 : decode cX12_name 0 = .ok (.iload_n 1, 1) := dk_iload_n_1 (by decide +kernel)
theorem dX12_name_1 : decode cX12_name 1 = .ok (.invokestatic 184, 3) := dk_invokestatic 184 (b1 := 0) (b2 := 184) (by decide +kernel) (by decide +kernel) (by decide +kernel) (by decide +kernel)
theorem dX12_name_4 : decode cX12_name 4 = .ok (.ifCond .eq 22, 3) := dk_ifCond_eq 22 (b1 := 0) (b2 := 22) (by decide +kernel) (by decide +kernel) (by decide +kernel) (by decide +kernel)
theorem dX12_name_26 : decode cX12_name 26 = .ok (.aload_n 0, 1) := dk_aload_n_0 (by decide +kernel)
theorem dX12_name_27 : decode cX12_name 27 = .ok (.iconst 1, 1) := dk_iconst_1 (by decide +kernel)
theorem dX12_name_28 : decode cX12_name 28 = .ok (.invokevirtual 194, 3) := dk_invokevirtual 194 (b1 := 0) (b2 := 194) (by decide +kernel) (by decide +kernel) (by decide +kernel) (by decide +kernel)
theorem dX12_name_31 : decode cX12_name 31 = .ok (.ireturn, 1) := dk_ireturn (by decide +kernel)
theorem dX12_name_7 : decode cX12_name 7 = .ok (.iload_n 2, 1) := dk_iload_n_2 (by decide +kernel)
theorem dX12_name_8 : decode cX12_name 8 = .ok (.invokestatic 214, 3) := dk_invokestatic 214 (b1 := 0) (b2 := 214) (by decide +kernel) (by decide +kernel) (by decide +kernel) (by decide +kernel)
theorem dX12_name_11 : decode cX12_name 11 = .ok (.ifCond .eq 15, 3) := dk_ifCond_eq 15 (b1 := 0) (b2 := 15) (by decide +kernel) (by decide +kernel) (by decide +kernel) (by decide +kernel)
theorem dX12_name_14 : decode cX12_name 14 = .ok (.iload_n 3, 1) := dk_iload_n_3 (by decide +kernel)
theorem dX12_name_15 : decode cX12_name 15 = .ok (.i2l, 1) := dk_i2l (by decide +kernel)
theorem dX12_name_16 : decode cX12_name 16 = .ok (.lconst 0, 1) := dk_lconst_0 (by decide +kernel)
theorem wRX12_376 : Cond.constantLong RX12 376 6 ∈ sm_T := sm_in 1581 (by decide +kernel) (by decide +kernel)
theorem dX12_name_17 : decode cX12_name 17 = .ok (.ldc2_w 376, 3) := dk_ldc2_w 376 (b1 := 1) (b2 := 120) (by decide +kernel) (by decide +kernel) (by decide +kernel) (by decide +kernel)
theorem dX12_name_20 : decode cX12_name 20 = .ok (.invokestatic 190, 3) := dk_invokestatic 190 (b1 := 0) (b2 := 190) (by decide +kernel) (by decide +kernel) (by decide +kernel) (by decide +kernel)
theorem dX12_name_23 : decode cX12_name 23 = .ok (.ifCond .ne 9, 3) := dk_ifCond_ne 9 (b1 := 0) (b2 := 9) (by decide +kernel) (by decide +kernel) (by decide +kernel) (by decide +kernel)
theorem dX12_name_32 : decode cX12_name 32 = .ok (.aload_n 0, 1) := dk_aload_n_0 (by decide +kernel)
theorem dX12_name_33 : decode cX12_name 33 = .ok (.iload_n 1, 1) := dk_iload_n_1 (by decide +kernel)
theorem dX12_name_34 : decode cX12_name 34 = .ok (.iload_n 2, 1) := dk_iload_n_2 (by decide +kernel)
theorem wRX12_378 : Cond.methodLink RX12 378 yX12_names ∈ sm_T := sm_in 1582 (by decide +kernel) (by decide +kernel)
theorem dX12_name_35 : decode cX12_name 35 = .ok (.invokevirtual 378, 3) := dk_invokevirtual 378 (b1 := 1) (b2 := 122) (by decide +kernel) (by decide +kernel) (by decide +kernel) (by decide +kernel)
theorem dX12_name_38 : decode cX12_name 38 = .ok (.ifCond .ne 9, 3) := dk_ifCond_ne 9 (b1 := 0) (b2 := 9) (by decide +kernel) (by decide +kernel) (by decide +kernel) (by decide +kernel)
theorem dX12_name_47 : decode cX12_name 47 = .ok (.aload_n 0, 1) := dk_aload_n_0 (by decide +kernel)
theorem dX12_name_48 : decode cX12_name 48 = .ok (.getfield 348, 3) := dk_getfield 348 (b1 := 1) (b2 := 92) (by decide +kernel) (by decide +kernel) (by decide +kernel) (by decide +kernel)
theorem dX12_name_51 : decode cX12_name 51 = .ok (.lstore 4, 2) := dk_lstore 4 (b := 4) (by decide +kernel) (by decide +kernel) (by decide +kernel)
theorem dX12_name_53 : decode cX12_name 53 = .ok (.aload_n 0, 1) := dk_aload_n_0 (by decide +kernel)
theorem dX12_name_54 : decode cX12_name 54 = .ok (.getfield 351, 3) := dk_getfield 351 (b1 := 1) (b2 := 95) (by decide +kernel) (by decide +kernel) (by decide +kernel) (by decide +kernel)
theorem dX12_name_57 : decode cX12_name 57 = .ok (.lstore 6, 2) := dk_lstore 6 (b := 6) (by decide +kernel) (by decide +kernel) (by decide +kernel)
theorem dX12_name_59 : decode cX12_name 59 = .ok (.iload_n 3, 1) := dk_iload_n_3 (by decide +kernel)
theorem dX12_name_60 : decode cX12_name 60 = .ok (.tableswitch 93 0 4 #[36, 40, 44, 54, 63], 36) := by decide +kernel
theorem dX12_name_96 : decode cX12_name 96 = .ok (.lload 4, 2) := dk_lload 4 (b := 4) (by decide +kernel) (by decide +kernel) (by decide +kernel)
theorem dX12_name_98 : decode cX12_name 98 = .ok (.l2i, 1) := dk_l2i (by decide +kernel)
theorem dX12_name_99 : decode cX12_name 99 = .ok (.ireturn, 1) := dk_ireturn (by decide +kernel)
theorem dX12_name_100 : decode cX12_name 100 = .ok (.lload 6, 2) := dk_lload 6 (b := 6) (by decide +kernel) (by decide +kernel) (by decide +kernel)
theorem dX12_name_102 : decode cX12_name 102 = .ok (.l2i, 1) := dk_l2i (by decide +kernel)
theorem dX12_name_103 : decode cX12_name 103 = .ok (.ireturn, 1) := dk_ireturn (by decide +kernel)
theorem dX12_name_104 : decode cX12_name 104 = .ok (.aload_n 0, 1) := dk_aload_n_0 (by decide +kernel)
theorem dX12_name_105 : decode cX12_name 105 = .ok (.lload 4, 2) := dk_lload 4 (b := 4) (by decide +kernel) (by decide +kernel) (by decide +kernel)
theorem dX12_name_107 : decode cX12_name 107 = .ok (.lload 6, 2) := dk_lload 6 (b := 6) (by decide +kernel) (by decide +kernel) (by decide +kernel)
theorem dX12_name_109 : decode cX12_name 109 = .ok (.invokevirtual 366, 3) := dk_invokevirtual 366 (b1 := 1) (b2 := 110) (by decide +kernel) (by decide +kernel) (by decide +kernel) (by decide +kernel)
theorem dX12_name_112 : decode cX12_name 112 = .ok (.l2i, 1) := dk_l2i (by decide +kernel)
theorem dX12_name_113 : decode cX12_name 113 = .ok (.ireturn, 1) := dk_ireturn (by decide +kernel)
theorem dX12_name_114 : decode cX12_name 114 = .ok (.aload_n 0, 1) := dk_aload_n_0 (by decide +kernel)
theorem dX12_name_115 : decode cX12_name 115 = .ok (.lload 4, 2) := dk_lload 4 (b := 4) (by decide +kernel) (by decide +kernel) (by decide +kernel)
theorem dX12_name_117 : decode cX12_name 117 = .ok (.lload 6, 2) := dk_lload 6 (b := 6) (by decide +kernel) (by decide +kernel) (by decide +kernel)
theorem wRX12_382 : Cond.methodLink RX12 382 yX12_genusOf ∈ sm_T := sm_in 1601 (by decide +kernel) (by decide +kernel)
theorem dX12_name_119 : decode cX12_name 119 = .ok (.invokevirtual 382, 3) := dk_invokevirtual 382 (b1 := 1) (b2 := 126) (by decide +kernel) (by decide +kernel) (by decide +kernel) (by decide +kernel)
theorem dX12_name_122 : decode cX12_name 122 = .ok (.ireturn, 1) := dk_ireturn (by decide +kernel)
theorem dX12_name_123 : decode cX12_name 123 = .ok (.aload_n 0, 1) := dk_aload_n_0 (by decide +kernel)
theorem wRX12_386 : Cond.methodLink RX12 386 yX12_glass ∈ sm_T := sm_in 1608 (by decide +kernel) (by decide +kernel)
theorem dX12_name_124 : decode cX12_name 124 = .ok (.invokevirtual 386, 3) := dk_invokevirtual 386 (b1 := 1) (b2 := 130) (by decide +kernel) (by decide +kernel) (by decide +kernel) (by decide +kernel)
theorem dX12_name_127 : decode cX12_name 127 = .ok (.aload_n 0, 1) := dk_aload_n_0 (by decide +kernel)
theorem dX12_name_128 : decode cX12_name 128 = .ok (.getfield 348, 3) := dk_getfield 348 (b1 := 1) (b2 := 92) (by decide +kernel) (by decide +kernel) (by decide +kernel) (by decide +kernel)
theorem dX12_name_131 : decode cX12_name 131 = .ok (.lload 4, 2) := dk_lload 4 (b := 4) (by decide +kernel) (by decide +kernel) (by decide +kernel)
theorem dX12_name_133 : decode cX12_name 133 = .ok (.lcmp, 1) := dk_lcmp (by decide +kernel)
theorem dX12_name_134 : decode cX12_name 134 = .ok (.ifCond .ne 17, 3) := dk_ifCond_ne 17 (b1 := 0) (b2 := 17) (by decide +kernel) (by decide +kernel) (by decide +kernel) (by decide +kernel)
theorem dX12_name_151 : decode cX12_name 151 = .ok (.iconst 0, 1) := dk_iconst_0 (by decide +kernel)
theorem dX12_name_152 : decode cX12_name 152 = .ok (.ireturn, 1) := dk_ireturn (by decide +kernel)
theorem dX12_name_137 : decode cX12_name 137 = .ok (.aload_n 0, 1) := dk_aload_n_0 (by decide +kernel)
theorem dX12_name_138 : decode cX12_name 138 = .ok (.getfield 351, 3) := dk_getfield 351 (b1 := 1) (b2 := 95) (by decide +kernel) (by decide +kernel) (by decide +kernel) (by decide +kernel)
theorem dX12_name_141 : decode cX12_name 141 = .ok (.lload 6, 2) := dk_lload 6 (b := 6) (by decide +kernel) (by decide +kernel) (by decide +kernel)
theorem dX12_name_143 : decode cX12_name 143 = .ok (.lcmp, 1) := dk_lcmp (by decide +kernel)
theorem dX12_name_144 : decode cX12_name 144 = .ok (.ifCond .ne 7, 3) := dk_ifCond_ne 7 (b1 := 0) (b2 := 7) (by decide +kernel) (by decide +kernel) (by decide +kernel) (by decide +kernel)
theorem dX12_name_147 : decode cX12_name 147 = .ok (.iconst 1, 1) := dk_iconst_1 (by decide +kernel)
theorem dX12_name_148 : decode cX12_name 148 = .ok (.goto 4, 3) := dk_goto 4 (b1 := 0) (b2 := 4) (by decide +kernel) (by decide +kernel) (by decide +kernel) (by decide +kernel)
theorem dX12_name_153 : decode cX12_name 153 = .ok (.aload_n 0, 1) := dk_aload_n_0 (by decide +kernel)
theorem dX12_name_154 : decode cX12_name 154 = .ok (.lload 4, 2) := dk_lload 4 (b := 4) (by decide +kernel) (by decide +kernel) (by decide +kernel)
theorem dX12_name_156 : decode cX12_name 156 = .ok (.lload 6, 2) := dk_lload 6 (b := 6) (by decide +kernel) (by decide +kernel) (by decide +kernel)
theorem dX12_name_158 : decode cX12_name 158 = .ok (.invokevirtual 366, 3) := dk_invokevirtual 366 (b1 := 1) (b2 := 110) (by decide +kernel) (by decide +kernel) (by decide +kernel) (by decide +kernel)
theorem wRX12_389 : Cond.constantLong RX12 389 12 ∈ sm_T := sm_in 1612 (by decide +kernel) (by decide +kernel)
theorem dX12_name_161 : decode cX12_name 161 = .ok (.ldc2_w 389, 3) := dk_ldc2_w 389 (b1 := 1) (b2 := 133) (by decide +kernel) (by decide +kernel) (by decide +kernel) (by decide +kernel)
theorem dX12_name_164 : decode cX12_name 164 = .ok (.lcmp, 1) := dk_lcmp (by decide +kernel)
theorem dX12_name_165 : decode cX12_name 165 = .ok (.ifCond .le 10, 3) := dk_ifCond_le 10 (b1 := 0) (b2 := 10) (by decide +kernel) (by decide +kernel) (by decide +kernel) (by decide +kernel)
theorem dX12_name_175 : decode cX12_name 175 = .ok (.aload_n 0, 1) := dk_aload_n_0 (by decide +kernel)
theorem dX12_name_176 : decode cX12_name 176 = .ok (.lload 4, 2) := dk_lload 4 (b := 4) (by decide +kernel) (by decide +kernel) (by decide +kernel)
theorem dX12_name_178 : decode cX12_name 178 = .ok (.lload 6, 2) := dk_lload 6 (b := 6) (by decide +kernel) (by decide +kernel) (by decide +kernel)
theorem dX12_name_180 : decode cX12_name 180 = .ok (.iconst 0, 1) := dk_iconst_0 (by decide +kernel)
theorem dX12_name_181 : decode cX12_name 181 = .ok (.invokevirtual 369, 3) := dk_invokevirtual 369 (b1 := 1) (b2 := 113) (by decide +kernel) (by decide +kernel) (by decide +kernel) (by decide +kernel)
theorem dX12_name_184 : decode cX12_name 184 = .ok (.istore 8, 2) := dk_istore 8 (b := 8) (by decide +kernel) (by decide +kernel) (by decide +kernel)
theorem dX12_name_186 : decode cX12_name 186 = .ok (.iload_n 3, 1) := dk_iload_n_3 (by decide +kernel)
theorem dX12_name_187 : decode cX12_name 187 = .ok (.iconst 5, 1) := dk_iconst_5 (by decide +kernel)
theorem dX12_name_188 : decode cX12_name 188 = .ok (.if_icmp .ne 8, 3) := dk_if_icmp_ne 8 (b1 := 0) (b2 := 8) (by decide +kernel) (by decide +kernel) (by decide +kernel) (by decide +kernel)
theorem dX12_name_196 : decode cX12_name 196 = .ok (.iload 8, 2) := dk_iload 8 (b := 8) (by decide +kernel) (by decide +kernel) (by decide +kernel)
theorem dX12_name_198 : decode cX12_name 198 = .ok (.ifCond .ne 11, 3) := dk_ifCond_ne 11 (b1 := 0) (b2 := 11) (by decide +kernel) (by decide +kernel) (by decide +kernel) (by decide +kernel)
theorem dX12_name_209 : decode cX12_name 209 = .ok (.aload_n 0, 1) := dk_aload_n_0 (by decide +kernel)
theorem dX12_name_210 : decode cX12_name 210 = .ok (.getfield 373, 3) := dk_getfield 373 (b1 := 1) (b2 := 117) (by decide +kernel) (by decide +kernel) (by decide +kernel) (by decide +kernel)
theorem dX12_name_213 : decode cX12_name 213 = .ok (.ireturn, 1) := dk_ireturn (by decide +kernel)
theorem dX12_name_201 : decode cX12_name 201 = .ok (.aload_n 0, 1) := dk_aload_n_0 (by decide +kernel)
theorem dX12_name_202 : decode cX12_name 202 = .ok (.iconst 2, 1) := dk_iconst_2 (by decide +kernel)
theorem dX12_name_203 : decode cX12_name 203 = .ok (.invokevirtual 194, 3) := dk_invokevirtual 194 (b1 := 0) (b2 := 194) (by decide +kernel) (by decide +kernel) (by decide +kernel) (by decide +kernel)
theorem dX12_name_206 : decode cX12_name 206 = .ok (.goto 7, 3) := dk_goto 7 (b1 := 0) (b2 := 7) (by decide +kernel) (by decide +kernel) (by decide +kernel) (by decide +kernel)
theorem dX12_name_191 : decode cX12_name 191 = .ok (.iload 8, 2) := dk_iload 8 (b := 8) (by decide +kernel) (by decide +kernel) (by decide +kernel)
theorem dX12_name_193 : decode cX12_name 193 = .ok (.goto 20, 3) := dk_goto 20 (b1 := 0) (b2 := 20) (by decide +kernel) (by decide +kernel) (by decide +kernel) (by decide +kernel)
theorem dX12_name_168 : decode cX12_name 168 = .ok (.aload_n 0, 1) := dk_aload_n_0 (by decide +kernel)
theorem dX12_name_169 : decode cX12_name 169 = .ok (.bipush 6, 2) := dk_bipush 6 (b := 6) (by decide +kernel) (by decide +kernel) (by decide +kernel)
theorem dX12_name_171 : decode cX12_name 171 = .ok (.invokevirtual 194, 3) := dk_invokevirtual 194 (b1 := 0) (b2 := 194) (by decide +kernel) (by decide +kernel) (by decide +kernel) (by decide +kernel)
theorem dX12_name_174 : decode cX12_name 174 = .ok (.ireturn, 1) := dk_ireturn (by decide +kernel)
theorem dX12_name_41 : decode cX12_name 41 = .ok (.aload_n 0, 1) := dk_aload_n_0 (by decide +kernel)
theorem dX12_name_42 : decode cX12_name 42 = .ok (.iconst 3, 1) := dk_iconst_3 (by decide +kernel)
theorem dX12_name_43 : decode cX12_name 43 = .ok (.invokevirtual 194, 3) := dk_invokevirtual 194 (b1 := 0) (b2 := 194) (by decide +kernel) (by decide +kernel) (by decide +kernel) (by decide +kernel)
theorem dX12_name_46 : decode cX12_name 46 = .ok (.ireturn, 1) := dk_ireturn (by decide +kernel)
set_option maxRecDepth 20000 in
theorem vX12_name_0 {E : sm_E} {L : sm_S → Prop} {d : Nat} {x1 : Int32} {x2 : Int32} {x3 : Int32}  {m : sm_M} {Q : Int32 → sm_M → Prop} (hly : ∀ S, L S → ly S) (hd : 61 ≤ d) 
  (h : sm_callI E L mX12_isSlot 1 0 0 [.int x1] m (fun r_2 m_1 =>
   (r_2 = 0 →
      sm_callI E L mX12_finds 1 0 0 [.ref (sm_B E + 109), .int 1] m_1 (fun r_4 m_3 =>
      Q r_4 m_3)) ∧
   (¬ r_2 = 0 →
      sm_callI E L mX12_isPart 1 0 0 [.int x2] m_1 (fun r_6 m_5 =>
      (r_6 = 0 →
         sm_callI E L mX12_finds 1 0 0 [.ref (sm_B E + 109), .int 1] m_5 (fun r_8 m_7 =>
         Q r_8 m_7)) ∧
      (¬ r_6 = 0 →
         sm_callI E L mX12_isIn 1 0 0 [.long (x3.toInt64), .long 0, .long 6] m_5 (fun r_10 m_9 =>
         (¬ r_10 = 0 →
            sm_callI E L mX12_names 4 0 0 [.ref (sm_B E + 109), .int x1, .int x2] m_9 (fun r_12 m_11 =>
            (¬ r_12 = 0 →
               ∀ x4_13 : Int64, x4_13 = m_11.2.1 109 60 →
               ∀ x6_14 : Int64, x6_14 = m_11.2.1 109 61 →
               (x3 = 0 →
                  Q (x4_13.toInt32) m_11) ∧
               (x3 = 1 →
                  Q (x6_14.toInt32) m_11) ∧
               (x3 = 2 →
                  sm_callJ E L mX12_sizeOf 2 0 0 [.ref (sm_B E + 109), .long x4_13, .long x6_14] m_11 (fun r_16 m_15 =>
                  Q (r_16.toInt32) m_15)) ∧
               (x3 = 3 →
                  sm_callI E L mX12_genusOf 3 0 0 [.ref (sm_B E + 109), .long x4_13, .long x6_14] m_11 (fun r_18 m_17 =>
                  Q r_18 m_17)) ∧
               (x3 = 4 →
                  sm_callV E L mX12_glass 3 0 0 [.ref (sm_B E + 109)] m_11 (fun m_19 =>
                  (¬ (m_19.2.1 109 60) = x4_13 →
                     Q 0 m_19) ∧
                  ((m_19.2.1 109 60) = x4_13 →
                     (¬ (m_19.2.1 109 61) = x6_14 →
                        Q 0 m_19) ∧
                     ((m_19.2.1 109 61) = x6_14 →
                        Q 1 m_19)))) ∧
               ((¬ x3 = 0 ∧ ¬ x3 = 1 ∧ ¬ x3 = 2 ∧ ¬ x3 = 3 ∧ ¬ x3 = 4) →
                  sm_callJ E L mX12_sizeOf 2 0 0 [.ref (sm_B E + 109), .long x4_13, .long x6_14] m_11 (fun r_21 m_20 =>
               (r_21 ≤ 12 →
                  sm_callI E L mX12_unlinkOf 60 0 0 [.ref (sm_B E + 109), .long x4_13, .long x6_14, .int 0] m_20 (fun r_23 m_22 =>
                  (¬ x3 = 5 →
                     (¬ r_23 = 0 →
                        Q (m_22.1 109 64) m_22) ∧
                     (r_23 = 0 →
                        sm_callI E L mX12_finds 1 0 0 [.ref (sm_B E + 109), .int 2] m_22 (fun r_26 m_25 =>
                        Q r_26 m_25))) ∧
                  (x3 = 5 →
                     Q r_23 m_22))) ∧
               (¬ r_21 ≤ 12 →
                  sm_callI E L mX12_finds 1 0 0 [.ref (sm_B E + 109), .int 6] m_20 (fun r_28 m_27 =>
                  Q r_28 m_27))))) ∧
            (r_12 = 0 →
               sm_callI E L mX12_finds 1 0 0 [.ref (sm_B E + 109), .int 3] m_11 (fun r_30 m_29 =>
               Q r_30 m_29)))) ∧
         (r_10 = 0 →
            sm_callI E L mX12_finds 1 0 0 [.ref (sm_B E + 109), .int 1] m_9 (fun r_32 m_31 =>
            Q r_32 m_31)))))))) :
  sm_callI E L mX12_name d 0 0 [.ref (sm_B E + 109), .int x1, .int x2, .int x3] m Q := by
  refine sm_enter (by decide +kernel) (by simp [lg_sl, Value.category]) ?_
  refine sm_iload_n (Y := mX12_name) (pc := 0) 1 1 rfl rfl dX12_name_0 ?_
  refine sm_is_I (Y := mX12_name) (pc := 1) (As := [.int x1]) fX12_isSlot wRX12_184 rfl (Nat.le_trans (by decide) hd) (Nat.le_of_ble_eq_true rfl) ⟨Nat.le_refl _, Nat.le_refl _⟩ dX12_name_1 rfl (sm_monoI h (fun r_2 m_1 h => ?_))
  refine sm_if_eq (Y := mX12_name) (pc := 4) 26 (by decide) dX12_name_4 (fun hc => ?_) (fun hc => ?_)
  · replace h := h.1 hc
    refine sm_aload_n (Y := mX12_name) (pc := 26) 0 0 rfl rfl dX12_name_26 ?_
    refine sm_iconst (Y := mX12_name) (pc := 27) 1 (by decide) dX12_name_27 ?_
    refine sm_iv_I (Y := mX12_name) (pc := 28) (As := [.int 1]) (a := 109) fX12_finds wRX12_194 (lk_109 hly) (by decide) rfl rfl rfl (Nat.le_trans (by decide) hd) (Nat.le_of_ble_eq_true rfl) ⟨Nat.le_refl _, Nat.le_refl _⟩ dX12_name_28 rfl (sm_monoI h (fun r_4 m_3 h => ?_))
    exact sm_iret (Y := mX12_name) (pc := 31) rfl rfl rfl dX12_name_31 ⟨_, rfl, h⟩
  · replace h := h.2 hc
    refine sm_iload_n (Y := mX12_name) (pc := 7) 2 2 rfl rfl dX12_name_7 ?_
    refine sm_is_I (Y := mX12_name) (pc := 8) (As := [.int x2]) fX12_isPart wRX12_214 rfl (Nat.le_trans (by decide) hd) (Nat.le_of_ble_eq_true rfl) ⟨Nat.le_refl _, Nat.le_refl _⟩ dX12_name_8 rfl (sm_monoI h (fun r_6 m_5 h => ?_))
    refine sm_if_eq (Y := mX12_name) (pc := 11) 26 (by decide) dX12_name_11 (fun hc => ?_) (fun hc => ?_)
    · replace h := h.1 hc
      refine sm_aload_n (Y := mX12_name) (pc := 26) 0 0 rfl rfl dX12_name_26 ?_
      refine sm_iconst (Y := mX12_name) (pc := 27) 1 (by decide) dX12_name_27 ?_
      refine sm_iv_I (Y := mX12_name) (pc := 28) (As := [.int 1]) (a := 109) fX12_finds wRX12_194 (lk_109 hly) (by decide) rfl rfl rfl (Nat.le_trans (by decide) hd) (Nat.le_of_ble_eq_true rfl) ⟨Nat.le_refl _, Nat.le_refl _⟩ dX12_name_28 rfl (sm_monoI h (fun r_8 m_7 h => ?_))
      exact sm_iret (Y := mX12_name) (pc := 31) rfl rfl rfl dX12_name_31 ⟨_, rfl, h⟩
    · replace h := h.2 hc
      refine sm_iload_n (Y := mX12_name) (pc := 14) 3 3 rfl rfl dX12_name_14 ?_
      refine sm_i2l (Y := mX12_name) (pc := 15) dX12_name_15 ?_
      refine sm_lconst (Y := mX12_name) (pc := 16) 0 (by decide) dX12_name_16 ?_
      refine sm_ldc2_w (Y := mX12_name) (pc := 17) 6 wRX12_376 dX12_name_17 ?_
      refine sm_is_I (Y := mX12_name) (pc := 20) (As := [.long (x3.toInt64), .long 0, .long 6]) fX12_isIn wRX12_190 rfl (Nat.le_trans (by decide) hd) (Nat.le_of_ble_eq_true rfl) ⟨Nat.le_refl _, Nat.le_refl _⟩ dX12_name_20 rfl (sm_monoI h (fun r_10 m_9 h => ?_))
      refine sm_if_ne (Y := mX12_name) (pc := 23) 32 (by decide) dX12_name_23 (fun hc => ?_) (fun hc => ?_)
      · replace h := h.1 hc
        refine sm_aload_n (Y := mX12_name) (pc := 32) 0 0 rfl rfl dX12_name_32 ?_
        refine sm_iload_n (Y := mX12_name) (pc := 33) 1 1 rfl rfl dX12_name_33 ?_
        refine sm_iload_n (Y := mX12_name) (pc := 34) 2 2 rfl rfl dX12_name_34 ?_
        refine sm_iv_I (Y := mX12_name) (pc := 35) (As := [.int x1, .int x2]) (a := 109) fX12_names wRX12_378 (lk_109 hly) (by decide) rfl rfl rfl (Nat.le_trans (by decide) hd) (Nat.le_of_ble_eq_true rfl) ⟨Nat.le_refl _, Nat.le_refl _⟩ dX12_name_35 rfl (sm_monoI h (fun r_12 m_11 h => ?_))
        refine sm_if_ne (Y := mX12_name) (pc := 38) 47 (by decide) dX12_name_38 (fun hc => ?_) (fun hc => ?_)
        · replace h := h.1 hc
          refine sm_aload_n (Y := mX12_name) (pc := 47) 0 0 rfl rfl dX12_name_47 ?_
          refine gf_RX12_348 (Y := mX12_name) (pc := 48) rfl ((lk_109 hly) _) dX12_name_48 ?_
          refine sm_lstore (Y := mX12_name) (pc := 51) (fun y => [(4, .long y), (0, .ref (sm_B E + 109)), (1, .int x1), (2, .int x2), (3, .int x3)]) 4 (by decide) (fun _ => rfl) dX12_name_51 (fun x4_13 ex4_13 => ?_)
          replace h := h x4_13 ex4_13
          refine sm_aload_n (Y := mX12_name) (pc := 53) 1 0 rfl rfl dX12_name_53 ?_
          refine gf_RX12_351 (Y := mX12_name) (pc := 54) rfl ((lk_109 hly) _) dX12_name_54 ?_
          refine sm_lstore (Y := mX12_name) (pc := 57) (fun y => [(6, .long y), (4, .long x4_13), (0, .ref (sm_B E + 109)), (1, .int x1), (2, .int x2), (3, .int x3)]) 6 (by decide) (fun _ => rfl) dX12_name_57 (fun x6_14 ex6_14 => ?_)
          replace h := h x6_14 ex6_14
          refine sm_iload_n (Y := mX12_name) (pc := 59) 5 3 rfl rfl dX12_name_59 ?_
          by_cases hs60_0 : x3 = 0
          · refine sm_tableIn (Y := mX12_name) (pc := 60) 96 (by rw [hs60_0]; decide) (by rw [hs60_0]; decide) (by first | (rw [hs60_0]; done) | (rw [hs60_0]; rfl)) (by decide) dX12_name_60 ?_
            replace h := h.1 hs60_0
            refine sm_lload (Y := mX12_name) (pc := 96) 1 4 rfl dX12_name_96 ?_
            refine sm_l2i (Y := mX12_name) (pc := 98) dX12_name_98 ?_
            exact sm_iret (Y := mX12_name) (pc := 99) rfl rfl rfl dX12_name_99 ⟨_, rfl, h⟩
          replace h := h.2
          by_cases hs60_1 : x3 = 1
          · refine sm_tableIn (Y := mX12_name) (pc := 60) 100 (by rw [hs60_1]; decide) (by rw [hs60_1]; decide) (by first | (rw [hs60_1]; done) | (rw [hs60_1]; rfl)) (by decide) dX12_name_60 ?_
            replace h := h.1 hs60_1
            refine sm_lload (Y := mX12_name) (pc := 100) 0 6 rfl dX12_name_100 ?_
            refine sm_l2i (Y := mX12_name) (pc := 102) dX12_name_102 ?_
            exact sm_iret (Y := mX12_name) (pc := 103) rfl rfl rfl dX12_name_103 ⟨_, rfl, h⟩
          replace h := h.2
          by_cases hs60_2 : x3 = 2
          · refine sm_tableIn (Y := mX12_name) (pc := 60) 104 (by rw [hs60_2]; decide) (by rw [hs60_2]; decide) (by first | (rw [hs60_2]; done) | (rw [hs60_2]; rfl)) (by decide) dX12_name_60 ?_
            replace h := h.1 hs60_2
            refine sm_aload_n (Y := mX12_name) (pc := 104) 2 0 rfl rfl dX12_name_104 ?_
            refine sm_lload (Y := mX12_name) (pc := 105) 1 4 rfl dX12_name_105 ?_
            refine sm_lload (Y := mX12_name) (pc := 107) 0 6 rfl dX12_name_107 ?_
            refine sm_iv_J (Y := mX12_name) (pc := 109) (As := [.long x4_13, .long x6_14]) (a := 109) fX12_sizeOf wRX12_366 (lk_109 hly) (by decide) rfl rfl rfl (Nat.le_trans (by decide) hd) (Nat.le_of_ble_eq_true rfl) ⟨Nat.le_refl _, Nat.le_refl _⟩ dX12_name_109 rfl (sm_monoJ h (fun r_16 m_15 h => ?_))
            refine sm_l2i (Y := mX12_name) (pc := 112) dX12_name_112 ?_
            exact sm_iret (Y := mX12_name) (pc := 113) rfl rfl rfl dX12_name_113 ⟨_, rfl, h⟩
          replace h := h.2
          by_cases hs60_3 : x3 = 3
          · refine sm_tableIn (Y := mX12_name) (pc := 60) 114 (by rw [hs60_3]; decide) (by rw [hs60_3]; decide) (by first | (rw [hs60_3]; done) | (rw [hs60_3]; rfl)) (by decide) dX12_name_60 ?_
            replace h := h.1 hs60_3
            refine sm_aload_n (Y := mX12_name) (pc := 114) 2 0 rfl rfl dX12_name_114 ?_
            refine sm_lload (Y := mX12_name) (pc := 115) 1 4 rfl dX12_name_115 ?_
            refine sm_lload (Y := mX12_name) (pc := 117) 0 6 rfl dX12_name_117 ?_
            refine sm_iv_I (Y := mX12_name) (pc := 119) (As := [.long x4_13, .long x6_14]) (a := 109) fX12_genusOf wRX12_382 (lk_109 hly) (by decide) rfl rfl rfl (Nat.le_trans (by decide) hd) (Nat.le_of_ble_eq_true rfl) ⟨Nat.le_refl _, Nat.le_refl _⟩ dX12_name_119 rfl (sm_monoI h (fun r_18 m_17 h => ?_))
            exact sm_iret (Y := mX12_name) (pc := 122) rfl rfl rfl dX12_name_122 ⟨_, rfl, h⟩
          replace h := h.2
          by_cases hs60_4 : x3 = 4
          · refine sm_tableIn (Y := mX12_name) (pc := 60) 123 (by rw [hs60_4]; decide) (by rw [hs60_4]; decide) (by first | (rw [hs60_4]; done) | (rw [hs60_4]; rfl)) (by decide) dX12_name_60 ?_
            replace h := h.1 hs60_4
            refine sm_aload_n (Y := mX12_name) (pc := 123) 2 0 rfl rfl dX12_name_123 ?_
            refine sm_iv_V (Y := mX12_name) (pc := 124) (As := []) (a := 109) fX12_glass wRX12_386 (lk_109 hly) (by decide) rfl rfl rfl (Nat.le_trans (by decide) hd) (Nat.le_of_ble_eq_true rfl) ⟨Nat.le_refl _, Nat.le_refl _⟩ dX12_name_124 rfl (sm_monoV h (fun m_19 h => ?_))
            refine sm_aload_n (Y := mX12_name) (pc := 127) 2 0 rfl rfl dX12_name_127 ?_
            refine gf_RX12_348 (Y := mX12_name) (pc := 128) rfl ((lk_109 hly) _) dX12_name_128 ?_
            refine sm_lload (Y := mX12_name) (pc := 131) 1 4 rfl dX12_name_131 ?_
            refine sm_lif_ne (Y := mX12_name) (pc := 133) 151 (by decide) dX12_name_133 dX12_name_134 (fun hc => ?_) (fun hc => ?_)
            · replace h := h.1 hc
              refine sm_iconst (Y := mX12_name) (pc := 151) 0 (by decide) dX12_name_151 ?_
              exact sm_iret (Y := mX12_name) (pc := 152) rfl rfl rfl dX12_name_152 ⟨_, rfl, h⟩
            · replace h := h.2 hc
              refine sm_aload_n (Y := mX12_name) (pc := 137) 2 0 rfl rfl dX12_name_137 ?_
              refine gf_RX12_351 (Y := mX12_name) (pc := 138) rfl ((lk_109 hly) _) dX12_name_138 ?_
              refine sm_lload (Y := mX12_name) (pc := 141) 0 6 rfl dX12_name_141 ?_
              refine sm_lif_ne (Y := mX12_name) (pc := 143) 151 (by decide) dX12_name_143 dX12_name_144 (fun hc => ?_) (fun hc => ?_)
              · replace h := h.1 hc
                refine sm_iconst (Y := mX12_name) (pc := 151) 0 (by decide) dX12_name_151 ?_
                exact sm_iret (Y := mX12_name) (pc := 152) rfl rfl rfl dX12_name_152 ⟨_, rfl, h⟩
              · replace h := h.2 hc
                refine sm_iconst (Y := mX12_name) (pc := 147) 1 (by decide) dX12_name_147 ?_
                refine sm_goto (Y := mX12_name) (pc := 148) 152 (by decide) dX12_name_148 ?_
                exact sm_iret (Y := mX12_name) (pc := 152) rfl rfl rfl dX12_name_152 ⟨_, rfl, h⟩
          replace h := h.2
          refine sm_tableOut (Y := mX12_name) (pc := 60) 153 (sm_tout (lo := 0) 5 (fun j hj => by
              match j, hj with
              | 0, _ => exact lv_neT hs60_0 (by decide)
              | 1, _ => exact lv_neT hs60_1 (by decide)
              | 2, _ => exact lv_neT hs60_2 (by decide)
              | 3, _ => exact lv_neT hs60_3 (by decide)
              | 4, _ => exact lv_neT hs60_4 (by decide)
              | j + 5, hj => exact absurd hj (by omega))) (by decide) dX12_name_60 ?_
          replace h := h ⟨hs60_0, hs60_1, hs60_2, hs60_3, hs60_4⟩
          refine sm_aload_n (Y := mX12_name) (pc := 153) 2 0 rfl rfl dX12_name_153 ?_
          refine sm_lload (Y := mX12_name) (pc := 154) 1 4 rfl dX12_name_154 ?_
          refine sm_lload (Y := mX12_name) (pc := 156) 0 6 rfl dX12_name_156 ?_
          refine sm_iv_J (Y := mX12_name) (pc := 158) (As := [.long x4_13, .long x6_14]) (a := 109) fX12_sizeOf wRX12_366 (lk_109 hly) (by decide) rfl rfl rfl (Nat.le_trans (by decide) hd) (Nat.le_of_ble_eq_true rfl) ⟨Nat.le_refl _, Nat.le_refl _⟩ dX12_name_158 rfl (sm_monoJ h (fun r_21 m_20 h => ?_))
          refine sm_ldc2_w (Y := mX12_name) (pc := 161) 12 wRX12_389 dX12_name_161 ?_
          refine sm_lif_le (Y := mX12_name) (pc := 164) 175 (by decide) dX12_name_164 dX12_name_165 (fun hc => ?_) (fun hc => ?_)
          · replace h := h.1 hc
            refine sm_aload_n (Y := mX12_name) (pc := 175) 2 0 rfl rfl dX12_name_175 ?_
            refine sm_lload (Y := mX12_name) (pc := 176) 1 4 rfl dX12_name_176 ?_
            refine sm_lload (Y := mX12_name) (pc := 178) 0 6 rfl dX12_name_178 ?_
            refine sm_iconst (Y := mX12_name) (pc := 180) 0 (by decide) dX12_name_180 ?_
            refine sm_iv_I (Y := mX12_name) (pc := 181) (As := [.long x4_13, .long x6_14, .int 0]) (a := 109) fX12_unlinkOf wRX12_369 (lk_109 hly) (by decide) rfl rfl rfl (Nat.le_trans (by decide) hd) (Nat.le_of_ble_eq_true rfl) ⟨Nat.le_refl _, Nat.le_refl _⟩ dX12_name_181 rfl (sm_monoI h (fun r_23 m_22 h => ?_))
            refine sm_istore0 (Y := mX12_name) (pc := 184) [(8, .int r_23), (6, .long x6_14), (4, .long x4_13), (0, .ref (sm_B E + 109)), (1, .int x1), (2, .int x2), (3, .int x3)] 8 (by decide) rfl dX12_name_184 ?_
            refine sm_iload_n (Y := mX12_name) (pc := 186) 6 3 rfl rfl dX12_name_186 ?_
            refine sm_iconst (Y := mX12_name) (pc := 187) 5 (by decide) dX12_name_187 ?_
            refine sm_icmp_ne (Y := mX12_name) (pc := 188) 196 (by decide) dX12_name_188 (fun hc => ?_) (fun hc => ?_)
            · replace h := h.1 hc
              refine sm_iload (Y := mX12_name) (pc := 196) 0 8 rfl dX12_name_196 ?_
              refine sm_if_ne (Y := mX12_name) (pc := 198) 209 (by decide) dX12_name_198 (fun hc => ?_) (fun hc => ?_)
              · replace h := h.1 hc
                refine sm_aload_n (Y := mX12_name) (pc := 209) 3 0 rfl rfl dX12_name_209 ?_
                refine gf_RX12_373 (Y := mX12_name) (pc := 210) rfl ((lk_109 hly) _) dX12_name_210 ?_
                exact sm_iret (Y := mX12_name) (pc := 213) rfl rfl rfl dX12_name_213 ⟨_, rfl, h⟩
              · replace h := h.2 hc
                refine sm_aload_n (Y := mX12_name) (pc := 201) 3 0 rfl rfl dX12_name_201 ?_
                refine sm_iconst (Y := mX12_name) (pc := 202) 2 (by decide) dX12_name_202 ?_
                refine sm_iv_I (Y := mX12_name) (pc := 203) (As := [.int 2]) (a := 109) fX12_finds wRX12_194 (lk_109 hly) (by decide) rfl rfl rfl (Nat.le_trans (by decide) hd) (Nat.le_of_ble_eq_true rfl) ⟨Nat.le_refl _, Nat.le_refl _⟩ dX12_name_203 rfl (sm_monoI h (fun r_26 m_25 h => ?_))
                refine sm_goto (Y := mX12_name) (pc := 206) 213 (by decide) dX12_name_206 ?_
                exact sm_iret (Y := mX12_name) (pc := 213) rfl rfl rfl dX12_name_213 ⟨_, rfl, h⟩
            · replace h := h.2 hc
              refine sm_iload (Y := mX12_name) (pc := 191) 0 8 rfl dX12_name_191 ?_
              refine sm_goto (Y := mX12_name) (pc := 193) 213 (by decide) dX12_name_193 ?_
              exact sm_iret (Y := mX12_name) (pc := 213) rfl rfl rfl dX12_name_213 ⟨_, rfl, h⟩
          · replace h := h.2 hc
            refine sm_aload_n (Y := mX12_name) (pc := 168) 2 0 rfl rfl dX12_name_168 ?_
            refine sm_bipush (Y := mX12_name) (pc := 169) 6 (by decide) dX12_name_169 ?_
            refine sm_iv_I (Y := mX12_name) (pc := 171) (As := [.int 6]) (a := 109) fX12_finds wRX12_194 (lk_109 hly) (by decide) rfl rfl rfl (Nat.le_trans (by decide) hd) (Nat.le_of_ble_eq_true rfl) ⟨Nat.le_refl _, Nat.le_refl _⟩ dX12_name_171 rfl (sm_monoI h (fun r_28 m_27 h => ?_))
            exact sm_iret (Y := mX12_name) (pc := 174) rfl rfl rfl dX12_name_174 ⟨_, rfl, h⟩
        · replace h := h.2 hc
          refine sm_aload_n (Y := mX12_name) (pc := 41) 0 0 rfl rfl dX12_name_41 ?_
          refine sm_iconst (Y := mX12_name) (pc := 42) 3 (by decide) dX12_name_42 ?_
          refine sm_iv_I (Y := mX12_name) (pc := 43) (As := [.int 3]) (a := 109) fX12_finds wRX12_194 (lk_109 hly) (by decide) rfl rfl rfl (Nat.le_trans (by decide) hd) (Nat.le_of_ble_eq_true rfl) ⟨Nat.le_refl _, Nat.le_refl _⟩ dX12_name_43 rfl (sm_monoI h (fun r_30 m_29 h => ?_))
          exact sm_iret (Y := mX12_name) (pc := 46) rfl rfl rfl dX12_name_46 ⟨_, rfl, h⟩
      · replace h := h.2 hc
        refine sm_aload_n (Y := mX12_name) (pc := 26) 0 0 rfl rfl dX12_name_26 ?_
        refine sm_iconst (Y := mX12_name) (pc := 27) 1 (by decide) dX12_name_27 ?_
        refine sm_iv_I (Y := mX12_name) (pc := 28) (As := [.int 1]) (a := 109) fX12_finds wRX12_194 (lk_109 hly) (by decide) rfl rfl rfl (Nat.le_trans (by decide) hd) (Nat.le_of_ble_eq_true rfl) ⟨Nat.le_refl _, Nat.le_refl _⟩ dX12_name_28 rfl (sm_monoI h (fun r_32 m_31 h => ?_))
        exact sm_iret (Y := mX12_name) (pc := 31) rfl rfl rfl dX12_name_31 ⟨_, rfl, h⟩
