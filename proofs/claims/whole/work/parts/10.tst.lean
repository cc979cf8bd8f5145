abbrev mJ9_abs_0f7a4 : sm_Y := (yJ9_abs_0f7a4, cJ9_abs_0f7a4, 1, (some FieldType.int))
theorem fJ9_abs_0f7a4 : sm_mt mJ9_abs_0f7a4 1 := ⟨sm_in 455 (by decide +kernel) (by decide +kernel), sm_in 454 (by decide +kernel) (by decide +kernel), sm_in 84 (by decide +kernel) (by decide +kernel), ⟨by decide +kernel, by decide +kernel, by decide +kernel⟩, by decide⟩
theorem dJ9_abs_0f7a4_0 : decode cJ9_abs_0f7a4 0 = .ok (.iload_n 0, 1) := by decide +kernel
theorem dJ9_abs_0f7a4_1 : decode cJ9_abs_0f7a4 1 = .ok (.ifCond .ge 8, 3) := by decide +kernel
theorem dJ9_abs_0f7a4_9 : decode cJ9_abs_0f7a4 9 = .ok (.iload_n 0, 1) := by decide +kernel
theorem dJ9_abs_0f7a4_10 : decode cJ9_abs_0f7a4 10 = .ok (.ireturn, 1) := by decide +kernel
theorem dJ9_abs_0f7a4_4 : decode cJ9_abs_0f7a4 4 = .ok (.iload_n 0, 1) := by decide +kernel
theorem dJ9_abs_0f7a4_5 : decode cJ9_abs_0f7a4 5 = .ok (.ineg, 1) := by decide +kernel
theorem dJ9_abs_0f7a4_6 : decode cJ9_abs_0f7a4 6 = .ok (.goto 4, 3) := by decide +kernel
set_option maxRecDepth 20000 in
theorem vJ9_abs_0f7a4_0 {E : sm_E} {L : sm_S → Prop} {d : Nat} {x0 : Int32}  {m : sm_M} {Q : Int32 → sm_M → Prop}  (hd : 1 ≤ d) 
  (h : (0 ≤ x0 →
      Q x0 m) ∧
   (¬ 0 ≤ x0 →
      Q (-x0) m)) :
  sm_callI E L mJ9_abs_0f7a4 d 0 0 [.int x0] m Q := by
  refine sm_enterF (by decide +kernel) (by simp [lg_sl, Value.category]) ?_
  refine sm_iload_n (pc := 0) 0 0 rfl rfl dJ9_abs_0f7a4_0 ?_
  refine sm_if_ge (pc := 1) 9 (by decide) dJ9_abs_0f7a4_1 (fun hc => ?_) (fun hc => ?_)
  · replace h := h.1 hc
    refine sm_iload_n (pc := 9) 0 0 rfl rfl dJ9_abs_0f7a4_9 ?_
    exact sm_iret (pc := 10) rfl rfl rfl dJ9_abs_0f7a4_10 ⟨_, rfl, h⟩
  · replace h := h.2 hc
    refine sm_iload_n (pc := 4) 0 0 rfl rfl dJ9_abs_0f7a4_4 ?_
    refine sm_ineg (pc := 5) dJ9_abs_0f7a4_5 ?_
    refine sm_goto (pc := 6) 10 (by decide) dJ9_abs_0f7a4_6 ?_
    exact sm_iret (pc := 10) rfl rfl rfl dJ9_abs_0f7a4_10 ⟨_, rfl, h⟩
abbrev mX12_divisor : sm_Y := (yX12_divisor, cX12_divisor, 10, (some FieldType.long))
theorem fX12_divisor : sm_mt mX12_divisor 2 := ⟨sm_in 1402 (by decide +kernel) (by decide +kernel), sm_in 1401 (by decide +kernel) (by decide +kernel), sm_in 93 (by decide +kernel) (by decide +kernel), ⟨by decide +kernel, by decide +kernel, by decide +kernel⟩, by decide⟩
def gX12_divisor_28 (E : sm_E) (L : sm_S → Prop) (d : Nat) (vs : List Value) (x4 : Int64) (x6 : Int64) (m : sm_M) (Q : Int64 → sm_M → Prop) : Prop := sm_go E L mX12_divisor d 0 0 vs 28 [(4, .long x4), (6, .long x6)] [] m 0 0 (sm_Z E L vs 0 0 (sm_QJ Q))
def gX12_divisor_12 (E : sm_E) (L : sm_S → Prop) (d : Nat) (vs : List Value) (x2 : Int64) (s0 : Int64) (m : sm_M) (Q : Int64 → sm_M → Prop) : Prop := sm_go E L mX12_divisor d 0 0 vs 12 [(2, .long x2)] [.long s0] m 0 0 (sm_Z E L vs 0 0 (sm_QJ Q))
theorem dX12_divisor_28 : decode cX12_divisor 28 = .ok (.lload 6, 2) := by decide +kernel
theorem dX12_divisor_30 : decode cX12_divisor 30 = .ok (.lconst 0, 1) := by decide +kernel
theorem dX12_divisor_31 : decode cX12_divisor 31 = .ok (.lcmp, 1) := by decide +kernel
theorem dX12_divisor_32 : decode cX12_divisor 32 = .ok (.ifCond .eq 21, 3) := by decide +kernel
theorem dX12_divisor_53 : decode cX12_divisor 53 = .ok (.lload 4, 2) := by decide +kernel
theorem dX12_divisor_55 : decode cX12_divisor 55 = .ok (.lreturn, 1) := by decide +kernel
theorem dX12_divisor_35 : decode cX12_divisor 35 = .ok (.lload 4, 2) := by decide +kernel
theorem dX12_divisor_37 : decode cX12_divisor 37 = .ok (.lload 6, 2) := by decide +kernel
theorem dX12_divisor_39 : decode cX12_divisor 39 = .ok (.lrem, 1) := by decide +kernel
theorem dX12_divisor_40 : decode cX12_divisor 40 = .ok (.lstore 8, 2) := by decide +kernel
theorem dX12_divisor_42 : decode cX12_divisor 42 = .ok (.lload 6, 2) := by decide +kernel
theorem dX12_divisor_44 : decode cX12_divisor 44 = .ok (.lstore 4, 2) := by decide +kernel
theorem dX12_divisor_46 : decode cX12_divisor 46 = .ok (.lload 8, 2) := by decide +kernel
theorem dX12_divisor_48 : decode cX12_divisor 48 = .ok (.lstore 6, 2) := by decide +kernel
theorem dX12_divisor_50 : decode cX12_divisor 50 = .ok (.goto (-22), 3) := by decide +kernel
set_option maxRecDepth 20000 in
theorem vX12_divisor_28 {E : sm_E} {L : sm_S → Prop} {d : Nat} {vs : List Value} {x4 : Int64} {x6 : Int64}  {m : sm_M} {Q : Int64 → sm_M → Prop}  (hd : 1 ≤ d) 
  (h : (x6 = 0 →
      Q x4 m) ∧
   (¬ x6 = 0 →
      (¬ x6 = 0) ∧ ∀ x8_2 : Int64, x8_2 = sm_remL x4 x6 →
      gX12_divisor_28 E L d vs x6 x8_2 m Q)) :
  gX12_divisor_28 E L d vs x4 x6 m Q := by
  refine sm_lload (pc := 28) 1 6 rfl dX12_divisor_28 ?_
  refine sm_lconst (pc := 30) 0 (by decide) dX12_divisor_30 ?_
  refine sm_lif_eq (pc := 31) 53 (by decide) dX12_divisor_31 dX12_divisor_32 (fun hc => ?_) (fun hc => ?_)
  · replace h := h.1 hc
    refine sm_lload (pc := 53) 0 4 rfl dX12_divisor_53 ?_
    exact sm_lret (pc := 55) rfl rfl rfl dX12_divisor_55 ⟨_, rfl, h⟩
  · replace h := h.2 hc
    refine sm_lload (pc := 35) 0 4 rfl dX12_divisor_35 ?_
    refine sm_lload (pc := 37) 1 6 rfl dX12_divisor_37 ?_
    obtain ⟨hn_1, h⟩ := h
    refine sm_lrem (pc := 39) hn_1 dX12_divisor_39 ?_
    refine sm_lstore (pc := 40) (fun y => [(8, .long y), (4, .long x4), (6, .long x6)]) 8 (by decide) (fun _ => rfl) dX12_divisor_40 (fun x8_2 ex8_2 => ?_)
    replace h := h x8_2 ex8_2
    refine sm_lload (pc := 42) 2 6 rfl dX12_divisor_42 ?_
    refine sm_lstore0 (pc := 44) [(4, .long x6), (8, .long x8_2), (6, .long x6)] 4 (by decide) rfl dX12_divisor_44 ?_
    refine sm_lload (pc := 46) 1 8 rfl dX12_divisor_46 ?_
    refine sm_lstore0 (pc := 48) [(6, .long x8_2), (4, .long x6), (8, .long x8_2)] 6 (by decide) rfl dX12_divisor_48 ?_
    refine sm_goto (pc := 50) 28 (by decide) dX12_divisor_50 ?_
    refine sm_sub [1, 0] rfl ?_
    exact h
theorem dX12_divisor_12 : decode cX12_divisor 12 = .ok (.lstore 4, 2) := by decide +kernel
theorem dX12_divisor_14 : decode cX12_divisor 14 = .ok (.lload_n 2, 1) := by decide +kernel
theorem dX12_divisor_15 : decode cX12_divisor 15 = .ok (.lconst 0, 1) := by decide +kernel
theorem dX12_divisor_16 : decode cX12_divisor 16 = .ok (.lcmp, 1) := by decide +kernel
theorem dX12_divisor_17 : decode cX12_divisor 17 = .ok (.ifCond .ge 8, 3) := by decide +kernel
theorem dX12_divisor_25 : decode cX12_divisor 25 = .ok (.lload_n 2, 1) := by decide +kernel
theorem dX12_divisor_26 : decode cX12_divisor 26 = .ok (.lstore 6, 2) := by decide +kernel
theorem dX12_divisor_20 : decode cX12_divisor 20 = .ok (.lload_n 2, 1) := by decide +kernel
theorem dX12_divisor_21 : decode cX12_divisor 21 = .ok (.lneg, 1) := by decide +kernel
theorem dX12_divisor_22 : decode cX12_divisor 22 = .ok (.goto 4, 3) := by decide +kernel
set_option maxRecDepth 20000 in
theorem vX12_divisor_12 {E : sm_E} {L : sm_S → Prop} {d : Nat} {vs : List Value} {x2 : Int64} {s0 : Int64}  {m : sm_M} {Q : Int64 → sm_M → Prop}  (hd : 1 ≤ d) 
  (h : (0 ≤ x2 →
      gX12_divisor_28 E L d vs s0 x2 m Q) ∧
   (¬ 0 ≤ x2 →
      ∀ x6_3 : Int64, x6_3 = -x2 →
      gX12_divisor_28 E L d vs s0 x6_3 m Q)) :
  gX12_divisor_12 E L d vs x2 s0 m Q := by
  refine sm_lstore0 (pc := 12) [(4, .long s0), (2, .long x2)] 4 (by decide) rfl dX12_divisor_12 ?_
  refine sm_lload_n (pc := 14) 1 2 rfl rfl dX12_divisor_14 ?_
  refine sm_lconst (pc := 15) 0 (by decide) dX12_divisor_15 ?_
  refine sm_lif_ge (pc := 16) 25 (by decide) dX12_divisor_16 dX12_divisor_17 (fun hc => ?_) (fun hc => ?_)
  · replace h := h.1 hc
    refine sm_lload_n (pc := 25) 1 2 rfl rfl dX12_divisor_25 ?_
    refine sm_lstore0 (pc := 26) [(6, .long x2), (4, .long s0), (2, .long x2)] 6 (by decide) rfl dX12_divisor_26 ?_
    refine sm_sub [1, 0] rfl ?_
    exact h
  · replace h := h.2 hc
    refine sm_lload_n (pc := 20) 1 2 rfl rfl dX12_divisor_20 ?_
    refine sm_lneg (pc := 21) dX12_divisor_21 ?_
    refine sm_goto (pc := 22) 26 (by decide) dX12_divisor_22 ?_
    refine sm_lstore (pc := 26) (fun y => [(6, .long y), (4, .long s0), (2, .long x2)]) 6 (by decide) (fun _ => rfl) dX12_divisor_26 (fun x6_3 ex6_3 => ?_)
    replace h := h x6_3 ex6_3
    refine sm_sub [1, 0] rfl ?_
    exact h
theorem dX12_divisor_0 : decode cX12_divisor 0 = .ok (.lload_n 0, 1) := by decide +kernel
theorem dX12_divisor_1 : decode cX12_divisor 1 = .ok (.lconst 0, 1) := by decide +kernel
theorem dX12_divisor_2 : decode cX12_divisor 2 = .ok (.lcmp, 1) := by decide +kernel
theorem dX12_divisor_3 : decode cX12_divisor 3 = .ok (.ifCond .ge 8, 3) := by decide +kernel
theorem dX12_divisor_11 : decode cX12_divisor 11 = .ok (.lload_n 0, 1) := by decide +kernel
theorem dX12_divisor_6 : decode cX12_divisor 6 = .ok (.lload_n 0, 1) := by decide +kernel
theorem dX12_divisor_7 : decode cX12_divisor 7 = .ok (.lneg, 1) := by decide +kernel
theorem dX12_divisor_8 : decode cX12_divisor 8 = .ok (.goto 4, 3) := by decide +kernel
set_option maxRecDepth 20000 in
theorem vX12_divisor_0 {E : sm_E} {L : sm_S → Prop} {d : Nat} {x0 : Int64} {x2 : Int64}  {m : sm_M} {Q : Int64 → sm_M → Prop}  (hd : 1 ≤ d) 
  (h : (0 ≤ x0 →
      gX12_divisor_12 E L d ([.long x0, .long x2]) x2 x0 m Q) ∧
   (¬ 0 ≤ x0 →
      gX12_divisor_12 E L d ([.long x0, .long x2]) x2 (-x0) m Q)) :
  sm_callJ E L mX12_divisor d 0 0 [.long x0, .long x2] m Q := by
  refine sm_enter (by decide +kernel) (by simp [lg_sl, Value.category]) ?_
  refine sm_lload_n (pc := 0) 0 0 rfl rfl dX12_divisor_0 ?_
  refine sm_lconst (pc := 1) 0 (by decide) dX12_divisor_1 ?_
  refine sm_lif_ge (pc := 2) 11 (by decide) dX12_divisor_2 dX12_divisor_3 (fun hc => ?_) (fun hc => ?_)
  · replace h := h.1 hc
    refine sm_lload_n (pc := 11) 0 0 rfl rfl dX12_divisor_11 ?_
    refine sm_sub [1] rfl ?_
    exact h
  · replace h := h.2 hc
    refine sm_lload_n (pc := 6) 0 0 rfl rfl dX12_divisor_6 ?_
    refine sm_lneg (pc := 7) dX12_divisor_7 ?_
    refine sm_goto (pc := 8) 12 (by decide) dX12_divisor_8 ?_
    refine sm_sub [1] rfl ?_
    exact h
abbrev mX12_isUnit : sm_Y := (yX12_isUnit, cX12_isUnit, 2, (some FieldType.boolean))
theorem fX12_isUnit : sm_mt mX12_isUnit 1 := ⟨sm_in 1394 (by decide +kernel) (by decide +kernel), sm_in 1393 (by decide +kernel) (by decide +kernel), sm_in 93 (by decide +kernel) (by decide +kernel), ⟨by decide +kernel, by decide +kernel, by decide +kernel⟩, by decide⟩
theorem dX12_isUnit_0 : decode cX12_isUnit 0 = .ok (.lload_n 0, 1) := by decide +kernel
theorem dX12_isUnit_1 : decode cX12_isUnit 1 = .ok (.lconst 1, 1) := by decide +kernel
theorem dX12_isUnit_2 : decode cX12_isUnit 2 = .ok (.lcmp, 1) := by decide +kernel
theorem dX12_isUnit_3 : decode cX12_isUnit 3 = .ok (.ifCond .eq 11, 3) := by decide +kernel
theorem dX12_isUnit_14 : decode cX12_isUnit 14 = .ok (.iconst 1, 1) := by decide +kernel
theorem dX12_isUnit_15 : decode cX12_isUnit 15 = .ok (.goto 4, 3) := by decide +kernel
theorem dX12_isUnit_19 : decode cX12_isUnit 19 = .ok (.ireturn, 1) := by decide +kernel
theorem dX12_isUnit_6 : decode cX12_isUnit 6 = .ok (.lload_n 0, 1) := by decide +kernel
theorem wRX12_136 : Cond.constantLong RX12 136 (-1) ∈ sm_T := sm_in 1395 (by decide +kernel) (by decide +kernel)
theorem dX12_isUnit_7 : decode cX12_isUnit 7 = .ok (.ldc2_w 136, 3) := by decide +kernel
theorem dX12_isUnit_10 : decode cX12_isUnit 10 = .ok (.lcmp, 1) := by decide +kernel
theorem dX12_isUnit_11 : decode cX12_isUnit 11 = .ok (.ifCond .ne 7, 3) := by decide +kernel
theorem dX12_isUnit_18 : decode cX12_isUnit 18 = .ok (.iconst 0, 1) := by decide +kernel
set_option maxRecDepth 20000 in
theorem vX12_isUnit_0 {E : sm_E} {L : sm_S → Prop} {d : Nat} {x0 : Int64}  {m : sm_M} {Q : Int32 → sm_M → Prop}  (hd : 1 ≤ d) 
  (h : (x0 = 1 →
      Q 1 m) ∧
   (¬ x0 = 1 →
      (¬ x0 = (-1) →
         Q 0 m) ∧
      (x0 = (-1) →
         Q 1 m))) :
  sm_callI E L mX12_isUnit d 0 0 [.long x0] m Q := by
  refine sm_enter (by decide +kernel) (by simp [lg_sl, Value.category]) ?_
  refine sm_lload_n (pc := 0) 0 0 rfl rfl dX12_isUnit_0 ?_
  refine sm_lconst (pc := 1) 1 (by decide) dX12_isUnit_1 ?_
  refine sm_lif_eq (pc := 2) 14 (by decide) dX12_isUnit_2 dX12_isUnit_3 (fun hc => ?_) (fun hc => ?_)
  · replace h := h.1 hc
    refine sm_iconst (pc := 14) 1 (by decide) dX12_isUnit_14 ?_
    refine sm_goto (pc := 15) 19 (by decide) dX12_isUnit_15 ?_
    exact sm_zret (pc := 19) rfl (by decide) rfl rfl dX12_isUnit_19 ⟨_, rfl, h⟩
  · replace h := h.2 hc
    refine sm_lload_n (pc := 6) 0 0 rfl rfl dX12_isUnit_6 ?_
    refine sm_ldc2_w (pc := 7) (-1) wRX12_136 dX12_isUnit_7 ?_
    refine sm_lif_ne (pc := 10) 18 (by decide) dX12_isUnit_10 dX12_isUnit_11 (fun hc => ?_) (fun hc => ?_)
    · replace h := h.1 hc
      refine sm_iconst (pc := 18) 0 (by decide) dX12_isUnit_18 ?_
      exact sm_zret (pc := 19) rfl (by decide) rfl rfl dX12_isUnit_19 ⟨_, rfl, h⟩
    · replace h := h.2 hc
      refine sm_iconst (pc := 14) 1 (by decide) dX12_isUnit_14 ?_
      refine sm_goto (pc := 15) 19 (by decide) dX12_isUnit_15 ?_
      exact sm_zret (pc := 19) rfl (by decide) rfl rfl dX12_isUnit_19 ⟨_, rfl, h⟩
abbrev mX8_add : sm_Y := (yX8_add, cX8_add, 2, none)
theorem fX8_add : sm_mi mX8_add RX8 1 := ⟨sm_in 452 (by decide +kernel) (by decide +kernel), sm_in 450 (by decide +kernel) (by decide +kernel), sm_in 451 (by decide +kernel) (by decide +kernel), sm_in 83 (by decide +kernel) (by decide +kernel), rfl, ⟨by decide +kernel, by decide +kernel, by decide +kernel⟩, by decide⟩
theorem dX8_add_0 : decode cX8_add 0 = .ok (.aload_n 0, 1) := by decide +kernel
theorem wRX8_9 : Cond.fieldLink RX8 9 RX8 "size" "I" ∈ sm_T := sm_in 123 (by decide +kernel) (by decide +kernel)
theorem dX8_add_1 : decode cX8_add 1 = .ok (.getfield 9, 3) := by decide +kernel
theorem dX8_add_4 : decode cX8_add 4 = .ok (.aload_n 0, 1) := by decide +kernel
theorem wRX8_49 : Cond.fieldLink RX8 49 RX8 "parts" "[I" ∈ sm_T := sm_in 120 (by decide +kernel) (by decide +kernel)
theorem dX8_add_5 : decode cX8_add 5 = .ok (.getfield 49, 3) := by decide +kernel
theorem dX8_add_8 : decode cX8_add 8 = .ok (.arraylength, 1) := by decide +kernel
theorem dX8_add_9 : decode cX8_add 9 = .ok (.if_icmp .lt 4, 3) := by decide +kernel
theorem dX8_add_13 : decode cX8_add 13 = .ok (.aload_n 0, 1) := by decide +kernel
theorem dX8_add_14 : decode cX8_add 14 = .ok (.getfield 49, 3) := by decide +kernel
theorem dX8_add_17 : decode cX8_add 17 = .ok (.aload_n 0, 1) := by decide +kernel
theorem dX8_add_18 : decode cX8_add 18 = .ok (.getfield 9, 3) := by decide +kernel
theorem dX8_add_21 : decode cX8_add 21 = .ok (.iload_n 1, 1) := by decide +kernel
theorem dX8_add_22 : decode cX8_add 22 = .ok (.iastore, 1) := by decide +kernel
theorem dX8_add_23 : decode cX8_add 23 = .ok (.aload_n 0, 1) := by decide +kernel
theorem dX8_add_24 : decode cX8_add 24 = .ok (.dup, 1) := by decide +kernel
theorem dX8_add_25 : decode cX8_add 25 = .ok (.getfield 9, 3) := by decide +kernel
theorem dX8_add_28 : decode cX8_add 28 = .ok (.iconst 1, 1) := by decide +kernel
theorem dX8_add_29 : decode cX8_add 29 = .ok (.iadd, 1) := by decide +kernel
theorem dX8_add_30 : decode cX8_add 30 = .ok (.putfield 9, 3) := by decide +kernel
theorem dX8_add_33 : decode cX8_add 33 = .ok (.iload_n 1, 1) := by decide +kernel
theorem dX8_add_34 : decode cX8_add 34 = .ok (.bipush 10, 2) := by decide +kernel
theorem dX8_add_36 : decode cX8_add 36 = .ok (.if_icmp .gt 36, 3) := by decide +kernel
theorem dX8_add_72 : decode cX8_add 72 = .ok (.return_, 1) := by decide +kernel
theorem dX8_add_39 : decode cX8_add 39 = .ok (.aload_n 0, 1) := by decide +kernel
theorem dX8_add_40 : decode cX8_add 40 = .ok (.dup, 1) := by decide +kernel
theorem wRX8_15 : Cond.fieldLink RX8 15 RX8 "leaves" "I" ∈ sm_T := sm_in 127 (by decide +kernel) (by decide +kernel)
theorem dX8_add_41 : decode cX8_add 41 = .ok (.getfield 15, 3) := by decide +kernel
theorem dX8_add_44 : decode cX8_add 44 = .ok (.iconst 1, 1) := by decide +kernel
theorem dX8_add_45 : decode cX8_add 45 = .ok (.iadd, 1) := by decide +kernel
theorem dX8_add_46 : decode cX8_add 46 = .ok (.putfield 15, 3) := by decide +kernel
theorem dX8_add_49 : decode cX8_add 49 = .ok (.aload_n 0, 1) := by decide +kernel
theorem dX8_add_50 : decode cX8_add 50 = .ok (.dup, 1) := by decide +kernel
theorem wRX8_18 : Cond.fieldLink RX8 18 RX8 "crossings" "I" ∈ sm_T := sm_in 129 (by decide +kernel) (by decide +kernel)
theorem dX8_add_51 : decode cX8_add 51 = .ok (.getfield 18, 3) := by decide +kernel
theorem dX8_add_54 : decode cX8_add 54 = .ok (.iload_n 1, 1) := by decide +kernel
theorem dX8_add_55 : decode cX8_add 55 = .ok (.bipush 10, 2) := by decide +kernel
theorem dX8_add_57 : decode cX8_add 57 = .ok (.if_icmp .ne 7, 3) := by decide +kernel
theorem dX8_add_64 : decode cX8_add 64 = .ok (.iload_n 1, 1) := by decide +kernel
theorem wRX8_53 : Cond.methodLink RX8 53 yJ9_abs_0f7a4 ∈ sm_T := sm_in 453 (by decide +kernel) (by decide +kernel)
theorem dX8_add_65 : decode cX8_add 65 = .ok (.invokestatic 53, 3) := by decide +kernel
theorem dX8_add_68 : decode cX8_add 68 = .ok (.iadd, 1) := by decide +kernel
theorem dX8_add_69 : decode cX8_add 69 = .ok (.putfield 18, 3) := by decide +kernel
theorem dX8_add_60 : decode cX8_add 60 = .ok (.iconst 0, 1) := by decide +kernel
theorem dX8_add_61 : decode cX8_add 61 = .ok (.goto 7, 3) := by decide +kernel
theorem dX8_add_12 : decode cX8_add 12 = .ok (.return_, 1) := by decide +kernel
set_option maxRecDepth 20000 in
theorem vX8_add_0 {E : sm_E} {L : sm_S → Prop} {d : Nat} {a0 : Nat} {x1 : Int32} {na0 : Nat} {m : sm_M} {Q : sm_M → Prop}  (hd : 2 ≤ d) (hTa0 : sm_tan L a0 na0)
  (h : ((m.1 a0 1) < (nI na0) →
      (vp_in (m.1 a0 1) na0) ∧ ∀ m_1 : sm_M, m_1 = sm_wI m (a0 + 1) (m.1 a0 1).toNatClampNeg x1 →
      ∀ m_3 : sm_M, m_3 = sm_wI m_1 a0 1 ((m_1.1 a0 1) + 1) →
      (10 < x1 →
         Q m_3) ∧
      (¬ 10 < x1 →
         ∀ m_4 : sm_M, m_4 = sm_wI m_3 a0 2 ((m_3.1 a0 2) + 1) →
         (¬ x1 = 10 →
            sm_callI E L mJ9_abs_0f7a4 1 0 0 [.int x1] m_4 (fun r_6 m_5 =>
            ∀ m_7 : sm_M, m_7 = sm_wI m_5 a0 3 ((m_4.1 a0 3) + r_6) →
            Q m_7)) ∧
         (x1 = 10 →
            ∀ m_8 : sm_M, m_8 = sm_wI m_4 a0 3 ((m_4.1 a0 3) + 0) →
            Q m_8))) ∧
   (¬ (m.1 a0 1) < (nI na0) →
      Q m)) :
  sm_callV E L mX8_add d 0 0 [.ref (sm_B E + a0), .int x1] m Q := by
  refine sm_enter (by decide +kernel) (by simp [lg_sl, Value.category]) ?_
  refine sm_aload_n (pc := 0) 0 0 rfl rfl dX8_add_0 ?_
  refine sm_getI (pc := 1) (k := 1) ((fun S hS => (hTa0 S hS).1) _) (by decide) rfl (by decide) rfl rfl wRX8_9 dX8_add_1 ?_
  refine sm_aload_n (pc := 4) 0 0 rfl rfl dX8_add_4 ?_
  refine sm_getR (pc := 5) (k := 0) (b := a0 + 1) ((fun S hS => (hTa0 S hS).1) _) (fun hS => (hTa0 _ hS).2.1) (by decide) rfl (by decide) rfl rfl wRX8_49 dX8_add_5 ?_
  refine sm_alenI (pc := 8) (fun hS => (hTa0 _ hS).2.2) dX8_add_8 ?_
  refine sm_icmp_lt (pc := 9) 13 (by decide) dX8_add_9 (fun hc => ?_) (fun hc => ?_)
  · replace h := h.1 hc
    refine sm_aload_n (pc := 13) 0 0 rfl rfl dX8_add_13 ?_
    refine sm_getR (pc := 14) (k := 0) (b := a0 + 1) ((fun S hS => (hTa0 S hS).1) _) (fun hS => (hTa0 _ hS).2.1) (by decide) rfl (by decide) rfl rfl wRX8_49 dX8_add_14 ?_
    refine sm_aload_n (pc := 17) 0 0 rfl rfl dX8_add_17 ?_
    refine sm_getI (pc := 18) (k := 1) ((fun S hS => (hTa0 S hS).1) _) (by decide) rfl (by decide) rfl rfl wRX8_9 dX8_add_18 ?_
    refine sm_iload_n (pc := 21) 1 1 rfl rfl dX8_add_21 ?_
    obtain ⟨hn_2, h⟩ := h
    refine sm_iast (pc := 22) (fun hS => (hTa0 _ hS).2.2) hn_2 dX8_add_22 (fun m_1 em_1 => ?_)
    replace h := h m_1 em_1
    refine sm_aload_n (pc := 23) 0 0 rfl rfl dX8_add_23 ?_
    refine sm_dup (pc := 24) rfl dX8_add_24 ?_
    refine sm_getI (pc := 25) (k := 1) ((fun S hS => (hTa0 S hS).1) _) (by decide) rfl (by decide) rfl rfl wRX8_9 dX8_add_25 ?_
    refine sm_iconst (pc := 28) 1 (by decide) dX8_add_28 ?_
    refine sm_iadd (pc := 29) dX8_add_29 ?_
    refine sm_putI (pc := 30) (k := 1) ((fun S hS => (hTa0 S hS).1) _) (by decide) rfl (by decide) rfl rfl wRX8_9 rfl (by decide +kernel) dX8_add_30 (fun m_3 em_3 => ?_)
    replace h := h m_3 em_3
    refine sm_iload_n (pc := 33) 1 1 rfl rfl dX8_add_33 ?_
    refine sm_bipush (pc := 34) 10 (by decide) dX8_add_34 ?_
    refine sm_icmp_gt (pc := 36) 72 (by decide) dX8_add_36 (fun hc => ?_) (fun hc => ?_)
    · replace h := h.1 hc
      exact sm_vret (pc := 72) rfl rfl rfl dX8_add_72 ⟨rfl, h⟩
    · replace h := h.2 hc
      refine sm_aload_n (pc := 39) 0 0 rfl rfl dX8_add_39 ?_
      refine sm_dup (pc := 40) rfl dX8_add_40 ?_
      refine sm_getI (pc := 41) (k := 2) ((fun S hS => (hTa0 S hS).1) _) (by decide) rfl (by decide) rfl rfl wRX8_15 dX8_add_41 ?_
      refine sm_iconst (pc := 44) 1 (by decide) dX8_add_44 ?_
      refine sm_iadd (pc := 45) dX8_add_45 ?_
      refine sm_putI (pc := 46) (k := 2) ((fun S hS => (hTa0 S hS).1) _) (by decide) rfl (by decide) rfl rfl wRX8_15 rfl (by decide +kernel) dX8_add_46 (fun m_4 em_4 => ?_)
      replace h := h m_4 em_4
      refine sm_aload_n (pc := 49) 0 0 rfl rfl dX8_add_49 ?_
      refine sm_dup (pc := 50) rfl dX8_add_50 ?_
      refine sm_getI (pc := 51) (k := 3) ((fun S hS => (hTa0 S hS).1) _) (by decide) rfl (by decide) rfl rfl wRX8_18 dX8_add_51 ?_
      refine sm_iload_n (pc := 54) 1 1 rfl rfl dX8_add_54 ?_
      refine sm_bipush (pc := 55) 10 (by decide) dX8_add_55 ?_
      refine sm_icmp_ne (pc := 57) 64 (by decide) dX8_add_57 (fun hc => ?_) (fun hc => ?_)
      · replace h := h.1 hc
        refine sm_iload_n (pc := 64) 1 1 rfl rfl dX8_add_64 ?_
        refine sm_is_I (pc := 65) (As := [.int x1]) fJ9_abs_0f7a4 wRX8_53 rfl (by omega) (Nat.le_of_ble_eq_true rfl) ⟨by omega, by omega⟩ dX8_add_65 rfl (sm_monoI h (fun r_6 m_5 h => ?_))
        refine sm_iadd (pc := 68) dX8_add_68 ?_
        refine sm_putI (pc := 69) (k := 3) ((fun S hS => (hTa0 S hS).1) _) (by decide) rfl (by decide) rfl rfl wRX8_18 rfl (by decide +kernel) dX8_add_69 (fun m_7 em_7 => ?_)
        replace h := h m_7 em_7
        exact sm_vret (pc := 72) rfl rfl rfl dX8_add_72 ⟨rfl, h⟩
      · replace h := h.2 hc
        refine sm_iconst (pc := 60) 0 (by decide) dX8_add_60 ?_
        refine sm_goto (pc := 61) 68 (by decide) dX8_add_61 ?_
        refine sm_iadd (pc := 68) dX8_add_68 ?_
        refine sm_putI (pc := 69) (k := 3) ((fun S hS => (hTa0 S hS).1) _) (by decide) rfl (by decide) rfl rfl wRX8_18 rfl (by decide +kernel) dX8_add_69 (fun m_8 em_8 => ?_)
        replace h := h m_8 em_8
        exact sm_vret (pc := 72) rfl rfl rfl dX8_add_72 ⟨rfl, h⟩
  · replace h := h.2 hc
    exact sm_vret (pc := 12) rfl rfl rfl dX8_add_12 ⟨rfl, h⟩
