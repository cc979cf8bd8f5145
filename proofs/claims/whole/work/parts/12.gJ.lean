abbrev mJ9_floorDiv_f86c9 : sm_Y := (yJ9_floorDiv_f86c9, cJ9_floorDiv_f86c9, 6, (some FieldType.long))
theorem fJ9_floorDiv_f86c9 : sm_mt mJ9_floorDiv_f86c9 2 := ⟨sm_in 675 (by decide +kernel) (by decide +kernel), sm_in 674 (by decide +kernel) (by decide +kernel), sm_in 84 (by decide +kernel) (by decide +kernel), ⟨by decide +kernel, by decide +kernel, by decide +kernel⟩, by decide⟩
theorem dJ9_floorDiv_f86c9_0 : decode cJ9_floorDiv_f86c9 0 = .ok (.lload_n 0, 1) := dk_lload_n_0 (by decide +kernel)
theorem dJ9_floorDiv_f86c9_1 : decode cJ9_floorDiv_f86c9 1 = .ok (.lload_n 2, 1) := dk_lload_n_2 (by decide +kernel)
theorem dJ9_floorDiv_f86c9_2 : decode cJ9_floorDiv_f86c9 2 = .ok (.ldiv, 1) := dk_ldiv (by decide +kernel)
theorem dJ9_floorDiv_f86c9_3 : decode cJ9_floorDiv_f86c9 3 = .ok (.lstore 4, 2) := dk_lstore 4 (b := 4) (by decide +kernel) (by decide +kernel) (by decide +kernel)
theorem dJ9_floorDiv_f86c9_5 : decode cJ9_floorDiv_f86c9 5 = .ok (.lload_n 0, 1) := dk_lload_n_0 (by decide +kernel)
theorem dJ9_floorDiv_f86c9_6 : decode cJ9_floorDiv_f86c9 6 = .ok (.lload_n 2, 1) := dk_lload_n_2 (by decide +kernel)
theorem dJ9_floorDiv_f86c9_7 : decode cJ9_floorDiv_f86c9 7 = .ok (.lxor, 1) := dk_lxor (by decide +kernel)
theorem dJ9_floorDiv_f86c9_8 : decode cJ9_floorDiv_f86c9 8 = .ok (.lconst 0, 1) := dk_lconst_0 (by decide +kernel)
theorem dJ9_floorDiv_f86c9_9 : decode cJ9_floorDiv_f86c9 9 = .ok (.lcmp, 1) := dk_lcmp (by decide +kernel)
theorem dJ9_floorDiv_f86c9_10 : decode cJ9_floorDiv_f86c9 10 = .ok (.ifCond .ge 17, 3) := dk_ifCond_ge 17 (b1 := 0) (b2 := 17) (by decide +kernel) (by decide +kernel) (by decide +kernel) (by decide +kernel)
theorem dJ9_floorDiv_f86c9_27 : decode cJ9_floorDiv_f86c9 27 = .ok (.lload 4, 2) := dk_lload 4 (b := 4) (by decide +kernel) (by decide +kernel) (by decide +kernel)
theorem dJ9_floorDiv_f86c9_29 : decode cJ9_floorDiv_f86c9 29 = .ok (.lreturn, 1) := dk_lreturn (by decide +kernel)
theorem dJ9_floorDiv_f86c9_13 : decode cJ9_floorDiv_f86c9 13 = .ok (.lload 4, 2) := dk_lload 4 (b := 4) (by decide +kernel) (by decide +kernel) (by decide +kernel)
theorem dJ9_floorDiv_f86c9_15 : decode cJ9_floorDiv_f86c9 15 = .ok (.lload_n 2, 1) := dk_lload_n_2 (by decide +kernel)
theorem dJ9_floorDiv_f86c9_16 : decode cJ9_floorDiv_f86c9 16 = .ok (.lmul, 1) := dk_lmul (by decide +kernel)
theorem dJ9_floorDiv_f86c9_17 : decode cJ9_floorDiv_f86c9 17 = .ok (.lload_n 0, 1) := dk_lload_n_0 (by decide +kernel)
theorem dJ9_floorDiv_f86c9_18 : decode cJ9_floorDiv_f86c9 18 = .ok (.lcmp, 1) := dk_lcmp (by decide +kernel)
theorem dJ9_floorDiv_f86c9_19 : decode cJ9_floorDiv_f86c9 19 = .ok (.ifCond .eq 8, 3) := dk_ifCond_eq 8 (b1 := 0) (b2 := 8) (by decide +kernel) (by decide +kernel) (by decide +kernel) (by decide +kernel)
theorem dJ9_floorDiv_f86c9_22 : decode cJ9_floorDiv_f86c9 22 = .ok (.lload 4, 2) := dk_lload 4 (b := 4) (by decide +kernel) (by decide +kernel) (by decide +kernel)
theorem dJ9_floorDiv_f86c9_24 : decode cJ9_floorDiv_f86c9 24 = .ok (.lconst 1, 1) := dk_lconst_1 (by decide +kernel)
theorem dJ9_floorDiv_f86c9_25 : decode cJ9_floorDiv_f86c9 25 = .ok (.lsub, 1) := dk_lsub (by decide +kernel)
theorem dJ9_floorDiv_f86c9_26 : decode cJ9_floorDiv_f86c9 26 = .ok (.lreturn, 1) := dk_lreturn (by decide +kernel)
set_option maxRecDepth 20000 in
theorem vJ9_floorDiv_f86c9_0 {E : sm_E} {L : sm_S → Prop} {d : Nat} {x0 : Int64} {x2 : Int64}  {m : sm_M} {Q : Int64 → sm_M → Prop}  (hd : 1 ≤ d) 
  (h : (¬ x2 = 0) ∧ ∀ x4_2 : Int64, x4_2 = x0 / x2 →
   (0 ≤ (x0 ^^^ x2) →
      Q x4_2 m) ∧
   (¬ 0 ≤ (x0 ^^^ x2) →
      ((x4_2 * x2) = x0 →
         Q x4_2 m) ∧
      (¬ (x4_2 * x2) = x0 →
         Q (x4_2 - 1) m))) :
  sm_callJ E L mJ9_floorDiv_f86c9 d 0 0 [.long x0, .long x2] m Q := by
  refine sm_enterF (by decide +kernel) (by simp [lg_sl, Value.category]) ?_
  refine sm_lload_n (Y := mJ9_floorDiv_f86c9) (pc := 0) 0 0 rfl rfl dJ9_floorDiv_f86c9_0 ?_
  refine sm_lload_n (Y := mJ9_floorDiv_f86c9) (pc := 1) 1 2 rfl rfl dJ9_floorDiv_f86c9_1 ?_
  obtain ⟨hn_1, h⟩ := h
  refine sm_ldiv (Y := mJ9_floorDiv_f86c9) (pc := 2) hn_1 dJ9_floorDiv_f86c9_2 ?_
  refine sm_lstore (Y := mJ9_floorDiv_f86c9) (pc := 3) (fun y => [(4, .long y), (0, .long x0), (2, .long x2)]) 4 (by decide) (fun _ => rfl) dJ9_floorDiv_f86c9_3 (fun x4_2 ex4_2 => ?_)
  replace h := h x4_2 ex4_2
  refine sm_lload_n (Y := mJ9_floorDiv_f86c9) (pc := 5) 1 0 rfl rfl dJ9_floorDiv_f86c9_5 ?_
  refine sm_lload_n (Y := mJ9_floorDiv_f86c9) (pc := 6) 2 2 rfl rfl dJ9_floorDiv_f86c9_6 ?_
  refine sm_lxor (Y := mJ9_floorDiv_f86c9) (pc := 7) dJ9_floorDiv_f86c9_7 ?_
  refine sm_lconst (Y := mJ9_floorDiv_f86c9) (pc := 8) 0 (by decide) dJ9_floorDiv_f86c9_8 ?_
  refine sm_lif_ge (Y := mJ9_floorDiv_f86c9) (pc := 9) 27 (by decide) dJ9_floorDiv_f86c9_9 dJ9_floorDiv_f86c9_10 (fun hc => ?_) (fun hc => ?_)
  · replace h := h.1 hc
    refine sm_lload (Y := mJ9_floorDiv_f86c9) (pc := 27) 0 4 rfl dJ9_floorDiv_f86c9_27 ?_
    exact sm_lret (Y := mJ9_floorDiv_f86c9) (pc := 29) rfl rfl rfl dJ9_floorDiv_f86c9_29 ⟨_, rfl, h⟩
  · replace h := h.2 hc
    refine sm_lload (Y := mJ9_floorDiv_f86c9) (pc := 13) 0 4 rfl dJ9_floorDiv_f86c9_13 ?_
    refine sm_lload_n (Y := mJ9_floorDiv_f86c9) (pc := 15) 2 2 rfl rfl dJ9_floorDiv_f86c9_15 ?_
    refine sm_lmul (Y := mJ9_floorDiv_f86c9) (pc := 16) dJ9_floorDiv_f86c9_16 ?_
    refine sm_lload_n (Y := mJ9_floorDiv_f86c9) (pc := 17) 1 0 rfl rfl dJ9_floorDiv_f86c9_17 ?_
    refine sm_lif_eq (Y := mJ9_floorDiv_f86c9) (pc := 18) 27 (by decide) dJ9_floorDiv_f86c9_18 dJ9_floorDiv_f86c9_19 (fun hc => ?_) (fun hc => ?_)
    · replace h := h.1 hc
      refine sm_lload (Y := mJ9_floorDiv_f86c9) (pc := 27) 0 4 rfl dJ9_floorDiv_f86c9_27 ?_
      exact sm_lret (Y := mJ9_floorDiv_f86c9) (pc := 29) rfl rfl rfl dJ9_floorDiv_f86c9_29 ⟨_, rfl, h⟩
    · replace h := h.2 hc
      refine sm_lload (Y := mJ9_floorDiv_f86c9) (pc := 22) 0 4 rfl dJ9_floorDiv_f86c9_22 ?_
      refine sm_lconst (Y := mJ9_floorDiv_f86c9) (pc := 24) 1 (by decide) dJ9_floorDiv_f86c9_24 ?_
      refine sm_lsub (Y := mJ9_floorDiv_f86c9) (pc := 25) dJ9_floorDiv_f86c9_25 ?_
      exact sm_lret (Y := mJ9_floorDiv_f86c9) (pc := 26) rfl rfl rfl dJ9_floorDiv_f86c9_26 ⟨_, rfl, h⟩
abbrev mJ9_floorMod_7cf53 : sm_Y := (yJ9_floorMod_7cf53, cJ9_floorMod_7cf53, 3, (some FieldType.int))
theorem fJ9_floorMod_7cf53 : sm_mt mJ9_floorMod_7cf53 2 := ⟨sm_in 910 (by decide +kernel) (by decide +kernel), sm_in 909 (by decide +kernel) (by decide +kernel), sm_in 84 (by decide +kernel) (by decide +kernel), ⟨by decide +kernel, by decide +kernel, by decide +kernel⟩, by decide⟩
theorem dJ9_floorMod_7cf53_0 : decode cJ9_floorMod_7cf53 0 = .ok (.iload_n 0, 1) := dk_iload_n_0 (by decide +kernel)
theorem dJ9_floorMod_7cf53_1 : decode cJ9_floorMod_7cf53 1 = .ok (.iload_n 1, 1) := dk_iload_n_1 (by decide +kernel)
theorem dJ9_floorMod_7cf53_2 : decode cJ9_floorMod_7cf53 2 = .ok (.irem, 1) := dk_irem (by decide +kernel)
theorem dJ9_floorMod_7cf53_3 : decode cJ9_floorMod_7cf53 3 = .ok (.istore_n 2, 1) := dk_istore_n_2 (by decide +kernel)
theorem dJ9_floorMod_7cf53_4 : decode cJ9_floorMod_7cf53 4 = .ok (.iload_n 0, 1) := dk_iload_n_0 (by decide +kernel)
theorem dJ9_floorMod_7cf53_5 : decode cJ9_floorMod_7cf53 5 = .ok (.iload_n 1, 1) := dk_iload_n_1 (by decide +kernel)
theorem dJ9_floorMod_7cf53_6 : decode cJ9_floorMod_7cf53 6 = .ok (.ixor, 1) := dk_ixor (by decide +kernel)
theorem dJ9_floorMod_7cf53_7 : decode cJ9_floorMod_7cf53 7 = .ok (.ifCond .ge 11, 3) := dk_ifCond_ge 11 (b1 := 0) (b2 := 11) (by decide +kernel) (by decide +kernel) (by decide +kernel) (by decide +kernel)
theorem dJ9_floorMod_7cf53_18 : decode cJ9_floorMod_7cf53 18 = .ok (.iload_n 2, 1) := dk_iload_n_2 (by decide +kernel)
theorem dJ9_floorMod_7cf53_19 : decode cJ9_floorMod_7cf53 19 = .ok (.ireturn, 1) := dk_ireturn (by decide +kernel)
theorem dJ9_floorMod_7cf53_10 : decode cJ9_floorMod_7cf53 10 = .ok (.iload_n 2, 1) := dk_iload_n_2 (by decide +kernel)
theorem dJ9_floorMod_7cf53_11 : decode cJ9_floorMod_7cf53 11 = .ok (.ifCond .eq 7, 3) := dk_ifCond_eq 7 (b1 := 0) (b2 := 7) (by decide +kernel) (by decide +kernel) (by decide +kernel) (by decide +kernel)
theorem dJ9_floorMod_7cf53_14 : decode cJ9_floorMod_7cf53 14 = .ok (.iload_n 2, 1) := dk_iload_n_2 (by decide +kernel)
theorem dJ9_floorMod_7cf53_15 : decode cJ9_floorMod_7cf53 15 = .ok (.iload_n 1, 1) := dk_iload_n_1 (by decide +kernel)
theorem dJ9_floorMod_7cf53_16 : decode cJ9_floorMod_7cf53 16 = .ok (.iadd, 1) := dk_iadd (by decide +kernel)
theorem dJ9_floorMod_7cf53_17 : decode cJ9_floorMod_7cf53 17 = .ok (.ireturn, 1) := dk_ireturn (by decide +kernel)
set_option maxRecDepth 20000 in
theorem vJ9_floorMod_7cf53_0 {E : sm_E} {L : sm_S → Prop} {d : Nat} {x0 : Int32} {x1 : Int32}  {m : sm_M} {Q : Int32 → sm_M → Prop}  (hd : 1 ≤ d) 
  (h : (¬ x1 = 0) ∧ ∀ x2_2 : Int32, x2_2 = sm_rem x0 x1 →
   (0 ≤ (x0 ^^^ x1) →
      Q x2_2 m) ∧
   (¬ 0 ≤ (x0 ^^^ x1) →
      (x2_2 = 0 →
         Q x2_2 m) ∧
      (¬ x2_2 = 0 →
         Q (x2_2 + x1) m))) :
  sm_callI E L mJ9_floorMod_7cf53 d 0 0 [.int x0, .int x1] m Q := by
  refine sm_enterF (by decide +kernel) (by simp [lg_sl, Value.category]) ?_
  refine sm_iload_n (Y := mJ9_floorMod_7cf53) (pc := 0) 0 0 rfl rfl dJ9_floorMod_7cf53_0 ?_
  refine sm_iload_n (Y := mJ9_floorMod_7cf53) (pc := 1) 1 1 rfl rfl dJ9_floorMod_7cf53_1 ?_
  obtain ⟨hn_1, h⟩ := h
  refine sm_irem (Y := mJ9_floorMod_7cf53) (pc := 2) hn_1 dJ9_floorMod_7cf53_2 ?_
  refine sm_istore_n (Y := mJ9_floorMod_7cf53) (pc := 3) (fun y => [(2, .int y), (0, .int x0), (1, .int x1)]) 2 rfl (by decide) (fun _ => rfl) dJ9_floorMod_7cf53_3 (fun x2_2 ex2_2 => ?_)
  replace h := h x2_2 ex2_2
  refine sm_iload_n (Y := mJ9_floorMod_7cf53) (pc := 4) 1 0 rfl rfl dJ9_floorMod_7cf53_4 ?_
  refine sm_iload_n (Y := mJ9_floorMod_7cf53) (pc := 5) 2 1 rfl rfl dJ9_floorMod_7cf53_5 ?_
  refine sm_ixor (Y := mJ9_floorMod_7cf53) (pc := 6) dJ9_floorMod_7cf53_6 ?_
  refine sm_if_ge (Y := mJ9_floorMod_7cf53) (pc := 7) 18 (by decide) dJ9_floorMod_7cf53_7 (fun hc => ?_) (fun hc => ?_)
  · replace h := h.1 hc
    refine sm_iload_n (Y := mJ9_floorMod_7cf53) (pc := 18) 0 2 rfl rfl dJ9_floorMod_7cf53_18 ?_
    exact sm_iret (Y := mJ9_floorMod_7cf53) (pc := 19) rfl rfl rfl dJ9_floorMod_7cf53_19 ⟨_, rfl, h⟩
  · replace h := h.2 hc
    refine sm_iload_n (Y := mJ9_floorMod_7cf53) (pc := 10) 0 2 rfl rfl dJ9_floorMod_7cf53_10 ?_
    refine sm_if_eq (Y := mJ9_floorMod_7cf53) (pc := 11) 18 (by decide) dJ9_floorMod_7cf53_11 (fun hc => ?_) (fun hc => ?_)
    · replace h := h.1 hc
      refine sm_iload_n (Y := mJ9_floorMod_7cf53) (pc := 18) 0 2 rfl rfl dJ9_floorMod_7cf53_18 ?_
      exact sm_iret (Y := mJ9_floorMod_7cf53) (pc := 19) rfl rfl rfl dJ9_floorMod_7cf53_19 ⟨_, rfl, h⟩
    · replace h := h.2 hc
      refine sm_iload_n (Y := mJ9_floorMod_7cf53) (pc := 14) 0 2 rfl rfl dJ9_floorMod_7cf53_14 ?_
      refine sm_iload_n (Y := mJ9_floorMod_7cf53) (pc := 15) 2 1 rfl rfl dJ9_floorMod_7cf53_15 ?_
      refine sm_iadd (Y := mJ9_floorMod_7cf53) (pc := 16) dJ9_floorMod_7cf53_16 ?_
      exact sm_iret (Y := mJ9_floorMod_7cf53) (pc := 17) rfl rfl rfl dJ9_floorMod_7cf53_17 ⟨_, rfl, h⟩
abbrev mJ9_abs_0f7a4 : sm_Y := (yJ9_abs_0f7a4, cJ9_abs_0f7a4, 1, (some FieldType.int))
theorem fJ9_abs_0f7a4 : sm_mt mJ9_abs_0f7a4 1 := ⟨sm_in 455 (by decide +kernel) (by decide +kernel), sm_in 454 (by decide +kernel) (by decide +kernel), sm_in 84 (by decide +kernel) (by decide +kernel), ⟨by decide +kernel, by decide +kernel, by decide +kernel⟩, by decide⟩
theorem dJ9_abs_0f7a4_0 : decode cJ9_abs_0f7a4 0 = .ok (.iload_n 0, 1) := dk_iload_n_0 (by decide +kernel)
theorem dJ9_abs_0f7a4_1 : decode cJ9_abs_0f7a4 1 = .ok (.ifCond .ge 8, 3) := dk_ifCond_ge 8 (b1 := 0) (b2 := 8) (by decide +kernel) (by decide +kernel) (by decide +kernel) (by decide +kernel)
theorem dJ9_abs_0f7a4_9 : decode cJ9_abs_0f7a4 9 = .ok (.iload_n 0, 1) := dk_iload_n_0 (by decide +kernel)
theorem dJ9_abs_0f7a4_10 : decode cJ9_abs_0f7a4 10 = .ok (.ireturn, 1) := dk_ireturn (by decide +kernel)
theorem dJ9_abs_0f7a4_4 : decode cJ9_abs_0f7a4 4 = .ok (.iload_n 0, 1) := dk_iload_n_0 (by decide +kernel)
theorem dJ9_abs_0f7a4_5 : decode cJ9_abs_0f7a4 5 = .ok (.ineg, 1) := dk_ineg (by decide +kernel)
theorem dJ9_abs_0f7a4_6 : decode cJ9_abs_0f7a4 6 = .ok (.goto 4, 3) := dk_goto 4 (b1 := 0) (b2 := 4) (by decide +kernel) (by decide +kernel) (by decide +kernel) (by decide +kernel)
set_option maxRecDepth 20000 in
theorem vJ9_abs_0f7a4_0 {E : sm_E} {L : sm_S → Prop} {d : Nat} {x0 : Int32}  {m : sm_M} {Q : Int32 → sm_M → Prop}  (hd : 1 ≤ d) 
  (h : (0 ≤ x0 →
      Q x0 m) ∧
   (¬ 0 ≤ x0 →
      Q (-x0) m)) :
  sm_callI E L mJ9_abs_0f7a4 d 0 0 [.int x0] m Q := by
  refine sm_enterF (by decide +kernel) (by simp [lg_sl, Value.category]) ?_
  refine sm_iload_n (Y := mJ9_abs_0f7a4) (pc := 0) 0 0 rfl rfl dJ9_abs_0f7a4_0 ?_
  refine sm_if_ge (Y := mJ9_abs_0f7a4) (pc := 1) 9 (by decide) dJ9_abs_0f7a4_1 (fun hc => ?_) (fun hc => ?_)
  · replace h := h.1 hc
    refine sm_iload_n (Y := mJ9_abs_0f7a4) (pc := 9) 0 0 rfl rfl dJ9_abs_0f7a4_9 ?_
    exact sm_iret (Y := mJ9_abs_0f7a4) (pc := 10) rfl rfl rfl dJ9_abs_0f7a4_10 ⟨_, rfl, h⟩
  · replace h := h.2 hc
    refine sm_iload_n (Y := mJ9_abs_0f7a4) (pc := 4) 0 0 rfl rfl dJ9_abs_0f7a4_4 ?_
    refine sm_ineg (Y := mJ9_abs_0f7a4) (pc := 5) dJ9_abs_0f7a4_5 ?_
    refine sm_goto (Y := mJ9_abs_0f7a4) (pc := 6) 10 (by decide) dJ9_abs_0f7a4_6 ?_
    exact sm_iret (Y := mJ9_abs_0f7a4) (pc := 10) rfl rfl rfl dJ9_abs_0f7a4_10 ⟨_, rfl, h⟩
abbrev mJ9_abs_067f4 : sm_Y := (yJ9_abs_067f4, cJ9_abs_067f4, 2, (some FieldType.long))
theorem fJ9_abs_067f4 : sm_mt mJ9_abs_067f4 1 := ⟨sm_in 679 (by decide +kernel) (by decide +kernel), sm_in 678 (by decide +kernel) (by decide +kernel), sm_in 84 (by decide +kernel) (by decide +kernel), ⟨by decide +kernel, by decide +kernel, by decide +kernel⟩, by decide⟩
theorem dJ9_abs_067f4_0 : decode cJ9_abs_067f4 0 = .ok (.lload_n 0, 1) := dk_lload_n_0 (by decide +kernel)
theorem dJ9_abs_067f4_1 : decode cJ9_abs_067f4 1 = .ok (.lconst 0, 1) := dk_lconst_0 (by decide +kernel)
theorem dJ9_abs_067f4_2 : decode cJ9_abs_067f4 2 = .ok (.lcmp, 1) := dk_lcmp (by decide +kernel)
theorem dJ9_abs_067f4_3 : decode cJ9_abs_067f4 3 = .ok (.ifCond .ge 8, 3) := dk_ifCond_ge 8 (b1 := 0) (b2 := 8) (by decide +kernel) (by decide +kernel) (by decide +kernel) (by decide +kernel)
theorem dJ9_abs_067f4_11 : decode cJ9_abs_067f4 11 = .ok (.lload_n 0, 1) := dk_lload_n_0 (by decide +kernel)
theorem dJ9_abs_067f4_12 : decode cJ9_abs_067f4 12 = .ok (.lreturn, 1) := dk_lreturn (by decide +kernel)
theorem dJ9_abs_067f4_6 : decode cJ9_abs_067f4 6 = .ok (.lload_n 0, 1) := dk_lload_n_0 (by decide +kernel)
theorem dJ9_abs_067f4_7 : decode cJ9_abs_067f4 7 = .ok (.lneg, 1) := dk_lneg (by decide +kernel)
theorem dJ9_abs_067f4_8 : decode cJ9_abs_067f4 8 = .ok (.goto 4, 3) := dk_goto 4 (b1 := 0) (b2 := 4) (by decide +kernel) (by decide +kernel) (by decide +kernel) (by decide +kernel)
set_option maxRecDepth 20000 in
theorem vJ9_abs_067f4_0 {E : sm_E} {L : sm_S → Prop} {d : Nat} {x0 : Int64}  {m : sm_M} {Q : Int64 → sm_M → Prop}  (hd : 1 ≤ d) 
  (h : (0 ≤ x0 →
      Q x0 m) ∧
   (¬ 0 ≤ x0 →
      Q (-x0) m)) :
  sm_callJ E L mJ9_abs_067f4 d 0 0 [.long x0] m Q := by
  refine sm_enterF (by decide +kernel) (by simp [lg_sl, Value.category]) ?_
  refine sm_lload_n (Y := mJ9_abs_067f4) (pc := 0) 0 0 rfl rfl dJ9_abs_067f4_0 ?_
  refine sm_lconst (Y := mJ9_abs_067f4) (pc := 1) 0 (by decide) dJ9_abs_067f4_1 ?_
  refine sm_lif_ge (Y := mJ9_abs_067f4) (pc := 2) 11 (by decide) dJ9_abs_067f4_2 dJ9_abs_067f4_3 (fun hc => ?_) (fun hc => ?_)
  · replace h := h.1 hc
    refine sm_lload_n (Y := mJ9_abs_067f4) (pc := 11) 0 0 rfl rfl dJ9_abs_067f4_11 ?_
    exact sm_lret (Y := mJ9_abs_067f4) (pc := 12) rfl rfl rfl dJ9_abs_067f4_12 ⟨_, rfl, h⟩
  · replace h := h.2 hc
    refine sm_lload_n (Y := mJ9_abs_067f4) (pc := 6) 0 0 rfl rfl dJ9_abs_067f4_6 ?_
    refine sm_lneg (Y := mJ9_abs_067f4) (pc := 7) dJ9_abs_067f4_7 ?_
    refine sm_goto (Y := mJ9_abs_067f4) (pc := 8) 12 (by decide) dJ9_abs_067f4_8 ?_
    exact sm_lret (Y := mJ9_abs_067f4) (pc := 12) rfl rfl rfl dJ9_abs_067f4_12 ⟨_, rfl, h⟩
abbrev mJ9_max_7cf53 : sm_Y := (yJ9_max_7cf53, cJ9_max_7cf53, 2, (some FieldType.int))
theorem fJ9_max_7cf53 : sm_mt mJ9_max_7cf53 2 := ⟨sm_in 119 (by decide +kernel) (by decide +kernel), sm_in 118 (by decide +kernel) (by decide +kernel), sm_in 84 (by decide +kernel) (by decide +kernel), ⟨by decide +kernel, by decide +kernel, by decide +kernel⟩, by decide⟩
theorem dJ9_max_7cf53_0 : decode cJ9_max_7cf53 0 = .ok (.iload_n 0, 1) := dk_iload_n_0 (by decide +kernel)
theorem dJ9_max_7cf53_1 : decode cJ9_max_7cf53 1 = .ok (.iload_n 1, 1) := dk_iload_n_1 (by decide +kernel)
theorem dJ9_max_7cf53_2 : decode cJ9_max_7cf53 2 = .ok (.if_icmp .lt 7, 3) := dk_if_icmp_lt 7 (b1 := 0) (b2 := 7) (by decide +kernel) (by decide +kernel) (by decide +kernel) (by decide +kernel)
theorem dJ9_max_7cf53_9 : decode cJ9_max_7cf53 9 = .ok (.iload_n 1, 1) := dk_iload_n_1 (by decide +kernel)
theorem dJ9_max_7cf53_10 : decode cJ9_max_7cf53 10 = .ok (.ireturn, 1) := dk_ireturn (by decide +kernel)
theorem dJ9_max_7cf53_5 : decode cJ9_max_7cf53 5 = .ok (.iload_n 0, 1) := dk_iload_n_0 (by decide +kernel)
theorem dJ9_max_7cf53_6 : decode cJ9_max_7cf53 6 = .ok (.goto 4, 3) := dk_goto 4 (b1 := 0) (b2 := 4) (by decide +kernel) (by decide +kernel) (by decide +kernel) (by decide +kernel)
set_option maxRecDepth 20000 in
theorem vJ9_max_7cf53_0 {E : sm_E} {L : sm_S → Prop} {d : Nat} {x0 : Int32} {x1 : Int32}  {m : sm_M} {Q : Int32 → sm_M → Prop}  (hd : 1 ≤ d) 
  (h : (x0 < x1 →
      Q x1 m) ∧
   (¬ x0 < x1 →
      Q x0 m)) :
  sm_callI E L mJ9_max_7cf53 d 0 0 [.int x0, .int x1] m Q := by
  refine sm_enterF (by decide +kernel) (by simp [lg_sl, Value.category]) ?_
  refine sm_iload_n (Y := mJ9_max_7cf53) (pc := 0) 0 0 rfl rfl dJ9_max_7cf53_0 ?_
  refine sm_iload_n (Y := mJ9_max_7cf53) (pc := 1) 1 1 rfl rfl dJ9_max_7cf53_1 ?_
  refine sm_icmp_lt (Y := mJ9_max_7cf53) (pc := 2) 9 (by decide) dJ9_max_7cf53_2 (fun hc => ?_) (fun hc => ?_)
  · replace h := h.1 hc
    refine sm_iload_n (Y := mJ9_max_7cf53) (pc := 9) 1 1 rfl rfl dJ9_max_7cf53_9 ?_
    exact sm_iret (Y := mJ9_max_7cf53) (pc := 10) rfl rfl rfl dJ9_max_7cf53_10 ⟨_, rfl, h⟩
  · replace h := h.2 hc
    refine sm_iload_n (Y := mJ9_max_7cf53) (pc := 5) 0 0 rfl rfl dJ9_max_7cf53_5 ?_
    refine sm_goto (Y := mJ9_max_7cf53) (pc := 6) 10 (by decide) dJ9_max_7cf53_6 ?_
    exact sm_iret (Y := mJ9_max_7cf53) (pc := 10) rfl rfl rfl dJ9_max_7cf53_10 ⟨_, rfl, h⟩
abbrev mJ9_min_7cf53 : sm_Y := (yJ9_min_7cf53, cJ9_min_7cf53, 2, (some FieldType.int))
theorem fJ9_min_7cf53 : sm_mt mJ9_min_7cf53 2 := ⟨sm_in 666 (by decide +kernel) (by decide +kernel), sm_in 665 (by decide +kernel) (by decide +kernel), sm_in 84 (by decide +kernel) (by decide +kernel), ⟨by decide +kernel, by decide +kernel, by decide +kernel⟩, by decide⟩
theorem dJ9_min_7cf53_0 : decode cJ9_min_7cf53 0 = .ok (.iload_n 0, 1) := dk_iload_n_0 (by decide +kernel)
theorem dJ9_min_7cf53_1 : decode cJ9_min_7cf53 1 = .ok (.iload_n 1, 1) := dk_iload_n_1 (by decide +kernel)
theorem dJ9_min_7cf53_2 : decode cJ9_min_7cf53 2 = .ok (.if_icmp .gt 7, 3) := dk_if_icmp_gt 7 (b1 := 0) (b2 := 7) (by decide +kernel) (by decide +kernel) (by decide +kernel) (by decide +kernel)
theorem dJ9_min_7cf53_9 : decode cJ9_min_7cf53 9 = .ok (.iload_n 1, 1) := dk_iload_n_1 (by decide +kernel)
theorem dJ9_min_7cf53_10 : decode cJ9_min_7cf53 10 = .ok (.ireturn, 1) := dk_ireturn (by decide +kernel)
theorem dJ9_min_7cf53_5 : decode cJ9_min_7cf53 5 = .ok (.iload_n 0, 1) := dk_iload_n_0 (by decide +kernel)
theorem dJ9_min_7cf53_6 : decode cJ9_min_7cf53 6 = .ok (.goto 4, 3) := dk_goto 4 (b1 := 0) (b2 := 4) (by decide +kernel) (by decide +kernel) (by decide +kernel) (by decide +kernel)
set_option maxRecDepth 20000 in
theorem vJ9_min_7cf53_0 {E : sm_E} {L : sm_S → Prop} {d : Nat} {x0 : Int32} {x1 : Int32}  {m : sm_M} {Q : Int32 → sm_M → Prop}  (hd : 1 ≤ d) 
  (h : (x1 < x0 →
      Q x1 m) ∧
   (¬ x1 < x0 →
      Q x0 m)) :
  sm_callI E L mJ9_min_7cf53 d 0 0 [.int x0, .int x1] m Q := by
  refine sm_enterF (by decide +kernel) (by simp [lg_sl, Value.category]) ?_
  refine sm_iload_n (Y := mJ9_min_7cf53) (pc := 0) 0 0 rfl rfl dJ9_min_7cf53_0 ?_
  refine sm_iload_n (Y := mJ9_min_7cf53) (pc := 1) 1 1 rfl rfl dJ9_min_7cf53_1 ?_
  refine sm_icmp_gt (Y := mJ9_min_7cf53) (pc := 2) 9 (by decide) dJ9_min_7cf53_2 (fun hc => ?_) (fun hc => ?_)
  · replace h := h.1 hc
    refine sm_iload_n (Y := mJ9_min_7cf53) (pc := 9) 1 1 rfl rfl dJ9_min_7cf53_9 ?_
    exact sm_iret (Y := mJ9_min_7cf53) (pc := 10) rfl rfl rfl dJ9_min_7cf53_10 ⟨_, rfl, h⟩
  · replace h := h.2 hc
    refine sm_iload_n (Y := mJ9_min_7cf53) (pc := 5) 0 0 rfl rfl dJ9_min_7cf53_5 ?_
    refine sm_goto (Y := mJ9_min_7cf53) (pc := 6) 10 (by decide) dJ9_min_7cf53_6 ?_
    exact sm_iret (Y := mJ9_min_7cf53) (pc := 10) rfl rfl rfl dJ9_min_7cf53_10 ⟨_, rfl, h⟩
abbrev mJ0_length_8abf5 : sm_Y := (yJ0_length_8abf5, cJ0_length_8abf5, 1, (some FieldType.int))
theorem fJ0_length_8abf5 : sm_mi mJ0_length_8abf5 "java/lang/String" 0 := ⟨sm_in 601 (by decide +kernel) (by decide +kernel), sm_in 599 (by decide +kernel) (by decide +kernel), sm_in 600 (by decide +kernel) (by decide +kernel), sm_in 96 (by decide +kernel) (by decide +kernel), rfl, ⟨by decide +kernel, by decide +kernel, by decide +kernel⟩, by decide⟩
theorem dJ0_length_8abf5_0 : decode cJ0_length_8abf5 0 = .ok (.aload_n 0, 1) := dk_aload_n_0 (by decide +kernel)
theorem wRJ0_9 : Cond.fieldLink RJ0 9 "java/lang/String" "value" "[B" ∈ sm_T := sm_in 1738 (by decide +kernel) (by decide +kernel)
theorem dJ0_length_8abf5_1 : decode cJ0_length_8abf5 1 = .ok (.getfield 9, 3) := dk_getfield 9 (b1 := 0) (b2 := 9) (by decide +kernel) (by decide +kernel) (by decide +kernel) (by decide +kernel)
theorem dJ0_length_8abf5_4 : decode cJ0_length_8abf5 4 = .ok (.arraylength, 1) := dk_arraylength (by decide +kernel)
theorem dJ0_length_8abf5_5 : decode cJ0_length_8abf5 5 = .ok (.aload_n 0, 1) := dk_aload_n_0 (by decide +kernel)
theorem wRJ0_335 : Cond.methodLink RJ0 335 yJ0_coder_7d493 ∈ sm_T := sm_in 602 (by decide +kernel) (by decide +kernel)
abbrev mJ0_coder_7d493 : sm_Y := (yJ0_coder_7d493, cJ0_coder_7d493, 1, (some FieldType.byte))
theorem fJ0_coder_7d493 : sm_mi mJ0_coder_7d493 "java/lang/String" 0 := ⟨sm_in 605 (by decide +kernel) (by decide +kernel), sm_in 603 (by decide +kernel) (by decide +kernel), sm_in 604 (by decide +kernel) (by decide +kernel), sm_in 96 (by decide +kernel) (by decide +kernel), rfl, ⟨by decide +kernel, by decide +kernel, by decide +kernel⟩, by decide⟩
theorem dJ0_length_8abf5_6 : decode cJ0_length_8abf5 6 = .ok (.invokevirtual 335, 3) := dk_invokevirtual 335 (b1 := 1) (b2 := 79) (by decide +kernel) (by decide +kernel) (by decide +kernel) (by decide +kernel)
theorem dJ0_length_8abf5_9 : decode cJ0_length_8abf5 9 = .ok (.ishr, 1) := dk_ishr (by decide +kernel)
theorem dJ0_length_8abf5_10 : decode cJ0_length_8abf5 10 = .ok (.ireturn, 1) := dk_ireturn (by decide +kernel)
set_option maxRecDepth 20000 in
theorem vJ0_length_8abf5_0 {E : sm_E} {L : sm_S → Prop} {d : Nat} {x0 : Nat}  {m : sm_M} {Q : Int32 → sm_M → Prop}  (hd : 2 ≤ d) (hix0 : x0 < 6)
  (h : sm_callI E L mJ0_coder_7d493 1 0 0 [.ref (E.2.2.2.2.2.1 x0)] m (fun r_2 m_1 =>
   Q ((nI (sm_len.getD x0 0)) >>> (r_2 &&& 31)) m_1)) :
  sm_callI E L mJ0_length_8abf5 d 0 0 [.ref (E.2.2.2.2.2.1 x0)] m Q := by
  refine sm_enterF (by decide +kernel) (by simp [lg_sl, Value.category]) ?_
  refine sm_aload_n (Y := mJ0_length_8abf5) (pc := 0) 0 0 rfl rfl dJ0_length_8abf5_0 ?_
  refine sm_gValue (Y := mJ0_length_8abf5) (pc := 1) hix0 wRJ0_9 dJ0_length_8abf5_1 ?_
  refine sm_lenS (Y := mJ0_length_8abf5) (pc := 4) hix0 dJ0_length_8abf5_4 ?_
  refine sm_aload_n (Y := mJ0_length_8abf5) (pc := 5) 0 0 rfl rfl dJ0_length_8abf5_5 ?_
  refine sm_ivS_I (Y := mJ0_length_8abf5) (pc := 6) (As := []) hix0 fJ0_coder_7d493 wRJ0_335 rfl (Nat.le_trans (by decide) hd) (Nat.le_of_ble_eq_true rfl) ⟨Nat.le_refl _, Nat.le_refl _⟩ dJ0_length_8abf5_6 rfl (sm_monoI h (fun r_2 m_1 h => ?_))
  refine sm_ishr (Y := mJ0_length_8abf5) (pc := 9) dJ0_length_8abf5_9 ?_
  exact sm_iret (Y := mJ0_length_8abf5) (pc := 10) rfl rfl rfl dJ0_length_8abf5_10 ⟨_, rfl, h⟩
theorem wRJ0_38 : Cond.fieldLink RJ0 38 "java/lang/String" "COMPACT_STRINGS" "Z" ∈ sm_T := sm_in 606 (by decide +kernel) (by decide +kernel)
theorem dJ0_coder_7d493_0 : decode cJ0_coder_7d493 0 = .ok (.getstatic 38, 3) := dk_getstatic 38 (b1 := 0) (b2 := 38) (by decide +kernel) (by decide +kernel) (by decide +kernel) (by decide +kernel)
theorem dJ0_coder_7d493_3 : decode cJ0_coder_7d493 3 = .ok (.ifCond .eq 10, 3) := dk_ifCond_eq 10 (b1 := 0) (b2 := 10) (by decide +kernel) (by decide +kernel) (by decide +kernel) (by decide +kernel)
theorem dJ0_coder_7d493_6 : decode cJ0_coder_7d493 6 = .ok (.aload_n 0, 1) := dk_aload_n_0 (by decide +kernel)
theorem wRJ0_15 : Cond.fieldLink RJ0 15 "java/lang/String" "coder" "B" ∈ sm_T := sm_in 1739 (by decide +kernel) (by decide +kernel)
theorem dJ0_coder_7d493_7 : decode cJ0_coder_7d493 7 = .ok (.getfield 15, 3) := dk_getfield 15 (b1 := 0) (b2 := 15) (by decide +kernel) (by decide +kernel) (by decide +kernel) (by decide +kernel)
theorem dJ0_coder_7d493_10 : decode cJ0_coder_7d493 10 = .ok (.goto 4, 3) := dk_goto 4 (b1 := 0) (b2 := 4) (by decide +kernel) (by decide +kernel) (by decide +kernel) (by decide +kernel)
theorem dJ0_coder_7d493_14 : decode cJ0_coder_7d493 14 = .ok (.ireturn, 1) := dk_ireturn (by decide +kernel)
set_option maxRecDepth 20000 in
theorem vJ0_coder_7d493_0 {E : sm_E} {L : sm_S → Prop} {d : Nat} {x0 : Nat}  {m : sm_M} {Q : Int32 → sm_M → Prop}  (hd : 1 ≤ d) (hix0 : x0 < 6)
  (h : (narrow .byte (.int 0) = .int 0) ∧ Q 0 m) :
  sm_callI E L mJ0_coder_7d493 d 0 0 [.ref (E.2.2.2.2.2.1 x0)] m Q := by
  refine sm_enterF (by decide +kernel) (by simp [lg_sl, Value.category]) ?_
  refine sm_gCompact (Y := mJ0_coder_7d493) (pc := 0) wRJ0_38 dJ0_coder_7d493_0 ?_
  refine sm_if_eq (Y := mJ0_coder_7d493) (pc := 3) 13 (by decide) dJ0_coder_7d493_3 (fun hc => ?_) (fun hc => ?_)
  · exact absurd hc (by decide)
  refine sm_aload_n (Y := mJ0_coder_7d493) (pc := 6) 0 0 rfl rfl dJ0_coder_7d493_6 ?_
  refine sm_gCoder (Y := mJ0_coder_7d493) (pc := 7) hix0 wRJ0_15 dJ0_coder_7d493_7 ?_
  refine sm_goto (Y := mJ0_coder_7d493) (pc := 10) 14 (by decide) dJ0_coder_7d493_10 ?_
  obtain ⟨hn_1, h⟩ := h
  exact sm_zretT (Y := mJ0_coder_7d493) (pc := 14) rfl hn_1 rfl rfl dJ0_coder_7d493_14 ⟨_, rfl, h⟩
abbrev mJ0_isLatin1_aae02 : sm_Y := (yJ0_isLatin1_aae02, cJ0_isLatin1_aae02, 1, (some FieldType.boolean))
theorem fJ0_isLatin1_aae02 : sm_mi mJ0_isLatin1_aae02 "java/lang/String" 0 := ⟨sm_in 615 (by decide +kernel) (by decide +kernel), sm_in 613 (by decide +kernel) (by decide +kernel), sm_in 614 (by decide +kernel) (by decide +kernel), sm_in 96 (by decide +kernel) (by decide +kernel), rfl, ⟨by decide +kernel, by decide +kernel, by decide +kernel⟩, by decide⟩
theorem dJ0_isLatin1_aae02_0 : decode cJ0_isLatin1_aae02 0 = .ok (.getstatic 38, 3) := dk_getstatic 38 (b1 := 0) (b2 := 38) (by decide +kernel) (by decide +kernel) (by decide +kernel) (by decide +kernel)
theorem dJ0_isLatin1_aae02_3 : decode cJ0_isLatin1_aae02 3 = .ok (.ifCond .eq 14, 3) := dk_ifCond_eq 14 (b1 := 0) (b2 := 14) (by decide +kernel) (by decide +kernel) (by decide +kernel) (by decide +kernel)
theorem dJ0_isLatin1_aae02_6 : decode cJ0_isLatin1_aae02 6 = .ok (.aload_n 0, 1) := dk_aload_n_0 (by decide +kernel)
theorem dJ0_isLatin1_aae02_7 : decode cJ0_isLatin1_aae02 7 = .ok (.getfield 15, 3) := dk_getfield 15 (b1 := 0) (b2 := 15) (by decide +kernel) (by decide +kernel) (by decide +kernel) (by decide +kernel)
theorem dJ0_isLatin1_aae02_10 : decode cJ0_isLatin1_aae02 10 = .ok (.ifCond .ne 7, 3) := dk_ifCond_ne 7 (b1 := 0) (b2 := 7) (by decide +kernel) (by decide +kernel) (by decide +kernel) (by decide +kernel)
theorem dJ0_isLatin1_aae02_13 : decode cJ0_isLatin1_aae02 13 = .ok (.iconst 1, 1) := dk_iconst_1 (by decide +kernel)
theorem dJ0_isLatin1_aae02_14 : decode cJ0_isLatin1_aae02 14 = .ok (.goto 4, 3) := dk_goto 4 (b1 := 0) (b2 := 4) (by decide +kernel) (by decide +kernel) (by decide +kernel) (by decide +kernel)
theorem dJ0_isLatin1_aae02_18 : decode cJ0_isLatin1_aae02 18 = .ok (.ireturn, 1) := dk_ireturn (by decide +kernel)
set_option maxRecDepth 20000 in
theorem vJ0_isLatin1_aae02_0 {E : sm_E} {L : sm_S → Prop} {d : Nat} {x0 : Nat}  {m : sm_M} {Q : Int32 → sm_M → Prop}  (hd : 1 ≤ d) (hix0 : x0 < 6)
  (h : Q 1 m) :
  sm_callI E L mJ0_isLatin1_aae02 d 0 0 [.ref (E.2.2.2.2.2.1 x0)] m Q := by
  refine sm_enterF (by decide +kernel) (by simp [lg_sl, Value.category]) ?_
  refine sm_gCompact (Y := mJ0_isLatin1_aae02) (pc := 0) wRJ0_38 dJ0_isLatin1_aae02_0 ?_
  refine sm_if_eq (Y := mJ0_isLatin1_aae02) (pc := 3) 17 (by decide) dJ0_isLatin1_aae02_3 (fun hc => ?_) (fun hc => ?_)
  · exact absurd hc (by decide)
  refine sm_aload_n (Y := mJ0_isLatin1_aae02) (pc := 6) 0 0 rfl rfl dJ0_isLatin1_aae02_6 ?_
  refine sm_gCoder (Y := mJ0_isLatin1_aae02) (pc := 7) hix0 wRJ0_15 dJ0_isLatin1_aae02_7 ?_
  refine sm_if_ne (Y := mJ0_isLatin1_aae02) (pc := 10) 17 (by decide) dJ0_isLatin1_aae02_10 (fun hc => ?_) (fun hc => ?_)
  · exact absurd hc (by decide)
  refine sm_iconst (Y := mJ0_isLatin1_aae02) (pc := 13) 1 (by decide) dJ0_isLatin1_aae02_13 ?_
  refine sm_goto (Y := mJ0_isLatin1_aae02) (pc := 14) 18 (by decide) dJ0_isLatin1_aae02_14 ?_
  exact sm_zret (Y := mJ0_isLatin1_aae02) (pc := 18) rfl (by decide) rfl rfl dJ0_isLatin1_aae02_18 ⟨_, rfl, h⟩
abbrev mJ7_fill_d0a16 : sm_Y := (yJ7_fill_d0a16, cJ7_fill_d0a16, 5, none)
theorem fJ7_fill_d0a16 : sm_mt mJ7_fill_d0a16 2 := ⟨sm_in 669 (by decide +kernel) (by decide +kernel), sm_in 668 (by decide +kernel) (by decide +kernel), sm_in 100 (by decide +kernel) (by decide +kernel), ⟨by decide +kernel, by decide +kernel, by decide +kernel⟩, by decide⟩
def gJ7_fill_d0a16_6 (E : sm_E) (L : sm_S → Prop) (d : Nat) (vs : List Value) (a0 : Nat) (x1 : Int64) (x3 : Int32) (x4 : Int32) (m : sm_M) (Q : sm_M → Prop) : Prop := sm_go E L mJ7_fill_d0a16 d 0 0 vs 6 [(0, .ref (sm_B E + a0)), (1, .long x1), (3, .int x3), (4, .int x4)] [] m 0 0 (sm_Z E L vs 0 0 (sm_QV Q))
theorem dJ7_fill_d0a16_6 : decode cJ7_fill_d0a16 6 = .ok (.iload_n 3, 1) := dk_iload_n_3 (by decide +kernel)
theorem dJ7_fill_d0a16_7 : decode cJ7_fill_d0a16 7 = .ok (.iload 4, 2) := dk_iload 4 (b := 4) (by decide +kernel) (by decide +kernel) (by decide +kernel)
theorem dJ7_fill_d0a16_9 : decode cJ7_fill_d0a16 9 = .ok (.if_icmp .ge 13, 3) := dk_if_icmp_ge 13 (b1 := 0) (b2 := 13) (by decide +kernel) (by decide +kernel) (by decide +kernel) (by decide +kernel)
theorem dJ7_fill_d0a16_22 : decode cJ7_fill_d0a16 22 = .ok (.return_, 1) := dk_return_ (by decide +kernel)
theorem dJ7_fill_d0a16_12 : decode cJ7_fill_d0a16 12 = .ok (.aload_n 0, 1) := dk_aload_n_0 (by decide +kernel)
theorem dJ7_fill_d0a16_13 : decode cJ7_fill_d0a16 13 = .ok (.iload_n 3, 1) := dk_iload_n_3 (by decide +kernel)
theorem dJ7_fill_d0a16_14 : decode cJ7_fill_d0a16 14 = .ok (.lload_n 1, 1) := dk_lload_n_1 (by decide +kernel)
theorem dJ7_fill_d0a16_15 : decode cJ7_fill_d0a16 15 = .ok (.lastore, 1) := dk_lastore (by decide +kernel)
theorem dJ7_fill_d0a16_16 : decode cJ7_fill_d0a16 16 = .ok (.iinc 3 1, 3) := dk_iinc 3 1 (b1 := 3) (b2 := 1) (by decide +kernel) (by decide +kernel) (by decide +kernel) (by decide +kernel) (by decide +kernel)
theorem dJ7_fill_d0a16_19 : decode cJ7_fill_d0a16 19 = .ok (.goto (-13), 3) := dk_goto (-13) (b1 := 255) (b2 := 243) (by decide +kernel) (by decide +kernel) (by decide +kernel) (by decide +kernel)
set_option maxRecDepth 20000 in
theorem vJ7_fill_d0a16_6 {E : sm_E} {L : sm_S → Prop} {d : Nat} {vs : List Value} {a0 : Nat} {x1 : Int64} {x3 : Int32} {x4 : Int32} {na0 : Nat} {m : sm_M} {Q : sm_M → Prop}  (hd : 1 ≤ d) (hTa0 : ∀ S, L S → sm_K S a0 = 12 ∧ sm_N S a0 = na0)
  (h : (x4 ≤ x3 →
      Q m) ∧
   (¬ x4 ≤ x3 →
      (vp_in x3 na0) ∧ ∀ m_1 : sm_M, m_1 = sm_wJ m a0 x3.toNatClampNeg x1 →
      ∀ x3_3 : Int32, x3_3 = x3 + 1 →
      gJ7_fill_d0a16_6 E L d vs a0 x1 x3_3 x4 m_1 Q)) :
  gJ7_fill_d0a16_6 E L d vs a0 x1 x3 x4 m Q := by
  refine sm_iload_n (Y := mJ7_fill_d0a16) (pc := 6) 2 3 rfl rfl dJ7_fill_d0a16_6 ?_
  refine sm_iload (Y := mJ7_fill_d0a16) (pc := 7) 3 4 rfl dJ7_fill_d0a16_7 ?_
  refine sm_icmp_ge (Y := mJ7_fill_d0a16) (pc := 9) 22 (by decide) dJ7_fill_d0a16_9 (fun hc => ?_) (fun hc => ?_)
  · replace h := h.1 hc
    exact sm_vret (Y := mJ7_fill_d0a16) (pc := 22) rfl rfl rfl dJ7_fill_d0a16_22 ⟨rfl, h⟩
  · replace h := h.2 hc
    refine sm_aload_n (Y := mJ7_fill_d0a16) (pc := 12) 0 0 rfl rfl dJ7_fill_d0a16_12 ?_
    refine sm_iload_n (Y := mJ7_fill_d0a16) (pc := 13) 2 3 rfl rfl dJ7_fill_d0a16_13 ?_
    refine sm_lload_n (Y := mJ7_fill_d0a16) (pc := 14) 1 1 rfl rfl dJ7_fill_d0a16_14 ?_
    obtain ⟨hn_2, h⟩ := h
    refine sm_last (Y := mJ7_fill_d0a16) (pc := 15) (fun hS => hTa0 _ hS) hn_2 dJ7_fill_d0a16_15 (fun m_1 em_1 => ?_)
    replace h := h m_1 em_1
    refine sm_iinc (Y := mJ7_fill_d0a16) (pc := 16) (fun y => [(3, .int y), (0, .ref (sm_B E + a0)), (1, .long x1), (4, .int x4)]) 2 3 rfl (by decide) (fun _ => rfl) dJ7_fill_d0a16_16 (fun x3_3 ex3_3 => ?_)
    replace h := h x3_3 ex3_3
    refine sm_goto (Y := mJ7_fill_d0a16) (pc := 19) 6 (by decide) dJ7_fill_d0a16_19 ?_
    refine sm_sub [1, 2, 0, 3] rfl ?_
    exact h
theorem dJ7_fill_d0a16_0 : decode cJ7_fill_d0a16 0 = .ok (.iconst 0, 1) := dk_iconst_0 (by decide +kernel)
theorem dJ7_fill_d0a16_1 : decode cJ7_fill_d0a16 1 = .ok (.istore_n 3, 1) := dk_istore_n_3 (by decide +kernel)
theorem dJ7_fill_d0a16_2 : decode cJ7_fill_d0a16 2 = .ok (.aload_n 0, 1) := dk_aload_n_0 (by decide +kernel)
theorem dJ7_fill_d0a16_3 : decode cJ7_fill_d0a16 3 = .ok (.arraylength, 1) := dk_arraylength (by decide +kernel)
theorem dJ7_fill_d0a16_4 : decode cJ7_fill_d0a16 4 = .ok (.istore 4, 2) := dk_istore 4 (b := 4) (by decide +kernel) (by decide +kernel) (by decide +kernel)
set_option maxRecDepth 20000 in
theorem vJ7_fill_d0a16_0 {E : sm_E} {L : sm_S → Prop} {d : Nat} {a0 : Nat} {x1 : Int64} {na0 : Nat} {m : sm_M} {Q : sm_M → Prop}  (hd : 1 ≤ d) (hTa0 : ∀ S, L S → sm_K S a0 = 12 ∧ sm_N S a0 = na0)
  (h : ∀ x4_2 : Int32, x4_2 = nI na0 →
   gJ7_fill_d0a16_6 E L d ([.ref (sm_B E + a0), .long x1]) a0 x1 0 x4_2 m Q) :
  sm_callV E L mJ7_fill_d0a16 d 0 0 [.ref (sm_B E + a0), .long x1] m Q := by
  refine sm_enterF (by decide +kernel) (by simp [lg_sl, Value.category]) ?_
  refine sm_iconst (Y := mJ7_fill_d0a16) (pc := 0) 0 (by decide) dJ7_fill_d0a16_0 ?_
  refine sm_istore0_n (Y := mJ7_fill_d0a16) (pc := 1) [(3, .int 0), (0, .ref (sm_B E + a0)), (1, .long x1)] 3 rfl (by decide) rfl dJ7_fill_d0a16_1 ?_
  refine sm_aload_n (Y := mJ7_fill_d0a16) (pc := 2) 1 0 rfl rfl dJ7_fill_d0a16_2 ?_
  refine sm_alenJ (Y := mJ7_fill_d0a16) (pc := 3) (fun hS => hTa0 _ hS) dJ7_fill_d0a16_3 ?_
  refine sm_istore (Y := mJ7_fill_d0a16) (pc := 4) (fun y => [(4, .int y), (3, .int 0), (0, .ref (sm_B E + a0)), (1, .long x1)]) 4 (by decide) (fun _ => rfl) dJ7_fill_d0a16_4 (fun x4_2 ex4_2 => ?_)
  replace h := h x4_2 ex4_2
  refine sm_sub [2, 3, 1, 0] rfl ?_
  exact h
abbrev mJ7_fill_53178 : sm_Y := (yJ7_fill_53178, cJ7_fill_53178, 4, none)
theorem fJ7_fill_53178 : sm_mt mJ7_fill_53178 2 := ⟨sm_in 870 (by decide +kernel) (by decide +kernel), sm_in 869 (by decide +kernel) (by decide +kernel), sm_in 100 (by decide +kernel) (by decide +kernel), ⟨by decide +kernel, by decide +kernel, by decide +kernel⟩, by decide⟩
def gJ7_fill_53178_5 (E : sm_E) (L : sm_S → Prop) (d : Nat) (vs : List Value) (a0 : Nat) (x1 : Int32) (x2 : Int32) (x3 : Int32) (m : sm_M) (Q : sm_M → Prop) : Prop := sm_go E L mJ7_fill_53178 d 0 0 vs 5 [(0, .ref (sm_B E + a0)), (1, .int x1), (2, .int x2), (3, .int x3)] [] m 0 0 (sm_Z E L vs 0 0 (sm_QV Q))
theorem dJ7_fill_53178_5 : decode cJ7_fill_53178 5 = .ok (.iload_n 2, 1) := dk_iload_n_2 (by decide +kernel)
theorem dJ7_fill_53178_6 : decode cJ7_fill_53178 6 = .ok (.iload_n 3, 1) := dk_iload_n_3 (by decide +kernel)
theorem dJ7_fill_53178_7 : decode cJ7_fill_53178 7 = .ok (.if_icmp .ge 13, 3) := dk_if_icmp_ge 13 (b1 := 0) (b2 := 13) (by decide +kernel) (by decide +kernel) (by decide +kernel) (by decide +kernel)
theorem dJ7_fill_53178_20 : decode cJ7_fill_53178 20 = .ok (.return_, 1) := dk_return_ (by decide +kernel)
theorem dJ7_fill_53178_10 : decode cJ7_fill_53178 10 = .ok (.aload_n 0, 1) := dk_aload_n_0 (by decide +kernel)
theorem dJ7_fill_53178_11 : decode cJ7_fill_53178 11 = .ok (.iload_n 2, 1) := dk_iload_n_2 (by decide +kernel)
theorem dJ7_fill_53178_12 : decode cJ7_fill_53178 12 = .ok (.iload_n 1, 1) := dk_iload_n_1 (by decide +kernel)
theorem dJ7_fill_53178_13 : decode cJ7_fill_53178 13 = .ok (.iastore, 1) := dk_iastore (by decide +kernel)
theorem dJ7_fill_53178_14 : decode cJ7_fill_53178 14 = .ok (.iinc 2 1, 3) := dk_iinc 2 1 (b1 := 2) (b2 := 1) (by decide +kernel) (by decide +kernel) (by decide +kernel) (by decide +kernel) (by decide +kernel)
theorem dJ7_fill_53178_17 : decode cJ7_fill_53178 17 = .ok (.goto (-12), 3) := dk_goto (-12) (b1 := 255) (b2 := 244) (by decide +kernel) (by decide +kernel) (by decide +kernel) (by decide +kernel)
set_option maxRecDepth 20000 in
theorem vJ7_fill_53178_5 {E : sm_E} {L : sm_S → Prop} {d : Nat} {vs : List Value} {a0 : Nat} {x1 : Int32} {x2 : Int32} {x3 : Int32} {na0 : Nat} {m : sm_M} {Q : sm_M → Prop}  (hd : 1 ≤ d) (hTa0 : ∀ S, L S → sm_K S a0 = 11 ∧ sm_N S a0 = na0)
  (h : (x3 ≤ x2 →
      Q m) ∧
   (¬ x3 ≤ x2 →
      (vp_in x2 na0) ∧ ∀ m_1 : sm_M, m_1 = sm_wI m a0 x2.toNatClampNeg x1 →
      ∀ x2_3 : Int32, x2_3 = x2 + 1 →
      gJ7_fill_53178_5 E L d vs a0 x1 x2_3 x3 m_1 Q)) :
  gJ7_fill_53178_5 E L d vs a0 x1 x2 x3 m Q := by
  refine sm_iload_n (Y := mJ7_fill_53178) (pc := 5) 2 2 rfl rfl dJ7_fill_53178_5 ?_
  refine sm_iload_n (Y := mJ7_fill_53178) (pc := 6) 3 3 rfl rfl dJ7_fill_53178_6 ?_
  refine sm_icmp_ge (Y := mJ7_fill_53178) (pc := 7) 20 (by decide) dJ7_fill_53178_7 (fun hc => ?_) (fun hc => ?_)
  · replace h := h.1 hc
    exact sm_vret (Y := mJ7_fill_53178) (pc := 20) rfl rfl rfl dJ7_fill_53178_20 ⟨rfl, h⟩
  · replace h := h.2 hc
    refine sm_aload_n (Y := mJ7_fill_53178) (pc := 10) 0 0 rfl rfl dJ7_fill_53178_10 ?_
    refine sm_iload_n (Y := mJ7_fill_53178) (pc := 11) 2 2 rfl rfl dJ7_fill_53178_11 ?_
    refine sm_iload_n (Y := mJ7_fill_53178) (pc := 12) 1 1 rfl rfl dJ7_fill_53178_12 ?_
    obtain ⟨hn_2, h⟩ := h
    refine sm_iast (Y := mJ7_fill_53178) (pc := 13) (fun hS => hTa0 _ hS) hn_2 dJ7_fill_53178_13 (fun m_1 em_1 => ?_)
    replace h := h m_1 em_1
    refine sm_iinc (Y := mJ7_fill_53178) (pc := 14) (fun y => [(2, .int y), (0, .ref (sm_B E + a0)), (1, .int x1), (3, .int x3)]) 2 2 rfl (by decide) (fun _ => rfl) dJ7_fill_53178_14 (fun x2_3 ex2_3 => ?_)
    replace h := h x2_3 ex2_3
    refine sm_goto (Y := mJ7_fill_53178) (pc := 17) 5 (by decide) dJ7_fill_53178_17 ?_
    refine sm_sub [1, 2, 0, 3] rfl ?_
    exact h
theorem dJ7_fill_53178_0 : decode cJ7_fill_53178 0 = .ok (.iconst 0, 1) := dk_iconst_0 (by decide +kernel)
theorem dJ7_fill_53178_1 : decode cJ7_fill_53178 1 = .ok (.istore_n 2, 1) := dk_istore_n_2 (by decide +kernel)
theorem dJ7_fill_53178_2 : decode cJ7_fill_53178 2 = .ok (.aload_n 0, 1) := dk_aload_n_0 (by decide +kernel)
theorem dJ7_fill_53178_3 : decode cJ7_fill_53178 3 = .ok (.arraylength, 1) := dk_arraylength (by decide +kernel)
theorem dJ7_fill_53178_4 : decode cJ7_fill_53178 4 = .ok (.istore_n 3, 1) := dk_istore_n_3 (by decide +kernel)
set_option maxRecDepth 20000 in
theorem vJ7_fill_53178_0 {E : sm_E} {L : sm_S → Prop} {d : Nat} {a0 : Nat} {x1 : Int32} {na0 : Nat} {m : sm_M} {Q : sm_M → Prop}  (hd : 1 ≤ d) (hTa0 : ∀ S, L S → sm_K S a0 = 11 ∧ sm_N S a0 = na0)
  (h : ∀ x3_2 : Int32, x3_2 = nI na0 →
   gJ7_fill_53178_5 E L d ([.ref (sm_B E + a0), .int x1]) a0 x1 0 x3_2 m Q) :
  sm_callV E L mJ7_fill_53178 d 0 0 [.ref (sm_B E + a0), .int x1] m Q := by
  refine sm_enterF (by decide +kernel) (by simp [lg_sl, Value.category]) ?_
  refine sm_iconst (Y := mJ7_fill_53178) (pc := 0) 0 (by decide) dJ7_fill_53178_0 ?_
  refine sm_istore0_n (Y := mJ7_fill_53178) (pc := 1) [(2, .int 0), (0, .ref (sm_B E + a0)), (1, .int x1)] 2 rfl (by decide) rfl dJ7_fill_53178_1 ?_
  refine sm_aload_n (Y := mJ7_fill_53178) (pc := 2) 1 0 rfl rfl dJ7_fill_53178_2 ?_
  refine sm_alenI (Y := mJ7_fill_53178) (pc := 3) (fun hS => hTa0 _ hS) dJ7_fill_53178_3 ?_
  refine sm_istore_n (Y := mJ7_fill_53178) (pc := 4) (fun y => [(3, .int y), (2, .int 0), (0, .ref (sm_B E + a0)), (1, .int x1)]) 3 rfl (by decide) (fun _ => rfl) dJ7_fill_53178_4 (fun x3_2 ex3_2 => ?_)
  replace h := h x3_2 ex3_2
  refine sm_sub [2, 3, 1, 0] rfl ?_
  exact h
