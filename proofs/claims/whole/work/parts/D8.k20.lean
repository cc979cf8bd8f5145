/-! name: the call -/
section K20
variable {E : sm_E} {L : sm_S → Prop} {d1 d2 : Nat} {m : sm_M} {c : Nat}
theorem rsP74_sc {a k : Nat} (h : rsP 74 a k) : scC a k := by
  unfold rsP at h
  unfold scC
  omega
theorem teP_scM {a k : Nat} (h : teP a k) : scM a k := by
  unfold teP at h
  unfold scM
  omega
theorem nbP_scM {a k : Nat} (h : nbP a k) : scM a k := by
  unfold nbP at h
  unfold scM
  omega
theorem k_name {x1 x2 x3 : Int32} (hly : ∀ S, L S → ly S) (hd1 : 63 ≤ d1) (hd2 : 61 ≤ d2) (hI : Inv c m) : sm_callI E L mX11_name d1 0 0 [.ref (sm_B E + 0), .int x1, .int x2, .int x3] m (fun r m1 => sm_callI E L mX12_name d2 0 0 [.ref (sm_B E + 109), .int x1, .int x2, .int x3] m1 (fun r2 m2 => r = r2 ∧ Inv c m2)) := by
  obtain ⟨i, i1, i2, rfl⟩ := iI_ex x1
  obtain ⟨s, s1, s2, rfl⟩ := iI_ex x2
  obtain ⟨w, w1, w2, rfl⟩ := iI_ex x3
  by_cases hi : 0 ≤ i ∧ i < 6
  rotate_left
  · refine vX11_name_0 hly hd1 (c_isSlot i1 i2 (by omega) ?_)
    simp (disch := omega) only [forall_eq, true_and, and_true, false_and, and_false, forall_const, true_implies, implies_true, not_true_eq_false, not_false_eq_true, false_implies, if_true, if_false, ↓reduceIte, Int.toNat_natCast, Int.reduceEq, Int.reduceNe, Int.reduceLT, Int.reduceLE, Int.reduceToNat, Int.reduceAdd, Int.reduceSub, Int.reduceMul, Int.reduceNeg, Nat.reduceAdd, Nat.reduceMul, Nat.reduceSub, iI_lit, jI_lit, iI_add, iI_sub, iI_mul, iI_neg, jI_add, jI_sub, jI_mul, jI_neg, nI_i, lN_j, iI_le, iI_lt, iI_eq, jI_le, jI_lt, jI_eq, iI_in, iI_cl, iI_j, jI_i, cN, inN, wI_eq, wI_ne, wJ_1, wJ_eq, wJ_ne, wI_2, wJ_3, iI_div, iI_rem, jI_div, jI_rem, true_or, or_true, false_or, or_false, eq_self, Nat.add_zero, hi]
    refine c_error (e := 1) hly (by decide) (by omega) (vX12_name_0 hly hd2 (c12_isSlot i1 i2 (by omega) ?_))
    simp (disch := omega) only [forall_eq, true_and, and_true, false_and, and_false, forall_const, true_implies, implies_true, not_true_eq_false, not_false_eq_true, false_implies, if_true, if_false, ↓reduceIte, Int.toNat_natCast, Int.reduceEq, Int.reduceNe, Int.reduceLT, Int.reduceLE, Int.reduceToNat, Int.reduceAdd, Int.reduceSub, Int.reduceMul, Int.reduceNeg, Nat.reduceAdd, Nat.reduceMul, Nat.reduceSub, iI_lit, jI_lit, iI_add, iI_sub, iI_mul, iI_neg, jI_add, jI_sub, jI_mul, jI_neg, nI_i, lN_j, iI_le, iI_lt, iI_eq, jI_le, jI_lt, jI_eq, iI_in, iI_cl, iI_j, jI_i, cN, inN, wI_eq, wI_ne, wJ_1, wJ_eq, wJ_ne, wI_2, wJ_3, iI_div, iI_rem, jI_div, jI_rem, true_or, or_true, false_or, or_false, eq_self, Nat.add_zero, hi]
    exact c12_finds (e := 1) hly (by decide) (by omega) ⟨rfl, hI.er frw.rf frw.rf⟩
  by_cases hs : s = 0 ∨ s = 1
  rotate_left
  · refine vX11_name_0 hly hd1 (c_isSlot i1 i2 (by omega) ?_)
    simp (disch := omega) only [forall_eq, true_and, and_true, false_and, and_false, forall_const, true_implies, implies_true, not_true_eq_false, not_false_eq_true, false_implies, if_true, if_false, ↓reduceIte, Int.toNat_natCast, Int.reduceEq, Int.reduceNe, Int.reduceLT, Int.reduceLE, Int.reduceToNat, Int.reduceAdd, Int.reduceSub, Int.reduceMul, Int.reduceNeg, Nat.reduceAdd, Nat.reduceMul, Nat.reduceSub, iI_lit, jI_lit, iI_add, iI_sub, iI_mul, iI_neg, jI_add, jI_sub, jI_mul, jI_neg, nI_i, lN_j, iI_le, iI_lt, iI_eq, jI_le, jI_lt, jI_eq, iI_in, iI_cl, iI_j, jI_i, cN, inN, wI_eq, wI_ne, wJ_1, wJ_eq, wJ_ne, wI_2, wJ_3, iI_div, iI_rem, jI_div, jI_rem, true_or, or_true, false_or, or_false, eq_self, Nat.add_zero, hi]
    refine c_isChoice s1 s2 (by omega) ?_
    rw [if_neg hs]
    simp (disch := omega) only [forall_eq, true_and, and_true, false_and, and_false, forall_const, true_implies, implies_true, not_true_eq_false, not_false_eq_true, false_implies, if_true, if_false, ↓reduceIte, Int.toNat_natCast, Int.reduceEq, Int.reduceNe, Int.reduceLT, Int.reduceLE, Int.reduceToNat, Int.reduceAdd, Int.reduceSub, Int.reduceMul, Int.reduceNeg, Nat.reduceAdd, Nat.reduceMul, Nat.reduceSub, iI_lit, jI_lit, iI_add, iI_sub, iI_mul, iI_neg, jI_add, jI_sub, jI_mul, jI_neg, nI_i, lN_j, iI_le, iI_lt, iI_eq, jI_le, jI_lt, jI_eq, iI_in, iI_cl, iI_j, jI_i, cN, inN, wI_eq, wI_ne, wJ_1, wJ_eq, wJ_ne, wI_2, wJ_3, iI_div, iI_rem, jI_div, jI_rem, true_or, or_true, false_or, or_false, eq_self, Nat.add_zero]
    refine c_error (e := 1) hly (by decide) (by omega) (vX12_name_0 hly hd2 (c12_isSlot i1 i2 (by omega) ?_))
    simp (disch := omega) only [forall_eq, true_and, and_true, false_and, and_false, forall_const, true_implies, implies_true, not_true_eq_false, not_false_eq_true, false_implies, if_true, if_false, ↓reduceIte, Int.toNat_natCast, Int.reduceEq, Int.reduceNe, Int.reduceLT, Int.reduceLE, Int.reduceToNat, Int.reduceAdd, Int.reduceSub, Int.reduceMul, Int.reduceNeg, Nat.reduceAdd, Nat.reduceMul, Nat.reduceSub, iI_lit, jI_lit, iI_add, iI_sub, iI_mul, iI_neg, jI_add, jI_sub, jI_mul, jI_neg, nI_i, lN_j, iI_le, iI_lt, iI_eq, jI_le, jI_lt, jI_eq, iI_in, iI_cl, iI_j, jI_i, cN, inN, wI_eq, wI_ne, wJ_1, wJ_eq, wJ_ne, wI_2, wJ_3, iI_div, iI_rem, jI_div, jI_rem, true_or, or_true, false_or, or_false, eq_self, Nat.add_zero, hi]
    refine c12_isPart s1 s2 (by omega) ?_
    rw [if_neg hs]
    simp (disch := omega) only [forall_eq, true_and, and_true, false_and, and_false, forall_const, true_implies, implies_true, not_true_eq_false, not_false_eq_true, false_implies, if_true, if_false, ↓reduceIte, Int.toNat_natCast, Int.reduceEq, Int.reduceNe, Int.reduceLT, Int.reduceLE, Int.reduceToNat, Int.reduceAdd, Int.reduceSub, Int.reduceMul, Int.reduceNeg, Nat.reduceAdd, Nat.reduceMul, Nat.reduceSub, iI_lit, jI_lit, iI_add, iI_sub, iI_mul, iI_neg, jI_add, jI_sub, jI_mul, jI_neg, nI_i, lN_j, iI_le, iI_lt, iI_eq, jI_le, jI_lt, jI_eq, iI_in, iI_cl, iI_j, jI_i, cN, inN, wI_eq, wI_ne, wJ_1, wJ_eq, wJ_ne, wI_2, wJ_3, iI_div, iI_rem, jI_div, jI_rem, true_or, or_true, false_or, or_false, eq_self, Nat.add_zero]
    exact c12_finds (e := 1) hly (by decide) (by omega) ⟨rfl, hI.er frw.rf frw.rf⟩
  have badw : ¬ (0 ≤ w ∧ w ≤ 6) → sm_callI E L mX11_error 1 0 0 [.ref (sm_B E + 0), .int (iI 1)] m (fun r m1 => sm_callI E L mX12_name d2 0 0 [.ref (sm_B E + 109), .int (iI i), .int (iI s), .int (iI w)] m1 (fun r2 m2 => r = r2 ∧ Inv c m2)) := by
    intro hw
    refine c_error (e := 1) hly (by decide) (by omega) (vX12_name_0 hly hd2 (c12_isSlot i1 i2 (by omega) ?_))
    simp (disch := omega) only [forall_eq, true_and, and_true, false_and, and_false, forall_const, true_implies, implies_true, not_true_eq_false, not_false_eq_true, false_implies, if_true, if_false, ↓reduceIte, Int.toNat_natCast, Int.reduceEq, Int.reduceNe, Int.reduceLT, Int.reduceLE, Int.reduceToNat, Int.reduceAdd, Int.reduceSub, Int.reduceMul, Int.reduceNeg, Nat.reduceAdd, Nat.reduceMul, Nat.reduceSub, iI_lit, jI_lit, iI_add, iI_sub, iI_mul, iI_neg, jI_add, jI_sub, jI_mul, jI_neg, nI_i, lN_j, iI_le, iI_lt, iI_eq, jI_le, jI_lt, jI_eq, iI_in, iI_cl, iI_j, jI_i, cN, inN, wI_eq, wI_ne, wJ_1, wJ_eq, wJ_ne, wI_2, wJ_3, iI_div, iI_rem, jI_div, jI_rem, true_or, or_true, false_or, or_false, eq_self, Nat.add_zero, hi]
    refine c12_isPart s1 s2 (by omega) ?_
    rw [if_pos hs]
    simp (disch := omega) only [forall_eq, true_and, and_true, false_and, and_false, forall_const, true_implies, implies_true, not_true_eq_false, not_false_eq_true, false_implies, if_true, if_false, ↓reduceIte, Int.toNat_natCast, Int.reduceEq, Int.reduceNe, Int.reduceLT, Int.reduceLE, Int.reduceToNat, Int.reduceAdd, Int.reduceSub, Int.reduceMul, Int.reduceNeg, Nat.reduceAdd, Nat.reduceMul, Nat.reduceSub, iI_lit, jI_lit, iI_add, iI_sub, iI_mul, iI_neg, jI_add, jI_sub, jI_mul, jI_neg, nI_i, lN_j, iI_le, iI_lt, iI_eq, jI_le, jI_lt, jI_eq, iI_in, iI_cl, iI_j, jI_i, cN, inN, wI_eq, wI_ne, wJ_1, wJ_eq, wJ_ne, wI_2, wJ_3, iI_div, iI_rem, jI_div, jI_rem, true_or, or_true, false_or, or_false, eq_self, Nat.add_zero]
    refine c12_isIn (by omega) (by omega) (by omega) (by omega) (by omega) (by omega) (by omega) ?_
    rw [if_neg hw]
    simp (disch := omega) only [forall_eq, true_and, and_true, false_and, and_false, forall_const, true_implies, implies_true, not_true_eq_false, not_false_eq_true, false_implies, if_true, if_false, ↓reduceIte, Int.toNat_natCast, Int.reduceEq, Int.reduceNe, Int.reduceLT, Int.reduceLE, Int.reduceToNat, Int.reduceAdd, Int.reduceSub, Int.reduceMul, Int.reduceNeg, Nat.reduceAdd, Nat.reduceMul, Nat.reduceSub, iI_lit, jI_lit, iI_add, iI_sub, iI_mul, iI_neg, jI_add, jI_sub, jI_mul, jI_neg, nI_i, lN_j, iI_le, iI_lt, iI_eq, jI_le, jI_lt, jI_eq, iI_in, iI_cl, iI_j, jI_i, cN, inN, wI_eq, wI_ne, wJ_1, wJ_eq, wJ_ne, wI_2, wJ_3, iI_div, iI_rem, jI_div, jI_rem, true_or, or_true, false_or, or_false, eq_self, Nat.add_zero]
    exact c12_finds (e := 1) hly (by decide) (by omega) ⟨rfl, hI.er frw.rf frw.rf⟩
  obtain ⟨a, rfl⟩ : ∃ j : Nat, i = (j : Int) := ⟨i.toNat, by omega⟩
  have ha : a < 6 := by omega
  obtain ⟨t, n, hv, hg, hh⟩ := hI.2.1.1 a ha
  have hT := ly_slotT hly ha
  have hr01 := ev_01' t n
  have head : 0 ≤ w → w ≤ 6 → ∀ (m1 : sm_M) (Q : Int32 → sm_M → Prop), hl m1 a t n → (Tr t n = 0 → ∀ m2, frw scM m1 m2 → Q (iI (-1000000000 - (3 : Nat))) (sm_wI m2 110 3 (m2.1 110 3 + 1))) → (Tr t n = 1 → ∀ m2, fr nmP m1 m2 → m2.2.1 109 60 = jI (NM t n s).1 → m2.2.1 109 61 = jI (NM t n s).2 → (w = 0 → Q (iI (NM t n s).1) m2) ∧ (w = 1 → Q (iI (NM t n s).2) m2) ∧ (w = 2 → sm_callJ E L mX12_sizeOf 2 0 0 [.ref (sm_B E + 109), .long (jI (NM t n s).1), .long (jI (NM t n s).2)] m2 (fun r_16 m_15 => Q (r_16.toInt32) m_15)) ∧ (w = 3 → sm_callI E L mX12_genusOf 3 0 0 [.ref (sm_B E + 109), .long (jI (NM t n s).1), .long (jI (NM t n s).2)] m2 (fun r m3 => Q r m3)) ∧ (w = 4 → sm_callV E L mX12_glass 3 0 0 [.ref (sm_B E + 109)] m2 (fun m3 => (¬ (m3.2.1 109 60) = jI (NM t n s).1 → Q (iI 0) m3) ∧ ((m3.2.1 109 60) = jI (NM t n s).1 → (¬ (m3.2.1 109 61) = jI (NM t n s).2 → Q (iI 0) m3) ∧ ((m3.2.1 109 61) = jI (NM t n s).2 → Q (iI 1) m3)))) ∧ (5 ≤ w → sm_callJ E L mX12_sizeOf 2 0 0 [.ref (sm_B E + 109), .long (jI (NM t n s).1), .long (jI (NM t n s).2)] m2 (fun r_21 m_20 => (r_21 ≤ jI 12 → sm_callI E L mX12_unlinkOf 60 0 0 [.ref (sm_B E + 109), .long (jI (NM t n s).1), .long (jI (NM t n s).2), .int (iI 0)] m_20 (fun r_23 m_22 => (¬ w = 5 → (¬ r_23 = iI 0 → Q (m_22.1 109 64) m_22) ∧ (r_23 = iI 0 → sm_callI E L mX12_finds 1 0 0 [.ref (sm_B E + 109), .int (iI 2)] m_22 (fun r m3 => Q r m3))) ∧ (w = 5 → Q r_23 m_22))) ∧ (¬ r_21 ≤ jI 12 → sm_callI E L mX12_finds 1 0 0 [.ref (sm_B E + 109), .int (iI 6)] m_20 (fun r m3 => Q r m3))))) → sm_callI E L mX12_name d2 0 0 [.ref (sm_B E + 109), .int (iI (a : Nat)), .int (iI s), .int (iI w)] m1 Q := by
    intro hw1 hw2 m1 Q h1 hQ0 hQ1
    refine vX12_name_0 hly hd2 (c12_isSlot i1 i2 (by omega) ?_)
    simp (disch := omega) only [forall_eq, true_and, and_true, false_and, and_false, forall_const, true_implies, implies_true, not_true_eq_false, not_false_eq_true, false_implies, if_true, if_false, ↓reduceIte, Int.toNat_natCast, Int.reduceEq, Int.reduceNe, Int.reduceLT, Int.reduceLE, Int.reduceToNat, Int.reduceAdd, Int.reduceSub, Int.reduceMul, Int.reduceNeg, Nat.reduceAdd, Nat.reduceMul, Nat.reduceSub, iI_lit, jI_lit, iI_add, iI_sub, iI_mul, iI_neg, jI_add, jI_sub, jI_mul, jI_neg, nI_i, lN_j, iI_le, iI_lt, iI_eq, jI_le, jI_lt, jI_eq, iI_in, iI_cl, iI_j, jI_i, cN, inN, wI_eq, wI_ne, wJ_1, wJ_eq, wJ_ne, wI_2, wJ_3, iI_div, iI_rem, jI_div, jI_rem, true_or, or_true, false_or, or_false, eq_self, Nat.add_zero, hi]
    refine c12_isPart s1 s2 (by omega) ?_
    rw [if_pos hs]
    simp (disch := omega) only [forall_eq, true_and, and_true, false_and, and_false, forall_const, true_implies, implies_true, not_true_eq_false, not_false_eq_true, false_implies, if_true, if_false, ↓reduceIte, Int.toNat_natCast, Int.reduceEq, Int.reduceNe, Int.reduceLT, Int.reduceLE, Int.reduceToNat, Int.reduceAdd, Int.reduceSub, Int.reduceMul, Int.reduceNeg, Nat.reduceAdd, Nat.reduceMul, Nat.reduceSub, iI_lit, jI_lit, iI_add, iI_sub, iI_mul, iI_neg, jI_add, jI_sub, jI_mul, jI_neg, nI_i, lN_j, iI_le, iI_lt, iI_eq, jI_le, jI_lt, jI_eq, iI_in, iI_cl, iI_j, jI_i, cN, inN, wI_eq, wI_ne, wJ_1, wJ_eq, wJ_ne, wI_2, wJ_3, iI_div, iI_rem, jI_div, jI_rem, true_or, or_true, false_or, or_false, eq_self, Nat.add_zero]
    refine c12_isIn (by omega) (by omega) (by omega) (by omega) (by omega) (by omega) (by omega) ?_
    rw [if_pos ⟨hw1, hw2⟩]
    simp (disch := omega) only [forall_eq, true_and, and_true, false_and, and_false, forall_const, true_implies, implies_true, not_true_eq_false, not_false_eq_true, false_implies, if_true, if_false, ↓reduceIte, Int.toNat_natCast, Int.reduceEq, Int.reduceNe, Int.reduceLT, Int.reduceLE, Int.reduceToNat, Int.reduceAdd, Int.reduceSub, Int.reduceMul, Int.reduceNeg, Nat.reduceAdd, Nat.reduceMul, Nat.reduceSub, iI_lit, jI_lit, iI_add, iI_sub, iI_mul, iI_neg, jI_add, jI_sub, jI_mul, jI_neg, nI_i, lN_j, iI_le, iI_lt, iI_eq, jI_le, jI_lt, jI_eq, iI_in, iI_cl, iI_j, jI_i, cN, inN, wI_eq, wI_ne, wJ_1, wJ_eq, wJ_ne, wI_2, wJ_3, iI_div, iI_rem, jI_div, jI_rem, true_or, or_true, false_or, or_false, eq_self, Nat.add_zero]
    refine c12_names hly (by omega) ha h1 hv hs (fun hr m2 f2 e1 e2 => ?_) (fun hr m2 f2 => ?_)
    rotate_left
    · simp (disch := omega) only [forall_eq, true_and, and_true, false_and, and_false, forall_const, true_implies, implies_true, not_true_eq_false, not_false_eq_true, false_implies, if_true, if_false, ↓reduceIte, Int.toNat_natCast, Int.reduceEq, Int.reduceNe, Int.reduceLT, Int.reduceLE, Int.reduceToNat, Int.reduceAdd, Int.reduceSub, Int.reduceMul, Int.reduceNeg, Nat.reduceAdd, Nat.reduceMul, Nat.reduceSub, iI_lit, jI_lit, iI_add, iI_sub, iI_mul, iI_neg, jI_add, jI_sub, jI_mul, jI_neg, nI_i, lN_j, iI_le, iI_lt, iI_eq, jI_le, jI_lt, jI_eq, iI_in, iI_cl, iI_j, jI_i, cN, inN, wI_eq, wI_ne, wJ_1, wJ_eq, wJ_ne, wI_2, wJ_3, iI_div, iI_rem, jI_div, jI_rem, true_or, or_true, false_or, or_false, eq_self, Nat.add_zero]
      exact c12_finds (e := 3) hly (by decide) (by omega) (hQ0 hr m2 (f2.w.mono (fun a k h => nmP_sc h)))
    · obtain ⟨q0, q1, q2, q3, q4, q5⟩ := hQ1 hr m2 f2 e1 e2
      rw [e1, e2]
      simp (disch := omega) only [forall_eq, true_and, and_true, false_and, and_false, forall_const, true_implies, implies_true, not_true_eq_false, not_false_eq_true, false_implies, if_true, if_false, ↓reduceIte, Int.toNat_natCast, Int.reduceEq, Int.reduceNe, Int.reduceLT, Int.reduceLE, Int.reduceToNat, Int.reduceAdd, Int.reduceSub, Int.reduceMul, Int.reduceNeg, Nat.reduceAdd, Nat.reduceMul, Nat.reduceSub, iI_lit, jI_lit, iI_add, iI_sub, iI_mul, iI_neg, jI_add, jI_sub, jI_mul, jI_neg, nI_i, lN_j, iI_le, iI_lt, iI_eq, jI_le, jI_lt, jI_eq, iI_in, iI_cl, iI_j, jI_i, cN, inN, wI_eq, wI_ne, wJ_1, wJ_eq, wJ_ne, wI_2, wJ_3, iI_div, iI_rem, jI_div, jI_rem, true_or, or_true, false_or, or_false, eq_self, Nat.add_zero]
      exact ⟨q0, q1, q2, q3, q4, fun z => q5 (by omega)⟩
  refine vX11_name_0 hly hd1 (c_isSlot i1 i2 (by omega) ?_)
  simp (disch := omega) only [forall_eq, true_and, and_true, false_and, and_false, forall_const, true_implies, implies_true, not_true_eq_false, not_false_eq_true, false_implies, if_true, if_false, ↓reduceIte, Int.toNat_natCast, Int.reduceEq, Int.reduceNe, Int.reduceLT, Int.reduceLE, Int.reduceToNat, Int.reduceAdd, Int.reduceSub, Int.reduceMul, Int.reduceNeg, Nat.reduceAdd, Nat.reduceMul, Nat.reduceSub, iI_lit, jI_lit, iI_add, iI_sub, iI_mul, iI_neg, jI_add, jI_sub, jI_mul, jI_neg, nI_i, lN_j, iI_le, iI_lt, iI_eq, jI_le, jI_lt, jI_eq, iI_in, iI_cl, iI_j, jI_i, cN, inN, wI_eq, wI_ne, wJ_1, wJ_eq, wJ_ne, wI_2, wJ_3, iI_div, iI_rem, jI_div, jI_rem, true_or, or_true, false_or, or_false, eq_self, Nat.add_zero, hi]
  refine c_isChoice s1 s2 (by omega) ?_
  rw [if_pos hs, hg.2.2.2.2.1]
  simp (disch := omega) only [forall_eq, true_and, and_true, false_and, and_false, forall_const, true_implies, implies_true, not_true_eq_false, not_false_eq_true, false_implies, if_true, if_false, ↓reduceIte, Int.toNat_natCast, Int.reduceEq, Int.reduceNe, Int.reduceLT, Int.reduceLE, Int.reduceToNat, Int.reduceAdd, Int.reduceSub, Int.reduceMul, Int.reduceNeg, Nat.reduceAdd, Nat.reduceMul, Nat.reduceSub, iI_lit, jI_lit, iI_add, iI_sub, iI_mul, iI_neg, jI_add, jI_sub, jI_mul, jI_neg, nI_i, lN_j, iI_le, iI_lt, iI_eq, jI_le, jI_lt, jI_eq, iI_in, iI_cl, iI_j, jI_i, cN, inN, wI_eq, wI_ne, wJ_1, wJ_eq, wJ_ne, wI_2, wJ_3, iI_div, iI_rem, jI_div, jI_rem, true_or, or_true, false_or, or_false, eq_self, Nat.add_zero]
  refine ⟨fun hw => badw (by omega), fun hw => ⟨fun hw6 => ⟨by omega, fun hr => ?_, fun hr => ?_⟩, fun hw6 => badw (by omega)⟩⟩
  rotate_left
  · exact c_error (e := 3) hly (by decide) (by omega) (head (by omega) hw6 _ _ (hh.fr (fr.rf.wI (P := fun a k => a = 76) rfl) (by omega) (fun k => by omega)) (fun _ m2 f2 => ⟨rfl, hI.er frw.rf f2⟩) (fun q => by omega))
  have r1 : Tr t n = 1 := by omega
  obtain ⟨hnm, hnb⟩ := NM_is (s := s) hv r1
  have hszb : szN (NM t n s).1 (NM t n s).2 ≤ 24 := by
    unfold szN
    split
    · exact Nat.zero_le _
    · exact NM_sz hv r1 (by omega)
  have hd' : ∀ (m1 : sm_M) (Q : Int32 → sm_M → Prop), hl m1 a t n → _ → _ := fun m1 Q h1 hB => head (by omega) hw6 m1 Q h1 (fun q => absurd (r1.symm.trans q) (by decide)) (fun _ => hB)
  clear head
  have nsc : ∀ {m1 m2 : sm_M}, fr nmP m1 m2 → frw scM m1 m2 := fun f => f.w.mono (fun a k h => nmP_sc h)
  refine c_nameOf hT (by omega) hv r1 hg hs ?_
  generalize NM t n s = N at *
  obtain ⟨P, R⟩ := N
  simp only at *
  have hbd := hnm.bd
  refine ⟨fun q => ?_, fun q => ?_, fun q => ?_, fun q => ?_, fun q => ?_, fun q => ?_⟩
  · refine c_topOf (by omega) (by omega) (by omega) (hd' _ _ hh (fun m2 f2 e1 e2 => ⟨fun _ => ⟨rfl, hI.sc frw.rf (nsc f2)⟩, fun z => by omega, fun z => by omega, fun z => by omega, fun z => by omega, fun z => by omega⟩))
  · refine c_bottomOf (by omega) (hd' _ _ hh (fun m2 f2 e1 e2 => ⟨fun z => by omega, fun _ => ⟨rfl, hI.sc frw.rf (nsc f2)⟩, fun z => by omega, fun z => by omega, fun z => by omega, fun z => by omega⟩))
  · refine c_sizeOf (by omega) hnm hnb (hd' _ _ hh (fun m2 f2 e1 e2 => ⟨fun z => by omega, fun z => by omega, fun _ => c12_sz hly (by omega) hnm hnb (fun m3 f3 => ⟨by rw [jI_i], hI.sc frw.rf ((nsc f2).tr (f3.w.mono (fun a k h => teP_scM h)))⟩), fun z => by omega, fun z => by omega, fun z => by omega⟩))
  · refine c_genus hly (by omega) hnm hnb hszb (fun m1 f1 => hd' _ _ (hh.fr f1 (by unfold rsP; omega) (fun k => by unfold rsP; omega)) (fun m2 f2 e1 e2 => ⟨fun z => by omega, fun z => by omega, fun z => by omega, fun _ => c12_genus (by omega) hnm hnb hszb ⟨rfl, hI.sc (f1.w.mono (fun a k h => rsP74_sc h)) (nsc f2)⟩, fun z => by omega, fun z => by omega⟩))
  · have hgi := gl_is hnm
    have hgb := hgi.bd
    have hg1 : (gl P R).1 = P := by
      unfold gl
      split <;> rfl
    have hpg := pkv_inj (p := (gl P R).1) (q := (gl P R).2) (p' := P) (q' := R) (by omega) (by omega) (by omega) (by omega) (by omega) (by omega) (by omega) (by omega)
    have mod4 : ∀ z : Int, (z = if (gl P R).2 = R then 1 else 0) → sm_callI E L mX12_name d2 0 0 [.ref (sm_B E + 109), .int (iI (a : Nat)), .int (iI s), .int (iI w)] m (fun r2 m2 => iI z = r2 ∧ Inv c m2) := by
      intro z hz
      refine hd' _ _ hh (fun m2 f2 e1 e2 => ⟨fun z => by omega, fun z => by omega, fun z => by omega, fun z => by omega, fun _ => c12_glass hly (by omega) hnm hnb e1 e2 (fun m3 f3 w1' w2' => ?_), fun z => by omega⟩)
      have hI3 := hI.sc frw.rf ((nsc f2).tr (f3.w.mono (fun a k h => nbP_scM h)))
      rw [w1', w2', hg1]
      refine ⟨fun q => absurd rfl q, fun _ => ⟨fun q => ?_, fun q => ?_⟩⟩
      · rw [jI_eq (by omega) (by omega) (by omega) (by omega)] at q
        rw [if_neg q] at hz
        exact ⟨by rw [hz], hI3⟩
      · rw [jI_eq (by omega) (by omega) (by omega) (by omega)] at q
        rw [if_pos q] at hz
        exact ⟨by rw [hz], hI3⟩
    refine c_glassOf2 hnm hnb (by omega) ⟨fun q => ?_, fun q => ?_⟩
    · exact mod4 0 (by rw [if_neg (fun q2 => q (hpg.mpr ⟨hg1, q2⟩))])
    · exact mod4 1 (by rw [if_pos (hpg.mp q).2])
  · have hw56 : w = 5 ∨ w = 6 := by omega
    -- the class
    have cls : ∀ (fl : Int), (fl = if w = 6 then 1 else 0) → sm_callI E L mX11_unlinked 62 0 0 [.ref (sm_B E + 0), .long (pk P R), .int (iI fl)] m (fun r m1 => sm_callI E L mX12_name d2 0 0 [.ref (sm_B E + 109), .int (iI (a : Nat)), .int (iI s), .int (iI w)] m1 (fun r2 m2 => r = r2 ∧ Inv c m2)) := by
      intro fl hfl
      refine vX11_unlinked_0 hly (by omega) (c_sizeOf (by omega) hnm hnb ?_)
      simp (disch := omega) only [forall_eq, true_and, and_true, false_and, and_false, forall_const, true_implies, implies_true, not_true_eq_false, not_false_eq_true, false_implies, if_true, if_false, ↓reduceIte, Int.toNat_natCast, Int.reduceEq, Int.reduceNe, Int.reduceLT, Int.reduceLE, Int.reduceToNat, Int.reduceAdd, Int.reduceSub, Int.reduceMul, Int.reduceNeg, Nat.reduceAdd, Nat.reduceMul, Nat.reduceSub, iI_lit, jI_lit, iI_add, iI_sub, iI_mul, iI_neg, jI_add, jI_sub, jI_mul, jI_neg, nI_i, lN_j, iI_le, iI_lt, iI_eq, jI_le, jI_lt, jI_eq, iI_in, iI_cl, iI_j, jI_i, cN, inN, wI_eq, wI_ne, wJ_1, wJ_eq, wJ_ne, wI_2, wJ_3, iI_div, iI_rem, jI_div, jI_rem, true_or, or_true, false_or, or_false, eq_self, Nat.add_zero]
      refine ⟨fun h12 => ?_, fun h12 => ?_⟩
      rotate_left
      · refine c_error (e := 6) hly (by decide) (by omega) (hd' _ _ (hh.fr (fr.rf.wI (P := fun a k => a = 76) rfl) (by omega) (fun k => by omega)) (fun m2 f2 e1 e2 => ⟨fun z => by omega, fun z => by omega, fun z => by omega, fun z => by omega, fun z => by omega, fun _ => c12_sz hly (by omega) hnm hnb (fun m3 f3 => ?_)⟩))
        simp (disch := omega) only [forall_eq, true_and, and_true, false_and, and_false, forall_const, true_implies, implies_true, not_true_eq_false, not_false_eq_true, false_implies, if_true, if_false, ↓reduceIte, Int.toNat_natCast, Int.reduceEq, Int.reduceNe, Int.reduceLT, Int.reduceLE, Int.reduceToNat, Int.reduceAdd, Int.reduceSub, Int.reduceMul, Int.reduceNeg, Nat.reduceAdd, Nat.reduceMul, Nat.reduceSub, iI_lit, jI_lit, iI_add, iI_sub, iI_mul, iI_neg, jI_add, jI_sub, jI_mul, jI_neg, nI_i, lN_j, iI_le, iI_lt, iI_eq, jI_le, jI_lt, jI_eq, iI_in, iI_cl, iI_j, jI_i, cN, inN, wI_eq, wI_ne, wJ_1, wJ_eq, wJ_ne, wI_2, wJ_3, iI_div, iI_rem, jI_div, jI_rem, true_or, or_true, false_or, or_false, eq_self, Nat.add_zero, h12]
        exact c12_finds (e := 6) hly (by decide) (by omega) ⟨rfl, hI.er frw.rf ((nsc f2).tr (f3.w.mono (fun a k h => teP_scM h)))⟩
      have hs12 : szN P R ≤ 12 := by omega
      by_cases h2 : 2 ≤ P
      rotate_left
      · -- below 2
        have u1 : ¬ (1 < P) := by omega
        refine vX10_numberOf_0 (by omega) (c_topOf (by omega) (by omega) (by omega) ?_)
        simp (disch := omega) only [forall_eq, true_and, and_true, false_and, and_false, forall_const, true_implies, implies_true, not_true_eq_false, not_false_eq_true, false_implies, if_true, if_false, ↓reduceIte, Int.toNat_natCast, Int.reduceEq, Int.reduceNe, Int.reduceLT, Int.reduceLE, Int.reduceToNat, Int.reduceAdd, Int.reduceSub, Int.reduceMul, Int.reduceNeg, Nat.reduceAdd, Nat.reduceMul, Nat.reduceSub, iI_lit, jI_lit, iI_add, iI_sub, iI_mul, iI_neg, jI_add, jI_sub, jI_mul, jI_neg, nI_i, lN_j, iI_le, iI_lt, iI_eq, jI_le, jI_lt, jI_eq, iI_in, iI_cl, iI_j, jI_i, cN, inN, wI_eq, wI_ne, wJ_1, wJ_eq, wJ_ne, wI_2, wJ_3, iI_div, iI_rem, jI_div, jI_rem, true_or, or_true, false_or, or_false, eq_self, Nat.add_zero, u1]
        have mod0 : ∀ (m1 : sm_M) (Q : Int32 → sm_M → Prop), hl m1 a t n → (w = 5 → ∀ m2, frw scM m1 m2 → Q (iI 0) m2) → (w = 6 → ∀ m2, frw scM m1 m2 → Q (iI (-1000000000 - (2 : Nat))) (sm_wI m2 110 2 (m2.1 110 2 + 1))) → sm_callI E L mX12_name d2 0 0 [.ref (sm_B E + 109), .int (iI (a : Nat)), .int (iI s), .int (iI w)] m1 Q := by
          intro m1 Q h1 hq5 hq6
          refine hd' _ _ h1 (fun m2 f2 e1 e2 => ⟨fun z => by omega, fun z => by omega, fun z => by omega, fun z => by omega, fun z => by omega, fun _ => c12_sz hly (by omega) hnm hnb (fun m3 f3 => ?_)⟩)
          simp (disch := omega) only [forall_eq, true_and, and_true, false_and, and_false, forall_const, true_implies, implies_true, not_true_eq_false, not_false_eq_true, false_implies, if_true, if_false, ↓reduceIte, Int.toNat_natCast, Int.reduceEq, Int.reduceNe, Int.reduceLT, Int.reduceLE, Int.reduceToNat, Int.reduceAdd, Int.reduceSub, Int.reduceMul, Int.reduceNeg, Nat.reduceAdd, Nat.reduceMul, Nat.reduceSub, iI_lit, jI_lit, iI_add, iI_sub, iI_mul, iI_neg, jI_add, jI_sub, jI_mul, jI_neg, nI_i, lN_j, iI_le, iI_lt, iI_eq, jI_le, jI_lt, jI_eq, iI_in, iI_cl, iI_j, jI_i, cN, inN, wI_eq, wI_ne, wJ_1, wJ_eq, wJ_ne, wI_2, wJ_3, iI_div, iI_rem, jI_div, jI_rem, true_or, or_true, false_or, or_false, eq_self, Nat.add_zero, h12]
          refine c12_unlinkOf hly 12 P R 0 60 m3 _ hnm hnb (fun q => absurd q h2) (by omega) (by omega) (fun m4 f4 _ => ?_)
          have s4 : frw scM m1 m4 := ((nsc f2).tr (f3.w.mono (fun a k h => teP_scM h))).tr (f4.w.mono (fun a k h => ulP_sc h))
          rw [unl_low (by omega)]
          simp (disch := omega) only [forall_eq, true_and, and_true, false_and, and_false, forall_const, true_implies, implies_true, not_true_eq_false, not_false_eq_true, false_implies, if_true, if_false, ↓reduceIte, Int.toNat_natCast, Int.reduceEq, Int.reduceNe, Int.reduceLT, Int.reduceLE, Int.reduceToNat, Int.reduceAdd, Int.reduceSub, Int.reduceMul, Int.reduceNeg, Nat.reduceAdd, Nat.reduceMul, Nat.reduceSub, iI_lit, jI_lit, iI_add, iI_sub, iI_mul, iI_neg, jI_add, jI_sub, jI_mul, jI_neg, nI_i, lN_j, iI_le, iI_lt, iI_eq, jI_le, jI_lt, jI_eq, iI_in, iI_cl, iI_j, jI_i, cN, inN, wI_eq, wI_ne, wJ_1, wJ_eq, wJ_ne, wI_2, wJ_3, iI_div, iI_rem, jI_div, jI_rem, true_or, or_true, false_or, or_false, eq_self, Nat.add_zero]
          exact ⟨fun q => c12_finds (e := 2) hly (by decide) (by omega) (hq6 (by omega) m4 s4), fun q => hq5 q m4 s4⟩
        rcases hw56 with hw5 | hw6'
        · rw [if_neg (by omega)] at hfl
          subst hfl
          simp (disch := omega) only [forall_eq, true_and, and_true, false_and, and_false, forall_const, true_implies, implies_true, not_true_eq_false, not_false_eq_true, false_implies, if_true, if_false, ↓reduceIte, Int.toNat_natCast, Int.reduceEq, Int.reduceNe, Int.reduceLT, Int.reduceLE, Int.reduceToNat, Int.reduceAdd, Int.reduceSub, Int.reduceMul, Int.reduceNeg, Nat.reduceAdd, Nat.reduceMul, Nat.reduceSub, iI_lit, jI_lit, iI_add, iI_sub, iI_mul, iI_neg, jI_add, jI_sub, jI_mul, jI_neg, nI_i, lN_j, iI_le, iI_lt, iI_eq, jI_le, jI_lt, jI_eq, iI_in, iI_cl, iI_j, jI_i, cN, inN, wI_eq, wI_ne, wJ_1, wJ_eq, wJ_ne, wI_2, wJ_3, iI_div, iI_rem, jI_div, jI_rem, true_or, or_true, false_or, or_false, eq_self, Nat.add_zero]
          exact mod0 m _ hh (fun _ m2 f2 => ⟨rfl, hI.sc frw.rf f2⟩) (fun q => by omega)
        · rw [if_pos (by omega)] at hfl
          subst hfl
          simp (disch := omega) only [forall_eq, true_and, and_true, false_and, and_false, forall_const, true_implies, implies_true, not_true_eq_false, not_false_eq_true, false_implies, if_true, if_false, ↓reduceIte, Int.toNat_natCast, Int.reduceEq, Int.reduceNe, Int.reduceLT, Int.reduceLE, Int.reduceToNat, Int.reduceAdd, Int.reduceSub, Int.reduceMul, Int.reduceNeg, Nat.reduceAdd, Nat.reduceMul, Nat.reduceSub, iI_lit, jI_lit, iI_add, iI_sub, iI_mul, iI_neg, jI_add, jI_sub, jI_mul, jI_neg, nI_i, lN_j, iI_le, iI_lt, iI_eq, jI_le, jI_lt, jI_eq, iI_in, iI_cl, iI_j, jI_i, cN, inN, wI_eq, wI_ne, wJ_1, wJ_eq, wJ_ne, wI_2, wJ_3, iI_div, iI_rem, jI_div, jI_rem, true_or, or_true, false_or, or_false, eq_self, Nat.add_zero]
          exact c_error (e := 2) hly (by decide) (by omega) (mod0 _ _ (hh.fr (fr.rf.wI (P := fun a k => a = 76) rfl) (by omega) (fun k => by omega)) (fun q => by omega) (fun _ m2 f2 => ⟨rfl, hI.er frw.rf f2⟩))
      have hNT : nmT P R := ⟨h2, hnb, hnm⟩
      have hul := unl_le 12 P R (Or.inr ⟨hNT, hs12⟩)
      obtain ⟨k0, j1, j2, j3, j4, j5, j6⟩ := unl_is (f := 11) hNT
      have hun := unl_nn 11 (nxt P R k0).1 (nxt P R k0).2
      have hu1 : 1 ≤ unl 12 P R := by
        have : unl 12 P R = unl 11 (nxt P R k0).1 (nxt P R k0).2 + 1 := j4
        omega
      have mod1 : ∀ (m1 : sm_M) (Q : Int32 → sm_M → Prop), hl m1 a t n → (w = 5 → ∀ m2, frw scM m1 m2 → Q (iI (unl 12 P R)) m2) → (w = 6 → ∀ m2, frw scM m1 m2 → Q (iI (bstG (unl 11) P R (tmN P R)).2) m2) → sm_callI E L mX12_name d2 0 0 [.ref (sm_B E + 109), .int (iI (a : Nat)), .int (iI s), .int (iI w)] m1 Q := by
        intro m1 Q h1 hq5 hq6
        refine hd' _ _ h1 (fun m2 f2 e1 e2 => ⟨fun z => by omega, fun z => by omega, fun z => by omega, fun z => by omega, fun z => by omega, fun _ => c12_sz hly (by omega) hnm hnb (fun m3 f3 => ?_)⟩)
        simp (disch := omega) only [forall_eq, true_and, and_true, false_and, and_false, forall_const, true_implies, implies_true, not_true_eq_false, not_false_eq_true, false_implies, if_true, if_false, ↓reduceIte, Int.toNat_natCast, Int.reduceEq, Int.reduceNe, Int.reduceLT, Int.reduceLE, Int.reduceToNat, Int.reduceAdd, Int.reduceSub, Int.reduceMul, Int.reduceNeg, Nat.reduceAdd, Nat.reduceMul, Nat.reduceSub, iI_lit, jI_lit, iI_add, iI_sub, iI_mul, iI_neg, jI_add, jI_sub, jI_mul, jI_neg, nI_i, lN_j, iI_le, iI_lt, iI_eq, jI_le, jI_lt, jI_eq, iI_in, iI_cl, iI_j, jI_i, cN, inN, wI_eq, wI_ne, wJ_1, wJ_eq, wJ_ne, wI_2, wJ_3, iI_div, iI_rem, jI_div, jI_rem, true_or, or_true, false_or, or_false, eq_self, Nat.add_zero, h12]
        refine c12_unlinkOf hly 12 P R 0 60 m3 _ hnm hnb (fun _ => ⟨hs12, by omega, by omega⟩) (by omega) (by omega) (fun m4 f4 v64 => ?_)
        have s4 : frw scM m1 m4 := ((nsc f2).tr (f3.w.mono (fun a k h => teP_scM h))).tr (f4.w.mono (fun a k h => ulP_sc h))
        have v64' : m4.1 109 64 = iI (bstG (unl 11) P R (tmN P R)).2 := v64 h2
        have u0 : ¬ (unl 12 P R = 0) := by omega
        rw [v64']
        simp (disch := omega) only [forall_eq, true_and, and_true, false_and, and_false, forall_const, true_implies, implies_true, not_true_eq_false, not_false_eq_true, false_implies, if_true, if_false, ↓reduceIte, Int.toNat_natCast, Int.reduceEq, Int.reduceNe, Int.reduceLT, Int.reduceLE, Int.reduceToNat, Int.reduceAdd, Int.reduceSub, Int.reduceMul, Int.reduceNeg, Nat.reduceAdd, Nat.reduceMul, Nat.reduceSub, iI_lit, jI_lit, iI_add, iI_sub, iI_mul, iI_neg, jI_add, jI_sub, jI_mul, jI_neg, nI_i, lN_j, iI_le, iI_lt, iI_eq, jI_le, jI_lt, jI_eq, iI_in, iI_cl, iI_j, jI_i, cN, inN, wI_eq, wI_ne, wJ_1, wJ_eq, wJ_ne, wI_2, wJ_3, iI_div, iI_rem, jI_div, jI_rem, true_or, or_true, false_or, or_false, eq_self, Nat.add_zero, u0]
        exact ⟨fun q => hq6 (by omega) m4 s4, fun q => hq5 q m4 s4⟩
      refine c_numberOf hly (by omega) hNT hs12 (fun m1 f1 => ?_)
      have s1' : frw scC m m1 := f1.w.mono (fun a k h => rwP_sc (by omega) h)
      have hh1 : hl m1 a t n := hh.fr f1 (by unfold rwP; omega) (fun k => by unfold rwP; omega)
      have u0 : ¬ (unl 12 P R = 0) := by omega
      rcases hw56 with hw5 | hw6'
      · rw [if_neg (by omega)] at hfl
        subst hfl
        simp (disch := omega) only [forall_eq, true_and, and_true, false_and, and_false, forall_const, true_implies, implies_true, not_true_eq_false, not_false_eq_true, false_implies, if_true, if_false, ↓reduceIte, Int.toNat_natCast, Int.reduceEq, Int.reduceNe, Int.reduceLT, Int.reduceLE, Int.reduceToNat, Int.reduceAdd, Int.reduceSub, Int.reduceMul, Int.reduceNeg, Nat.reduceAdd, Nat.reduceMul, Nat.reduceSub, iI_lit, jI_lit, iI_add, iI_sub, iI_mul, iI_neg, jI_add, jI_sub, jI_mul, jI_neg, nI_i, lN_j, iI_le, iI_lt, iI_eq, jI_le, jI_lt, jI_eq, iI_in, iI_cl, iI_j, jI_i, cN, inN, wI_eq, wI_ne, wJ_1, wJ_eq, wJ_ne, wI_2, wJ_3, iI_div, iI_rem, jI_div, jI_rem, true_or, or_true, false_or, or_false, eq_self, Nat.add_zero]
        exact mod1 m1 _ hh1 (fun _ m2 f2 => ⟨rfl, hI.sc s1' f2⟩) (fun q => by omega)
      · rw [if_pos (by omega)] at hfl
        subst hfl
        simp (disch := omega) only [forall_eq, true_and, and_true, false_and, and_false, forall_const, true_implies, implies_true, not_true_eq_false, not_false_eq_true, false_implies, if_true, if_false, ↓reduceIte, Int.toNat_natCast, Int.reduceEq, Int.reduceNe, Int.reduceLT, Int.reduceLE, Int.reduceToNat, Int.reduceAdd, Int.reduceSub, Int.reduceMul, Int.reduceNeg, Nat.reduceAdd, Nat.reduceMul, Nat.reduceSub, iI_lit, jI_lit, iI_add, iI_sub, iI_mul, iI_neg, jI_add, jI_sub, jI_mul, jI_neg, nI_i, lN_j, iI_le, iI_lt, iI_eq, jI_le, jI_lt, jI_eq, iI_in, iI_cl, iI_j, jI_i, cN, inN, wI_eq, wI_ne, wJ_1, wJ_eq, wJ_ne, wI_2, wJ_3, iI_div, iI_rem, jI_div, jI_rem, true_or, or_true, false_or, or_false, eq_self, Nat.add_zero, u0]
        obtain ⟨ch, hch⟩ : ∃ ch : Nat, unl 12 P R = (ch : Int) := ⟨(unl 12 P R).toNat, by omega⟩
        rw [hch]
        refine c_uplace hly (by omega) hNT hs12 hch (fun m3 f3 => ?_)
        have hh3 : hl m3 a t n := hh1.fr f3 (by unfold rwP; omega) (fun k => by unfold rwP; omega)
        exact mod1 m3 _ hh3 (fun q => by omega) (fun _ m2 f2 => ⟨rfl, hI.sc (s1'.tr (f3.w.mono (fun a k h => rwP_sc (by omega) h))) f2⟩)
    exact ⟨fun z => cls 0 (by rw [if_neg z]), fun z => cls 1 (by rw [if_pos z])⟩
end K20
