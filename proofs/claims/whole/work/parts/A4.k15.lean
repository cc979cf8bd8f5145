/-! crossing, linked: the calls -/
section K15
variable {E : sm_E} {L : sm_S → Prop} {d1 d2 : Nat} {m : sm_M} {c : Nat}
theorem k_crossing {x1 x2 x3 x4 : Int32} (hly : ∀ S, L S → ly S) (hd1 : 6 ≤ d1) (hd2 : 5 ≤ d2) (hI : Inv c m) : sm_callI E L mX11_crossing d1 0 0 [.ref (sm_B E + 0), .int x1, .int x2, .int x3, .int x4] m (fun r m1 => sm_callI E L mX12_crossing d2 0 0 [.ref (sm_B E + 109), .int x1, .int x2, .int x3, .int x4] m1 (fun r2 m2 => r = r2 ∧ Inv c m2)) := by
  obtain ⟨i, i1, i2, rfl⟩ := iI_ex x1
  obtain ⟨sd, s1, s2, rfl⟩ := iI_ex x2
  obtain ⟨b, b1, b2, rfl⟩ := iI_ex x3
  obtain ⟨w, w1, w2, rfl⟩ := iI_ex x4
  by_cases hi : 0 ≤ i ∧ i < 6
  rotate_left
  · refine vX11_crossing_0 hly hd1 (c_isSlot i1 i2 (by omega) ?_)
    simp (disch := omega) only [forall_eq, true_and, and_true, false_and, and_false, forall_const, true_implies, implies_true, not_true_eq_false, not_false_eq_true, false_implies, if_true, if_false, ↓reduceIte, Int.toNat_natCast, Int.reduceEq, Int.reduceNe, Int.reduceLT, Int.reduceLE, Int.reduceToNat, Int.reduceAdd, Int.reduceSub, Int.reduceMul, Int.reduceNeg, Nat.reduceAdd, Nat.reduceMul, Nat.reduceSub, iI_lit, jI_lit, iI_add, iI_sub, iI_mul, iI_neg, jI_add, jI_sub, jI_mul, jI_neg, nI_i, lN_j, iI_le, iI_lt, iI_eq, jI_le, jI_lt, jI_eq, iI_in, iI_cl, iI_j, jI_i, cN, inN, wI_eq, wI_ne, wJ_1, wJ_eq, wJ_ne, wI_2, wJ_3, iI_div, iI_rem, jI_div, jI_rem, true_or, or_true, false_or, or_false, eq_self, Nat.add_zero, hi]
    refine c_error (e := 1) hly (by decide) (by omega) (vX12_crossing_0 hly hd2 (c12_isSlot i1 i2 (by omega) ?_))
    simp (disch := omega) only [forall_eq, true_and, and_true, false_and, and_false, forall_const, true_implies, implies_true, not_true_eq_false, not_false_eq_true, false_implies, if_true, if_false, ↓reduceIte, Int.toNat_natCast, Int.reduceEq, Int.reduceNe, Int.reduceLT, Int.reduceLE, Int.reduceToNat, Int.reduceAdd, Int.reduceSub, Int.reduceMul, Int.reduceNeg, Nat.reduceAdd, Nat.reduceMul, Nat.reduceSub, iI_lit, jI_lit, iI_add, iI_sub, iI_mul, iI_neg, jI_add, jI_sub, jI_mul, jI_neg, nI_i, lN_j, iI_le, iI_lt, iI_eq, jI_le, jI_lt, jI_eq, iI_in, iI_cl, iI_j, jI_i, cN, inN, wI_eq, wI_ne, wJ_1, wJ_eq, wJ_ne, wI_2, wJ_3, iI_div, iI_rem, jI_div, jI_rem, true_or, or_true, false_or, or_false, eq_self, Nat.add_zero, hi]
    exact c12_finds (e := 1) hly (by decide) (by omega) ⟨rfl, hI.er frw.rf frw.rf⟩
  by_cases hs : sd = 0 ∨ sd = 1
  rotate_left
  · refine vX11_crossing_0 hly hd1 (c_isSlot i1 i2 (by omega) ?_)
    simp (disch := omega) only [forall_eq, true_and, and_true, false_and, and_false, forall_const, true_implies, implies_true, not_true_eq_false, not_false_eq_true, false_implies, if_true, if_false, ↓reduceIte, Int.toNat_natCast, Int.reduceEq, Int.reduceNe, Int.reduceLT, Int.reduceLE, Int.reduceToNat, Int.reduceAdd, Int.reduceSub, Int.reduceMul, Int.reduceNeg, Nat.reduceAdd, Nat.reduceMul, Nat.reduceSub, iI_lit, jI_lit, iI_add, iI_sub, iI_mul, iI_neg, jI_add, jI_sub, jI_mul, jI_neg, nI_i, lN_j, iI_le, iI_lt, iI_eq, jI_le, jI_lt, jI_eq, iI_in, iI_cl, iI_j, jI_i, cN, inN, wI_eq, wI_ne, wJ_1, wJ_eq, wJ_ne, wI_2, wJ_3, iI_div, iI_rem, jI_div, jI_rem, true_or, or_true, false_or, or_false, eq_self, Nat.add_zero, hi]
    refine c_isChoice s1 s2 (by omega) ?_
    simp (disch := omega) only [forall_eq, true_and, and_true, false_and, and_false, forall_const, true_implies, implies_true, not_true_eq_false, not_false_eq_true, false_implies, if_true, if_false, ↓reduceIte, Int.toNat_natCast, Int.reduceEq, Int.reduceNe, Int.reduceLT, Int.reduceLE, Int.reduceToNat, Int.reduceAdd, Int.reduceSub, Int.reduceMul, Int.reduceNeg, Nat.reduceAdd, Nat.reduceMul, Nat.reduceSub, iI_lit, jI_lit, iI_add, iI_sub, iI_mul, iI_neg, jI_add, jI_sub, jI_mul, jI_neg, nI_i, lN_j, iI_le, iI_lt, iI_eq, jI_le, jI_lt, jI_eq, iI_in, iI_cl, iI_j, jI_i, cN, inN, wI_eq, wI_ne, wJ_1, wJ_eq, wJ_ne, wI_2, wJ_3, iI_div, iI_rem, jI_div, jI_rem, true_or, or_true, false_or, or_false, eq_self, Nat.add_zero, hs]
    refine c_error (e := 1) hly (by decide) (by omega) (vX12_crossing_0 hly hd2 (c12_isSlot i1 i2 (by omega) ?_))
    simp (disch := omega) only [forall_eq, true_and, and_true, false_and, and_false, forall_const, true_implies, implies_true, not_true_eq_false, not_false_eq_true, false_implies, if_true, if_false, ↓reduceIte, Int.toNat_natCast, Int.reduceEq, Int.reduceNe, Int.reduceLT, Int.reduceLE, Int.reduceToNat, Int.reduceAdd, Int.reduceSub, Int.reduceMul, Int.reduceNeg, Nat.reduceAdd, Nat.reduceMul, Nat.reduceSub, iI_lit, jI_lit, iI_add, iI_sub, iI_mul, iI_neg, jI_add, jI_sub, jI_mul, jI_neg, nI_i, lN_j, iI_le, iI_lt, iI_eq, jI_le, jI_lt, jI_eq, iI_in, iI_cl, iI_j, jI_i, cN, inN, wI_eq, wI_ne, wJ_1, wJ_eq, wJ_ne, wI_2, wJ_3, iI_div, iI_rem, jI_div, jI_rem, true_or, or_true, false_or, or_false, eq_self, Nat.add_zero, hi]
    refine c12_isPart s1 s2 (by omega) ?_
    simp (disch := omega) only [forall_eq, true_and, and_true, false_and, and_false, forall_const, true_implies, implies_true, not_true_eq_false, not_false_eq_true, false_implies, if_true, if_false, ↓reduceIte, Int.toNat_natCast, Int.reduceEq, Int.reduceNe, Int.reduceLT, Int.reduceLE, Int.reduceToNat, Int.reduceAdd, Int.reduceSub, Int.reduceMul, Int.reduceNeg, Nat.reduceAdd, Nat.reduceMul, Nat.reduceSub, iI_lit, jI_lit, iI_add, iI_sub, iI_mul, iI_neg, jI_add, jI_sub, jI_mul, jI_neg, nI_i, lN_j, iI_le, iI_lt, iI_eq, jI_le, jI_lt, jI_eq, iI_in, iI_cl, iI_j, jI_i, cN, inN, wI_eq, wI_ne, wJ_1, wJ_eq, wJ_ne, wI_2, wJ_3, iI_div, iI_rem, jI_div, jI_rem, true_or, or_true, false_or, or_false, eq_self, Nat.add_zero, hs]
    exact c12_finds (e := 1) hly (by decide) (by omega) ⟨rfl, hI.er frw.rf frw.rf⟩
  have badw : ¬ (0 ≤ w ∧ w ≤ 2) → sm_callI E L mX11_error 1 0 0 [.ref (sm_B E + 0), .int (iI 1)] m (fun r m1 => sm_callI E L mX12_crossing d2 0 0 [.ref (sm_B E + 109), .int (iI i), .int (iI sd), .int (iI b), .int (iI w)] m1 (fun r2 m2 => r = r2 ∧ Inv c m2)) := by
    intro hw
    refine c_error (e := 1) hly (by decide) (by omega) (vX12_crossing_0 hly hd2 (c12_isSlot i1 i2 (by omega) ?_))
    simp (disch := omega) only [forall_eq, true_and, and_true, false_and, and_false, forall_const, true_implies, implies_true, not_true_eq_false, not_false_eq_true, false_implies, if_true, if_false, ↓reduceIte, Int.toNat_natCast, Int.reduceEq, Int.reduceNe, Int.reduceLT, Int.reduceLE, Int.reduceToNat, Int.reduceAdd, Int.reduceSub, Int.reduceMul, Int.reduceNeg, Nat.reduceAdd, Nat.reduceMul, Nat.reduceSub, iI_lit, jI_lit, iI_add, iI_sub, iI_mul, iI_neg, jI_add, jI_sub, jI_mul, jI_neg, nI_i, lN_j, iI_le, iI_lt, iI_eq, jI_le, jI_lt, jI_eq, iI_in, iI_cl, iI_j, jI_i, cN, inN, wI_eq, wI_ne, wJ_1, wJ_eq, wJ_ne, wI_2, wJ_3, iI_div, iI_rem, jI_div, jI_rem, true_or, or_true, false_or, or_false, eq_self, Nat.add_zero, hi]
    refine c12_isPart s1 s2 (by omega) ?_
    simp (disch := omega) only [forall_eq, true_and, and_true, false_and, and_false, forall_const, true_implies, implies_true, not_true_eq_false, not_false_eq_true, false_implies, if_true, if_false, ↓reduceIte, Int.toNat_natCast, Int.reduceEq, Int.reduceNe, Int.reduceLT, Int.reduceLE, Int.reduceToNat, Int.reduceAdd, Int.reduceSub, Int.reduceMul, Int.reduceNeg, Nat.reduceAdd, Nat.reduceMul, Nat.reduceSub, iI_lit, jI_lit, iI_add, iI_sub, iI_mul, iI_neg, jI_add, jI_sub, jI_mul, jI_neg, nI_i, lN_j, iI_le, iI_lt, iI_eq, jI_le, jI_lt, jI_eq, iI_in, iI_cl, iI_j, jI_i, cN, inN, wI_eq, wI_ne, wJ_1, wJ_eq, wJ_ne, wI_2, wJ_3, iI_div, iI_rem, jI_div, jI_rem, true_or, or_true, false_or, or_false, eq_self, Nat.add_zero, hs]
    refine c12_isIn (by omega) (by omega) (by omega) (by omega) (by omega) (by omega) (by omega) ?_
    rw [if_neg hw]
    simp (disch := omega) only [forall_eq, true_and, and_true, false_and, and_false, forall_const, true_implies, implies_true, not_true_eq_false, not_false_eq_true, false_implies, if_true, if_false, ↓reduceIte, Int.toNat_natCast, Int.reduceEq, Int.reduceNe, Int.reduceLT, Int.reduceLE, Int.reduceToNat, Int.reduceAdd, Int.reduceSub, Int.reduceMul, Int.reduceNeg, Nat.reduceAdd, Nat.reduceMul, Nat.reduceSub, iI_lit, jI_lit, iI_add, iI_sub, iI_mul, iI_neg, jI_add, jI_sub, jI_mul, jI_neg, nI_i, lN_j, iI_le, iI_lt, iI_eq, jI_le, jI_lt, jI_eq, iI_in, iI_cl, iI_j, jI_i, cN, inN, wI_eq, wI_ne, wJ_1, wJ_eq, wJ_ne, wI_2, wJ_3, iI_div, iI_rem, jI_div, jI_rem, true_or, or_true, false_or, or_false, eq_self, Nat.add_zero]
    exact c12_finds (e := 1) hly (by decide) (by omega) ⟨rfl, hI.er frw.rf frw.rf⟩
  obtain ⟨j, rfl⟩ : ∃ j : Nat, i = (j : Int) := ⟨i.toNat, by omega⟩
  obtain ⟨side, rfl⟩ : ∃ side : Nat, sd = (side : Int) := ⟨sd.toNat, by omega⟩
  have hj : j < 6 := by omega
  have hside : side = 0 ∨ side = 1 := by omega
  obtain ⟨t, n, hv, hg, hh⟩ := hI.2.1.1 j hj
  obtain ⟨K, Z, W, po, st, ps, ho, ea, hF, kc, kr⟩ := k_draw (E := E) (L := L) hv hside hly
  have hc24 := hF.1
  have hK := hF.2.1
  have v3 := hg.1.2.2.2.1
  have model : 0 ≤ w → w ≤ 2 → ∀ (m1 : sm_M) (Q : Int32 → sm_M → Prop), hl m1 j t n → (¬ (0 ≤ b ∧ b < crs t n) → ∀ m2, frw scM m1 m2 → Q (iI (-1000000000 - (1 : Nat))) (sm_wI m2 110 1 (m2.1 110 1 + 1))) → (∀ b' : Nat, b = b' → b' < crs t n → ∀ m2, frw scM m1 m2 → Q (iI (if w = 0 then (ho (2 * b') : Int) else if w = 1 then (ho (2 * b' + 1) : Int) else sgn po ea b')) m2) → sm_callI E L mX12_crossing d2 0 0 [.ref (sm_B E + 109), .int (iI (j : Nat)), .int (iI (side : Nat)), .int (iI b), .int (iI w)] m1 Q := by
    intro hw1 hw2 m1 Q h1 hQ0 hQ1
    refine vX12_crossing_0 hly hd2 (c12_isSlot i1 i2 (by omega) ?_)
    simp (disch := omega) only [forall_eq, true_and, and_true, false_and, and_false, forall_const, true_implies, implies_true, not_true_eq_false, not_false_eq_true, false_implies, if_true, if_false, ↓reduceIte, Int.toNat_natCast, Int.reduceEq, Int.reduceNe, Int.reduceLT, Int.reduceLE, Int.reduceToNat, Int.reduceAdd, Int.reduceSub, Int.reduceMul, Int.reduceNeg, Nat.reduceAdd, Nat.reduceMul, Nat.reduceSub, iI_lit, jI_lit, iI_add, iI_sub, iI_mul, iI_neg, jI_add, jI_sub, jI_mul, jI_neg, nI_i, lN_j, iI_le, iI_lt, iI_eq, jI_le, jI_lt, jI_eq, iI_in, iI_cl, iI_j, jI_i, cN, inN, wI_eq, wI_ne, wJ_1, wJ_eq, wJ_ne, wI_2, wJ_3, iI_div, iI_rem, jI_div, jI_rem, true_or, or_true, false_or, or_false, eq_self, Nat.add_zero, hi]
    refine c12_isPart s1 s2 (by omega) ?_
    simp (disch := omega) only [forall_eq, true_and, and_true, false_and, and_false, forall_const, true_implies, implies_true, not_true_eq_false, not_false_eq_true, false_implies, if_true, if_false, ↓reduceIte, Int.toNat_natCast, Int.reduceEq, Int.reduceNe, Int.reduceLT, Int.reduceLE, Int.reduceToNat, Int.reduceAdd, Int.reduceSub, Int.reduceMul, Int.reduceNeg, Nat.reduceAdd, Nat.reduceMul, Nat.reduceSub, iI_lit, jI_lit, iI_add, iI_sub, iI_mul, iI_neg, jI_add, jI_sub, jI_mul, jI_neg, nI_i, lN_j, iI_le, iI_lt, iI_eq, jI_le, jI_lt, jI_eq, iI_in, iI_cl, iI_j, jI_i, cN, inN, wI_eq, wI_ne, wJ_1, wJ_eq, wJ_ne, wI_2, wJ_3, iI_div, iI_rem, jI_div, jI_rem, true_or, or_true, false_or, or_false, eq_self, Nat.add_zero, hs]
    refine c12_isIn (by omega) (by omega) (by omega) (by omega) (by omega) (by omega) (by omega) ?_
    rw [if_pos ⟨hw1, hw2⟩]
    simp (disch := omega) only [forall_eq, true_and, and_true, false_and, and_false, forall_const, true_implies, implies_true, not_true_eq_false, not_false_eq_true, false_implies, if_true, if_false, ↓reduceIte, Int.toNat_natCast, Int.reduceEq, Int.reduceNe, Int.reduceLT, Int.reduceLE, Int.reduceToNat, Int.reduceAdd, Int.reduceSub, Int.reduceMul, Int.reduceNeg, Nat.reduceAdd, Nat.reduceMul, Nat.reduceSub, iI_lit, jI_lit, iI_add, iI_sub, iI_mul, iI_neg, jI_add, jI_sub, jI_mul, jI_neg, nI_i, lN_j, iI_le, iI_lt, iI_eq, jI_le, jI_lt, jI_eq, iI_in, iI_cl, iI_j, jI_i, cN, inN, wI_eq, wI_ne, wJ_1, wJ_eq, wJ_ne, wI_2, wJ_3, iI_div, iI_rem, jI_div, jI_rem, true_or, or_true, false_or, or_false, eq_self, Nat.add_zero]
    refine kr m1 j 4 _ (by omega) hj h1 (fun m2 f2 hM => ?_)
    have s2' : frw scM m1 m2 := f2.w.mono (fun a k h => dMP_sc h)
    simp (disch := omega) only [forall_eq, true_and, and_true, false_and, and_false, forall_const, true_implies, implies_true, not_true_eq_false, not_false_eq_true, false_implies, if_true, if_false, ↓reduceIte, Int.toNat_natCast, Int.reduceEq, Int.reduceNe, Int.reduceLT, Int.reduceLE, Int.reduceToNat, Int.reduceAdd, Int.reduceSub, Int.reduceMul, Int.reduceNeg, Nat.reduceAdd, Nat.reduceMul, Nat.reduceSub, iI_lit, jI_lit, iI_add, iI_sub, iI_mul, iI_neg, jI_add, jI_sub, jI_mul, jI_neg, nI_i, lN_j, iI_le, iI_lt, iI_eq, jI_le, jI_lt, jI_eq, iI_in, iI_cl, iI_j, jI_i, cN, inN, wI_eq, wI_ne, wJ_1, wJ_eq, wJ_ne, wI_2, wJ_3, iI_div, iI_rem, jI_div, jI_rem, true_or, or_true, false_or, or_false, eq_self, Nat.add_zero, hM.1]
    refine c12_isIn (by omega) (by omega) (by omega) (by omega) (by omega) (by omega) (by omega) ?_
    by_cases hb : 0 ≤ b ∧ b ≤ (crs t n : Int) - 1
    · rw [if_pos hb]
      obtain ⟨b', rfl⟩ : ∃ b' : Nat, b = (b' : Int) := ⟨b.toNat, by omega⟩
      have hQ := hQ1 b' rfl (by omega) m2 s2'
      simp (disch := omega) only [forall_eq, true_and, and_true, false_and, and_false, forall_const, true_implies, implies_true, not_true_eq_false, not_false_eq_true, false_implies, if_true, if_false, ↓reduceIte, Int.toNat_natCast, Int.reduceEq, Int.reduceNe, Int.reduceLT, Int.reduceLE, Int.reduceToNat, Int.reduceAdd, Int.reduceSub, Int.reduceMul, Int.reduceNeg, Nat.reduceAdd, Nat.reduceMul, Nat.reduceSub, iI_lit, jI_lit, iI_add, iI_sub, iI_mul, iI_neg, jI_add, jI_sub, jI_mul, jI_neg, nI_i, lN_j, iI_le, iI_lt, iI_eq, jI_le, jI_lt, jI_eq, iI_in, iI_cl, iI_j, jI_i, cN, inN, wI_eq, wI_ne, wJ_1, wJ_eq, wJ_ne, wI_2, wJ_3, iI_div, iI_rem, jI_div, jI_rem, true_or, or_true, false_or, or_false, eq_self, Nat.add_zero]
      refine ⟨fun q => ?_, fun q => ?_⟩
      · rw [if_neg (by omega), if_neg (by omega)] at hQ
        exact c12_signOf hly (by omega) hF hM (by omega) hQ
      · have hw01 : w = 0 ∨ w = 1 := by omega
        rcases hw01 with rfl | rfl
        · have v0 := hM.2.2.2.2.2.2.1 (2 * b') (by omega)
          have e0 : (2 * (b' : Int) + 0).toNat = 2 * b' := by omega
          rw [if_pos rfl] at hQ
          rw [e0, v0]
          exact ⟨by omega, hQ⟩
        · have v0 := hM.2.2.2.2.2.2.1 (2 * b' + 1) (by omega)
          have e0 : (2 * (b' : Int) + 1).toNat = 2 * b' + 1 := by omega
          rw [if_neg (by decide), if_pos rfl] at hQ
          rw [e0, v0]
          exact ⟨by omega, hQ⟩
    · rw [if_neg hb]
      simp (disch := omega) only [forall_eq, true_and, and_true, false_and, and_false, forall_const, true_implies, implies_true, not_true_eq_false, not_false_eq_true, false_implies, if_true, if_false, ↓reduceIte, Int.toNat_natCast, Int.reduceEq, Int.reduceNe, Int.reduceLT, Int.reduceLE, Int.reduceToNat, Int.reduceAdd, Int.reduceSub, Int.reduceMul, Int.reduceNeg, Nat.reduceAdd, Nat.reduceMul, Nat.reduceSub, iI_lit, jI_lit, iI_add, iI_sub, iI_mul, iI_neg, jI_add, jI_sub, jI_mul, jI_neg, nI_i, lN_j, iI_le, iI_lt, iI_eq, jI_le, jI_lt, jI_eq, iI_in, iI_cl, iI_j, jI_i, cN, inN, wI_eq, wI_ne, wJ_1, wJ_eq, wJ_ne, wI_2, wJ_3, iI_div, iI_rem, jI_div, jI_rem, true_or, or_true, false_or, or_false, eq_self, Nat.add_zero]
      exact c12_finds (e := 1) hly (by decide) (by omega) (hQ0 (by omega) m2 s2')
  refine vX11_crossing_0 hly hd1 (c_isSlot i1 i2 (by omega) ?_)
  simp (disch := omega) only [forall_eq, true_and, and_true, false_and, and_false, forall_const, true_implies, implies_true, not_true_eq_false, not_false_eq_true, false_implies, if_true, if_false, ↓reduceIte, Int.toNat_natCast, Int.reduceEq, Int.reduceNe, Int.reduceLT, Int.reduceLE, Int.reduceToNat, Int.reduceAdd, Int.reduceSub, Int.reduceMul, Int.reduceNeg, Nat.reduceAdd, Nat.reduceMul, Nat.reduceSub, iI_lit, jI_lit, iI_add, iI_sub, iI_mul, iI_neg, jI_add, jI_sub, jI_mul, jI_neg, nI_i, lN_j, iI_le, iI_lt, iI_eq, jI_le, jI_lt, jI_eq, iI_in, iI_cl, iI_j, jI_i, cN, inN, wI_eq, wI_ne, wJ_1, wJ_eq, wJ_ne, wI_2, wJ_3, iI_div, iI_rem, jI_div, jI_rem, true_or, or_true, false_or, or_false, eq_self, Nat.add_zero, hi]
  refine c_isChoice s1 s2 (by omega) ?_
  simp (disch := omega) only [forall_eq, true_and, and_true, false_and, and_false, forall_const, true_implies, implies_true, not_true_eq_false, not_false_eq_true, false_implies, if_true, if_false, ↓reduceIte, Int.toNat_natCast, Int.reduceEq, Int.reduceNe, Int.reduceLT, Int.reduceLE, Int.reduceToNat, Int.reduceAdd, Int.reduceSub, Int.reduceMul, Int.reduceNeg, Nat.reduceAdd, Nat.reduceMul, Nat.reduceSub, iI_lit, jI_lit, iI_add, iI_sub, iI_mul, iI_neg, jI_add, jI_sub, jI_mul, jI_neg, nI_i, lN_j, iI_le, iI_lt, iI_eq, jI_le, jI_lt, jI_eq, iI_in, iI_cl, iI_j, jI_i, cN, inN, wI_eq, wI_ne, wJ_1, wJ_eq, wJ_ne, wI_2, wJ_3, iI_div, iI_rem, jI_div, jI_rem, true_or, or_true, false_or, or_false, eq_self, Nat.add_zero, hs]
  refine ⟨fun hw => badw (by omega), fun hw => ⟨fun hw2 => ⟨by omega, fun hb => ?_, fun hb => ?_⟩, fun hw2 => badw (by omega)⟩⟩
  · exact c_error (e := 1) hly (by decide) (by omega) (model (by omega) hw2 _ _ (hh.fr (fr.rf.wI (P := fun a k => a = 76) rfl) (by omega) (fun k => by omega)) (fun _ m2 f2 => ⟨rfl, hI.er frw.rf f2⟩) (fun b' e _ => by omega))
  · rw [v3]
    simp (disch := omega) only [forall_eq, true_and, and_true, false_and, and_false, forall_const, true_implies, implies_true, not_true_eq_false, not_false_eq_true, false_implies, if_true, if_false, ↓reduceIte, Int.toNat_natCast, Int.reduceEq, Int.reduceNe, Int.reduceLT, Int.reduceLE, Int.reduceToNat, Int.reduceAdd, Int.reduceSub, Int.reduceMul, Int.reduceNeg, Nat.reduceAdd, Nat.reduceMul, Nat.reduceSub, iI_lit, jI_lit, iI_add, iI_sub, iI_mul, iI_neg, jI_add, jI_sub, jI_mul, jI_neg, nI_i, lN_j, iI_le, iI_lt, iI_eq, jI_le, jI_lt, jI_eq, iI_in, iI_cl, iI_j, jI_i, cN, inN, wI_eq, wI_ne, wJ_1, wJ_eq, wJ_ne, wI_2, wJ_3, iI_div, iI_rem, jI_div, jI_rem, true_or, or_true, false_or, or_false, eq_self, Nat.add_zero]
    refine ⟨fun hb2 => ?_, fun hb2 => ?_⟩
    · obtain ⟨b', rfl⟩ : ∃ b' : Nat, b = (b' : Int) := ⟨b.toNat, by omega⟩
      refine kc m j 5 _ (by omega) hj hg.1 (fun m1 f1 hC => ?_)
      have s1' : frw scC m m1 := f1.w.mono (fun a k h => dCP_sc h)
      have hh1 : hl m1 j t n := hh.fr f1 (by unfold dCP; omega) (fun k => by unfold dCP; omega)
      have fin : ∀ z : Int, z = (if w = 0 then (ho (2 * b') : Int) else if w = 1 then (ho (2 * b' + 1) : Int) else sgn po ea b') → sm_callI E L mX12_crossing d2 0 0 [.ref (sm_B E + 109), .int (iI (j : Nat)), .int (iI (side : Nat)), .int (iI (b' : Nat)), .int (iI w)] m1 (fun r2 m2 => iI z = r2 ∧ Inv c m2) := by
        intro z hz
        refine model (by omega) hw2 m1 _ hh1 (fun h => absurd (by omega) h) (fun b'' e hb'' m2 f2 => ?_)
        have e2 : b'' = b' := by omega
        subst e2
        exact ⟨by rw [hz], hI.sc s1' f2⟩
      refine ⟨fun q => ?_, fun q => ?_, fun q => ?_⟩
      · exact c_overAt hly (by omega) hc24 hC (by omega) (fin _ (by rw [if_pos q]))
      · exact c_underAt hly (by omega) hc24 hC (by omega) (fin _ (by rw [if_neg (by omega), if_pos q]))
      · exact c_signAt hly (by omega) hF hC (by omega) (fin _ (by rw [if_neg q.1, if_neg q.2]))
    · exact c_error (e := 1) hly (by decide) (by omega) (model (by omega) hw2 _ _ (hh.fr (fr.rf.wI (P := fun a k => a = 76) rfl) (by omega) (fun k => by omega)) (fun _ m2 f2 => ⟨rfl, hI.er frw.rf f2⟩) (fun b' e _ => by omega))
end K15
