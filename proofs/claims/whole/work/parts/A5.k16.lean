/-! linked, gauss -/
section K16
variable {E : sm_E} {L : sm_S → Prop} {d d1 d2 : Nat} {m : sm_M} {c K Z w cc : Nat} {po st ps ho ea : Nat → Nat}
theorem c_hasComponent {Q : Int32 → sm_M → Prop} {x : Int} (hly : ∀ S, L S → ly S) (hd : 1 ≤ d) (hF : rF c K Z w po st ps ho ea) (hC : rC m c K Z w po st ps ho ea) (x1 : -2147483648 ≤ x) (x2 : x ≤ 2147483647) (h : Q (iI (if 0 ≤ x ∧ x < K then 1 else 0)) m) : sm_callI E L mX2_hasComponent d 0 0 [.ref (sm_B E + 16), .int (iI x)] m Q := by
  have hc := hF.1
  have hK := hF.2.1
  refine vX2_hasComponent_0 hly hd ?_
  simp (disch := omega) only [forall_eq, true_and, and_true, false_and, and_false, forall_const, true_implies, implies_true, not_true_eq_false, not_false_eq_true, false_implies, if_true, if_false, ↓reduceIte, Int.toNat_natCast, Int.reduceEq, Int.reduceNe, Int.reduceLT, Int.reduceLE, Int.reduceToNat, Int.reduceAdd, Int.reduceSub, Int.reduceMul, Int.reduceNeg, Nat.reduceAdd, Nat.reduceMul, Nat.reduceSub, iI_lit, jI_lit, iI_add, iI_sub, iI_mul, iI_neg, jI_add, jI_sub, jI_mul, jI_neg, nI_i, lN_j, iI_le, iI_lt, iI_eq, jI_le, jI_lt, jI_eq, iI_in, iI_cl, iI_j, jI_i, cN, inN, wI_eq, wI_ne, wJ_1, wJ_eq, wJ_ne, wI_2, wJ_3, iI_div, iI_rem, jI_div, jI_rem, true_or, or_true, false_or, or_false, eq_self, Nat.add_zero, hC.2.1]
  refine ⟨fun q => ?_, fun q => ⟨fun q2 => ?_, fun q2 => ?_⟩⟩
  · rw [if_neg (by omega)] at h; exact h
  · rw [if_neg (by omega)] at h; exact h
  · rw [if_pos (by omega)] at h; exact h
theorem k_linked {x1 x2 x3 x4 : Int32} (hly : ∀ S, L S → ly S) (hd1 : 6 ≤ d1) (hd2 : 5 ≤ d2) (hI : Inv cc m) : sm_callI E L mX11_linked d1 0 0 [.ref (sm_B E + 0), .int x1, .int x2, .int x3, .int x4] m (fun r m1 => sm_callI E L mX12_linked d2 0 0 [.ref (sm_B E + 109), .int x1, .int x2, .int x3, .int x4] m1 (fun r2 m2 => r = r2 ∧ Inv cc m2)) := by
  obtain ⟨i, i1, i2, rfl⟩ := iI_ex x1
  obtain ⟨sd, s1, s2, rfl⟩ := iI_ex x2
  obtain ⟨x, a1, a2, rfl⟩ := iI_ex x3
  obtain ⟨y, b1, b2, rfl⟩ := iI_ex x4
  by_cases hi : 0 ≤ i ∧ i < 6
  rotate_left
  · refine vX11_linked_0 hly hd1 (c_isSlot i1 i2 (by omega) ?_)
    simp (disch := omega) only [forall_eq, true_and, and_true, false_and, and_false, forall_const, true_implies, implies_true, not_true_eq_false, not_false_eq_true, false_implies, if_true, if_false, ↓reduceIte, Int.toNat_natCast, Int.reduceEq, Int.reduceNe, Int.reduceLT, Int.reduceLE, Int.reduceToNat, Int.reduceAdd, Int.reduceSub, Int.reduceMul, Int.reduceNeg, Nat.reduceAdd, Nat.reduceMul, Nat.reduceSub, iI_lit, jI_lit, iI_add, iI_sub, iI_mul, iI_neg, jI_add, jI_sub, jI_mul, jI_neg, nI_i, lN_j, iI_le, iI_lt, iI_eq, jI_le, jI_lt, jI_eq, iI_in, iI_cl, iI_j, jI_i, cN, inN, wI_eq, wI_ne, wJ_1, wJ_eq, wJ_ne, wI_2, wJ_3, iI_div, iI_rem, jI_div, jI_rem, true_or, or_true, false_or, or_false, eq_self, Nat.add_zero, hi]
    refine c_error (e := 1) hly (by decide) (by omega) (vX12_linked_0 hly hd2 (c12_isSlot i1 i2 (by omega) ?_))
    simp (disch := omega) only [forall_eq, true_and, and_true, false_and, and_false, forall_const, true_implies, implies_true, not_true_eq_false, not_false_eq_true, false_implies, if_true, if_false, ↓reduceIte, Int.toNat_natCast, Int.reduceEq, Int.reduceNe, Int.reduceLT, Int.reduceLE, Int.reduceToNat, Int.reduceAdd, Int.reduceSub, Int.reduceMul, Int.reduceNeg, Nat.reduceAdd, Nat.reduceMul, Nat.reduceSub, iI_lit, jI_lit, iI_add, iI_sub, iI_mul, iI_neg, jI_add, jI_sub, jI_mul, jI_neg, nI_i, lN_j, iI_le, iI_lt, iI_eq, jI_le, jI_lt, jI_eq, iI_in, iI_cl, iI_j, jI_i, cN, inN, wI_eq, wI_ne, wJ_1, wJ_eq, wJ_ne, wI_2, wJ_3, iI_div, iI_rem, jI_div, jI_rem, true_or, or_true, false_or, or_false, eq_self, Nat.add_zero, hi]
    exact c12_finds (e := 1) hly (by decide) (by omega) ⟨rfl, hI.er frw.rf frw.rf⟩
  by_cases hs : sd = 0 ∨ sd = 1
  rotate_left
  · refine vX11_linked_0 hly hd1 (c_isSlot i1 i2 (by omega) ?_)
    simp (disch := omega) only [forall_eq, true_and, and_true, false_and, and_false, forall_const, true_implies, implies_true, not_true_eq_false, not_false_eq_true, false_implies, if_true, if_false, ↓reduceIte, Int.toNat_natCast, Int.reduceEq, Int.reduceNe, Int.reduceLT, Int.reduceLE, Int.reduceToNat, Int.reduceAdd, Int.reduceSub, Int.reduceMul, Int.reduceNeg, Nat.reduceAdd, Nat.reduceMul, Nat.reduceSub, iI_lit, jI_lit, iI_add, iI_sub, iI_mul, iI_neg, jI_add, jI_sub, jI_mul, jI_neg, nI_i, lN_j, iI_le, iI_lt, iI_eq, jI_le, jI_lt, jI_eq, iI_in, iI_cl, iI_j, jI_i, cN, inN, wI_eq, wI_ne, wJ_1, wJ_eq, wJ_ne, wI_2, wJ_3, iI_div, iI_rem, jI_div, jI_rem, true_or, or_true, false_or, or_false, eq_self, Nat.add_zero, hi]
    refine c_isChoice s1 s2 (by omega) ?_
    simp (disch := omega) only [forall_eq, true_and, and_true, false_and, and_false, forall_const, true_implies, implies_true, not_true_eq_false, not_false_eq_true, false_implies, if_true, if_false, ↓reduceIte, Int.toNat_natCast, Int.reduceEq, Int.reduceNe, Int.reduceLT, Int.reduceLE, Int.reduceToNat, Int.reduceAdd, Int.reduceSub, Int.reduceMul, Int.reduceNeg, Nat.reduceAdd, Nat.reduceMul, Nat.reduceSub, iI_lit, jI_lit, iI_add, iI_sub, iI_mul, iI_neg, jI_add, jI_sub, jI_mul, jI_neg, nI_i, lN_j, iI_le, iI_lt, iI_eq, jI_le, jI_lt, jI_eq, iI_in, iI_cl, iI_j, jI_i, cN, inN, wI_eq, wI_ne, wJ_1, wJ_eq, wJ_ne, wI_2, wJ_3, iI_div, iI_rem, jI_div, jI_rem, true_or, or_true, false_or, or_false, eq_self, Nat.add_zero, hs]
    refine c_error (e := 1) hly (by decide) (by omega) (vX12_linked_0 hly hd2 (c12_isSlot i1 i2 (by omega) ?_))
    simp (disch := omega) only [forall_eq, true_and, and_true, false_and, and_false, forall_const, true_implies, implies_true, not_true_eq_false, not_false_eq_true, false_implies, if_true, if_false, ↓reduceIte, Int.toNat_natCast, Int.reduceEq, Int.reduceNe, Int.reduceLT, Int.reduceLE, Int.reduceToNat, Int.reduceAdd, Int.reduceSub, Int.reduceMul, Int.reduceNeg, Nat.reduceAdd, Nat.reduceMul, Nat.reduceSub, iI_lit, jI_lit, iI_add, iI_sub, iI_mul, iI_neg, jI_add, jI_sub, jI_mul, jI_neg, nI_i, lN_j, iI_le, iI_lt, iI_eq, jI_le, jI_lt, jI_eq, iI_in, iI_cl, iI_j, jI_i, cN, inN, wI_eq, wI_ne, wJ_1, wJ_eq, wJ_ne, wI_2, wJ_3, iI_div, iI_rem, jI_div, jI_rem, true_or, or_true, false_or, or_false, eq_self, Nat.add_zero, hi]
    refine c12_isPart s1 s2 (by omega) ?_
    simp (disch := omega) only [forall_eq, true_and, and_true, false_and, and_false, forall_const, true_implies, implies_true, not_true_eq_false, not_false_eq_true, false_implies, if_true, if_false, ↓reduceIte, Int.toNat_natCast, Int.reduceEq, Int.reduceNe, Int.reduceLT, Int.reduceLE, Int.reduceToNat, Int.reduceAdd, Int.reduceSub, Int.reduceMul, Int.reduceNeg, Nat.reduceAdd, Nat.reduceMul, Nat.reduceSub, iI_lit, jI_lit, iI_add, iI_sub, iI_mul, iI_neg, jI_add, jI_sub, jI_mul, jI_neg, nI_i, lN_j, iI_le, iI_lt, iI_eq, jI_le, jI_lt, jI_eq, iI_in, iI_cl, iI_j, jI_i, cN, inN, wI_eq, wI_ne, wJ_1, wJ_eq, wJ_ne, wI_2, wJ_3, iI_div, iI_rem, jI_div, jI_rem, true_or, or_true, false_or, or_false, eq_self, Nat.add_zero, hs]
    exact c12_finds (e := 1) hly (by decide) (by omega) ⟨rfl, hI.er frw.rf frw.rf⟩
  obtain ⟨j, rfl⟩ : ∃ j : Nat, i = (j : Int) := ⟨i.toNat, by omega⟩
  obtain ⟨side, rfl⟩ : ∃ side : Nat, sd = (side : Int) := ⟨sd.toNat, by omega⟩
  have hj : j < 6 := by omega
  have hside : side = 0 ∨ side = 1 := by omega
  obtain ⟨t, n, hv, hg, hh⟩ := hI.2.1.1 j hj
  obtain ⟨K, Z, W, po, st, ps, ho, ea, hF, kc, kr⟩ := k_draw (E := E) (L := L) hv hside hly
  have hc24 := hF.1
  have hK := hF.2.1
  have model : ∀ (m1 : sm_M) (Q : Int32 → sm_M → Prop), hl m1 j t n → (¬ ((0 ≤ x ∧ x < K) ∧ (0 ≤ y ∧ y < K)) → ∀ m2, frw scM m1 m2 → Q (iI (-1000000000 - (2 : Nat))) (sm_wI m2 110 2 (m2.1 110 2 + 1))) → ((0 ≤ x ∧ x < K) ∧ (0 ≤ y ∧ y < K) → x = y → ∀ m2, frw scM m1 m2 → Q (iI (-1000000000 - (5 : Nat))) (sm_wI m2 110 5 (m2.1 110 5 + 1))) → ((0 ≤ x ∧ x < K) ∧ (0 ≤ y ∧ y < K) → x ≠ y → ∀ m2, frw scM m1 m2 → Q (iI ((lkS po ho ea x y (crs t n)).tdiv 2)) m2) → sm_callI E L mX12_linked d2 0 0 [.ref (sm_B E + 109), .int (iI (j : Nat)), .int (iI (side : Nat)), .int (iI x), .int (iI y)] m1 Q := by
    intro m1 Q h1 hQ0 hQ1 hQ2
    refine vX12_linked_0 hly hd2 (c12_isSlot i1 i2 (by omega) ?_)
    simp (disch := omega) only [forall_eq, true_and, and_true, false_and, and_false, forall_const, true_implies, implies_true, not_true_eq_false, not_false_eq_true, false_implies, if_true, if_false, ↓reduceIte, Int.toNat_natCast, Int.reduceEq, Int.reduceNe, Int.reduceLT, Int.reduceLE, Int.reduceToNat, Int.reduceAdd, Int.reduceSub, Int.reduceMul, Int.reduceNeg, Nat.reduceAdd, Nat.reduceMul, Nat.reduceSub, iI_lit, jI_lit, iI_add, iI_sub, iI_mul, iI_neg, jI_add, jI_sub, jI_mul, jI_neg, nI_i, lN_j, iI_le, iI_lt, iI_eq, jI_le, jI_lt, jI_eq, iI_in, iI_cl, iI_j, jI_i, cN, inN, wI_eq, wI_ne, wJ_1, wJ_eq, wJ_ne, wI_2, wJ_3, iI_div, iI_rem, jI_div, jI_rem, true_or, or_true, false_or, or_false, eq_self, Nat.add_zero, hi]
    refine c12_isPart s1 s2 (by omega) ?_
    simp (disch := omega) only [forall_eq, true_and, and_true, false_and, and_false, forall_const, true_implies, implies_true, not_true_eq_false, not_false_eq_true, false_implies, if_true, if_false, ↓reduceIte, Int.toNat_natCast, Int.reduceEq, Int.reduceNe, Int.reduceLT, Int.reduceLE, Int.reduceToNat, Int.reduceAdd, Int.reduceSub, Int.reduceMul, Int.reduceNeg, Nat.reduceAdd, Nat.reduceMul, Nat.reduceSub, iI_lit, jI_lit, iI_add, iI_sub, iI_mul, iI_neg, jI_add, jI_sub, jI_mul, jI_neg, nI_i, lN_j, iI_le, iI_lt, iI_eq, jI_le, jI_lt, jI_eq, iI_in, iI_cl, iI_j, jI_i, cN, inN, wI_eq, wI_ne, wJ_1, wJ_eq, wJ_ne, wI_2, wJ_3, iI_div, iI_rem, jI_div, jI_rem, true_or, or_true, false_or, or_false, eq_self, Nat.add_zero, hs]
    refine kr m1 j 4 _ (by omega) hj h1 (fun m2 f2 hM => ?_)
    have s2' : frw scM m1 m2 := f2.w.mono (fun a k h => dMP_sc h)
    simp (disch := omega) only [forall_eq, true_and, and_true, false_and, and_false, forall_const, true_implies, implies_true, not_true_eq_false, not_false_eq_true, false_implies, if_true, if_false, ↓reduceIte, Int.toNat_natCast, Int.reduceEq, Int.reduceNe, Int.reduceLT, Int.reduceLE, Int.reduceToNat, Int.reduceAdd, Int.reduceSub, Int.reduceMul, Int.reduceNeg, Nat.reduceAdd, Nat.reduceMul, Nat.reduceSub, iI_lit, jI_lit, iI_add, iI_sub, iI_mul, iI_neg, jI_add, jI_sub, jI_mul, jI_neg, nI_i, lN_j, iI_le, iI_lt, iI_eq, jI_le, jI_lt, jI_eq, iI_in, iI_cl, iI_j, jI_i, cN, inN, wI_eq, wI_ne, wJ_1, wJ_eq, wJ_ne, wI_2, wJ_3, iI_div, iI_rem, jI_div, jI_rem, true_or, or_true, false_or, or_false, eq_self, Nat.add_zero, hM.2.1]
    refine c12_isIn (by omega) (by omega) (by omega) (by omega) (by omega) (by omega) (by omega) ?_
    by_cases hx : 0 ≤ x ∧ x ≤ (K : Int) - 1
    · rw [if_pos hx]
      simp (disch := omega) only [forall_eq, true_and, and_true, false_and, and_false, forall_const, true_implies, implies_true, not_true_eq_false, not_false_eq_true, false_implies, if_true, if_false, ↓reduceIte, Int.toNat_natCast, Int.reduceEq, Int.reduceNe, Int.reduceLT, Int.reduceLE, Int.reduceToNat, Int.reduceAdd, Int.reduceSub, Int.reduceMul, Int.reduceNeg, Nat.reduceAdd, Nat.reduceMul, Nat.reduceSub, iI_lit, jI_lit, iI_add, iI_sub, iI_mul, iI_neg, jI_add, jI_sub, jI_mul, jI_neg, nI_i, lN_j, iI_le, iI_lt, iI_eq, jI_le, jI_lt, jI_eq, iI_in, iI_cl, iI_j, jI_i, cN, inN, wI_eq, wI_ne, wJ_1, wJ_eq, wJ_ne, wI_2, wJ_3, iI_div, iI_rem, jI_div, jI_rem, true_or, or_true, false_or, or_false, eq_self, Nat.add_zero, hM.2.1]
      refine c12_isIn (by omega) (by omega) (by omega) (by omega) (by omega) (by omega) (by omega) ?_
      by_cases hy : 0 ≤ y ∧ y ≤ (K : Int) - 1
      · rw [if_pos hy]
        simp (disch := omega) only [forall_eq, true_and, and_true, false_and, and_false, forall_const, true_implies, implies_true, not_true_eq_false, not_false_eq_true, false_implies, if_true, if_false, ↓reduceIte, Int.toNat_natCast, Int.reduceEq, Int.reduceNe, Int.reduceLT, Int.reduceLE, Int.reduceToNat, Int.reduceAdd, Int.reduceSub, Int.reduceMul, Int.reduceNeg, Nat.reduceAdd, Nat.reduceMul, Nat.reduceSub, iI_lit, jI_lit, iI_add, iI_sub, iI_mul, iI_neg, jI_add, jI_sub, jI_mul, jI_neg, nI_i, lN_j, iI_le, iI_lt, iI_eq, jI_le, jI_lt, jI_eq, iI_in, iI_cl, iI_j, jI_i, cN, inN, wI_eq, wI_ne, wJ_1, wJ_eq, wJ_ne, wI_2, wJ_3, iI_div, iI_rem, jI_div, jI_rem, true_or, or_true, false_or, or_false, eq_self, Nat.add_zero]
        refine ⟨fun q => ?_, fun q => ?_⟩
        · exact m_linking hly hd2 hF hM (by omega) (by omega) (by omega) (by omega) (hQ2 (by omega) q m2 s2') (crs t n) 0 (by omega)
        · exact c12_finds (e := 5) hly (by decide) (by omega) (hQ1 (by omega) q m2 s2')
      · rw [if_neg hy]
        simp (disch := omega) only [forall_eq, true_and, and_true, false_and, and_false, forall_const, true_implies, implies_true, not_true_eq_false, not_false_eq_true, false_implies, if_true, if_false, ↓reduceIte, Int.toNat_natCast, Int.reduceEq, Int.reduceNe, Int.reduceLT, Int.reduceLE, Int.reduceToNat, Int.reduceAdd, Int.reduceSub, Int.reduceMul, Int.reduceNeg, Nat.reduceAdd, Nat.reduceMul, Nat.reduceSub, iI_lit, jI_lit, iI_add, iI_sub, iI_mul, iI_neg, jI_add, jI_sub, jI_mul, jI_neg, nI_i, lN_j, iI_le, iI_lt, iI_eq, jI_le, jI_lt, jI_eq, iI_in, iI_cl, iI_j, jI_i, cN, inN, wI_eq, wI_ne, wJ_1, wJ_eq, wJ_ne, wI_2, wJ_3, iI_div, iI_rem, jI_div, jI_rem, true_or, or_true, false_or, or_false, eq_self, Nat.add_zero]
        exact c12_finds (e := 2) hly (by decide) (by omega) (hQ0 (by omega) m2 s2')
    · rw [if_neg hx]
      simp (disch := omega) only [forall_eq, true_and, and_true, false_and, and_false, forall_const, true_implies, implies_true, not_true_eq_false, not_false_eq_true, false_implies, if_true, if_false, ↓reduceIte, Int.toNat_natCast, Int.reduceEq, Int.reduceNe, Int.reduceLT, Int.reduceLE, Int.reduceToNat, Int.reduceAdd, Int.reduceSub, Int.reduceMul, Int.reduceNeg, Nat.reduceAdd, Nat.reduceMul, Nat.reduceSub, iI_lit, jI_lit, iI_add, iI_sub, iI_mul, iI_neg, jI_add, jI_sub, jI_mul, jI_neg, nI_i, lN_j, iI_le, iI_lt, iI_eq, jI_le, jI_lt, jI_eq, iI_in, iI_cl, iI_j, jI_i, cN, inN, wI_eq, wI_ne, wJ_1, wJ_eq, wJ_ne, wI_2, wJ_3, iI_div, iI_rem, jI_div, jI_rem, true_or, or_true, false_or, or_false, eq_self, Nat.add_zero]
      exact c12_finds (e := 2) hly (by decide) (by omega) (hQ0 (by omega) m2 s2')
  refine vX11_linked_0 hly hd1 (c_isSlot i1 i2 (by omega) ?_)
  simp (disch := omega) only [forall_eq, true_and, and_true, false_and, and_false, forall_const, true_implies, implies_true, not_true_eq_false, not_false_eq_true, false_implies, if_true, if_false, ↓reduceIte, Int.toNat_natCast, Int.reduceEq, Int.reduceNe, Int.reduceLT, Int.reduceLE, Int.reduceToNat, Int.reduceAdd, Int.reduceSub, Int.reduceMul, Int.reduceNeg, Nat.reduceAdd, Nat.reduceMul, Nat.reduceSub, iI_lit, jI_lit, iI_add, iI_sub, iI_mul, iI_neg, jI_add, jI_sub, jI_mul, jI_neg, nI_i, lN_j, iI_le, iI_lt, iI_eq, jI_le, jI_lt, jI_eq, iI_in, iI_cl, iI_j, jI_i, cN, inN, wI_eq, wI_ne, wJ_1, wJ_eq, wJ_ne, wI_2, wJ_3, iI_div, iI_rem, jI_div, jI_rem, true_or, or_true, false_or, or_false, eq_self, Nat.add_zero, hi]
  refine c_isChoice s1 s2 (by omega) ?_
  simp (disch := omega) only [forall_eq, true_and, and_true, false_and, and_false, forall_const, true_implies, implies_true, not_true_eq_false, not_false_eq_true, false_implies, if_true, if_false, ↓reduceIte, Int.toNat_natCast, Int.reduceEq, Int.reduceNe, Int.reduceLT, Int.reduceLE, Int.reduceToNat, Int.reduceAdd, Int.reduceSub, Int.reduceMul, Int.reduceNeg, Nat.reduceAdd, Nat.reduceMul, Nat.reduceSub, iI_lit, jI_lit, iI_add, iI_sub, iI_mul, iI_neg, jI_add, jI_sub, jI_mul, jI_neg, nI_i, lN_j, iI_le, iI_lt, iI_eq, jI_le, jI_lt, jI_eq, iI_in, iI_cl, iI_j, jI_i, cN, inN, wI_eq, wI_ne, wJ_1, wJ_eq, wJ_ne, wI_2, wJ_3, iI_div, iI_rem, jI_div, jI_rem, true_or, or_true, false_or, or_false, eq_self, Nat.add_zero, hs]
  refine ⟨by omega, kc m j 5 _ (by omega) hj hg.1 (fun m1 f1 hC => ?_)⟩
  have s1' : frw scC m m1 := f1.w.mono (fun a k h => dCP_sc h)
  have hh1 : hl m1 j t n := hh.fr f1 (by unfold dCP; omega) (fun k => by unfold dCP; omega)
  have hhe : ∀ e : Nat, hl (sm_wI m1 76 e (m1.1 76 e + 1)) j t n := fun e => hh1.fr (fr.rf.wI (P := fun a k => a = 76) rfl) (by omega) (fun k => by omega)
  have none2 : ¬ ((0 ≤ x ∧ x < K) ∧ (0 ≤ y ∧ y < K)) → sm_callI E L mX11_error 1 0 0 [.ref (sm_B E + 0), .int (iI 2)] m1 (fun r m1 => sm_callI E L mX12_linked d2 0 0 [.ref (sm_B E + 109), .int (iI (j : Nat)), .int (iI (side : Nat)), .int (iI x), .int (iI y)] m1 (fun r2 m2 => r = r2 ∧ Inv cc m2)) := fun hn =>
    c_error (e := 2) hly (by decide) (by omega) (model _ _ (hhe 2) (fun _ m2 f2 => ⟨rfl, hI.er s1' f2⟩) (fun h => absurd h hn) (fun h => absurd h hn))
  refine c_hasComponent hly (by omega) hF hC a1 a2 ?_
  by_cases hx : 0 ≤ x ∧ x < (K : Int)
  · rw [if_pos hx]
    simp (disch := omega) only [forall_eq, true_and, and_true, false_and, and_false, forall_const, true_implies, implies_true, not_true_eq_false, not_false_eq_true, false_implies, if_true, if_false, ↓reduceIte, Int.toNat_natCast, Int.reduceEq, Int.reduceNe, Int.reduceLT, Int.reduceLE, Int.reduceToNat, Int.reduceAdd, Int.reduceSub, Int.reduceMul, Int.reduceNeg, Nat.reduceAdd, Nat.reduceMul, Nat.reduceSub, iI_lit, jI_lit, iI_add, iI_sub, iI_mul, iI_neg, jI_add, jI_sub, jI_mul, jI_neg, nI_i, lN_j, iI_le, iI_lt, iI_eq, jI_le, jI_lt, jI_eq, iI_in, iI_cl, iI_j, jI_i, cN, inN, wI_eq, wI_ne, wJ_1, wJ_eq, wJ_ne, wI_2, wJ_3, iI_div, iI_rem, jI_div, jI_rem, true_or, or_true, false_or, or_false, eq_self, Nat.add_zero]
    refine c_hasComponent hly (by omega) hF hC b1 b2 ?_
    by_cases hy : 0 ≤ y ∧ y < (K : Int)
    · rw [if_pos hy]
      simp (disch := omega) only [forall_eq, true_and, and_true, false_and, and_false, forall_const, true_implies, implies_true, not_true_eq_false, not_false_eq_true, false_implies, if_true, if_false, ↓reduceIte, Int.toNat_natCast, Int.reduceEq, Int.reduceNe, Int.reduceLT, Int.reduceLE, Int.reduceToNat, Int.reduceAdd, Int.reduceSub, Int.reduceMul, Int.reduceNeg, Nat.reduceAdd, Nat.reduceMul, Nat.reduceSub, iI_lit, jI_lit, iI_add, iI_sub, iI_mul, iI_neg, jI_add, jI_sub, jI_mul, jI_neg, nI_i, lN_j, iI_le, iI_lt, iI_eq, jI_le, jI_lt, jI_eq, iI_in, iI_cl, iI_j, jI_i, cN, inN, wI_eq, wI_ne, wJ_1, wJ_eq, wJ_ne, wI_2, wJ_3, iI_div, iI_rem, jI_div, jI_rem, true_or, or_true, false_or, or_false, eq_self, Nat.add_zero]
      refine ⟨fun q => ?_, fun q => ?_⟩
      · exact c_linking hly (by omega) hF hC (by omega) (by omega) (by omega) (by omega) (model m1 _ hh1 (fun h => absurd ⟨hx, hy⟩ h) (fun _ q2 => absurd q2 q) (fun _ _ m2 f2 => ⟨rfl, hI.sc s1' f2⟩))
      · exact c_error (e := 5) hly (by decide) (by omega) (model _ _ (hhe 5) (fun h => absurd ⟨hx, hy⟩ h) (fun _ _ m2 f2 => ⟨rfl, hI.er s1' f2⟩) (fun _ q2 => absurd q q2))
    · rw [if_neg hy]
      simp (disch := omega) only [forall_eq, true_and, and_true, false_and, and_false, forall_const, true_implies, implies_true, not_true_eq_false, not_false_eq_true, false_implies, if_true, if_false, ↓reduceIte, Int.toNat_natCast, Int.reduceEq, Int.reduceNe, Int.reduceLT, Int.reduceLE, Int.reduceToNat, Int.reduceAdd, Int.reduceSub, Int.reduceMul, Int.reduceNeg, Nat.reduceAdd, Nat.reduceMul, Nat.reduceSub, iI_lit, jI_lit, iI_add, iI_sub, iI_mul, iI_neg, jI_add, jI_sub, jI_mul, jI_neg, nI_i, lN_j, iI_le, iI_lt, iI_eq, jI_le, jI_lt, jI_eq, iI_in, iI_cl, iI_j, jI_i, cN, inN, wI_eq, wI_ne, wJ_1, wJ_eq, wJ_ne, wI_2, wJ_3, iI_div, iI_rem, jI_div, jI_rem, true_or, or_true, false_or, or_false, eq_self, Nat.add_zero]
      exact none2 (fun h => hy h.2)
  · rw [if_neg hx]
    simp (disch := omega) only [forall_eq, true_and, and_true, false_and, and_false, forall_const, true_implies, implies_true, not_true_eq_false, not_false_eq_true, false_implies, if_true, if_false, ↓reduceIte, Int.toNat_natCast, Int.reduceEq, Int.reduceNe, Int.reduceLT, Int.reduceLE, Int.reduceToNat, Int.reduceAdd, Int.reduceSub, Int.reduceMul, Int.reduceNeg, Nat.reduceAdd, Nat.reduceMul, Nat.reduceSub, iI_lit, jI_lit, iI_add, iI_sub, iI_mul, iI_neg, jI_add, jI_sub, jI_mul, jI_neg, nI_i, lN_j, iI_le, iI_lt, iI_eq, jI_le, jI_lt, jI_eq, iI_in, iI_cl, iI_j, jI_i, cN, inN, wI_eq, wI_ne, wJ_1, wJ_eq, wJ_ne, wI_2, wJ_3, iI_div, iI_rem, jI_div, jI_rem, true_or, or_true, false_or, or_false, eq_self, Nat.add_zero]
    exact none2 (fun h => hx h.1)
def pv (p : Nat) : Int := if p % 2 = 1 then -((p / 2 : Nat) : Int) - 1 else ((p / 2 : Nat) : Int) + 1
theorem nar_sm : ∀ k : Fin 60, nar 8 (jI ((k.val : Int) - 30)) = jI ((k.val : Int) - 30) := by decide +kernel
theorem nar8_sm {z : Int} (h1 : -30 ≤ z) (h2 : z < 30) : nar 8 (jI z) = jI z := by
  have := nar_sm ⟨(z + 30).toNat, by omega⟩
  rw [show (((⟨(z + 30).toNat, by omega⟩ : Fin 60).val : Int) - 30) = z by show (((z + 30).toNat : Nat) : Int) - 30 = z; omega] at this
  exact this
theorem rF_pos (hF : rF c K Z w po st ps ho ea) {k x : Nat} (hk : k < K) (hx : st k + x < st (k + 1)) : st k + x < w ∧ ps (st k + x) < 2 * c := by
  have h1 := hF.2.2.2.2.2.1 (k + 1) K (by omega) (Nat.le_refl _)
  have h2 := hF.2.2.2.2.2.2.2.1
  have h3 := hF.2.2.2.2.2.2.2.2.1 (st k + x) (by omega)
  exact ⟨by omega, h3⟩
theorem c_passAt {Q : Int32 → sm_M → Prop} {k x : Nat} (hly : ∀ S, L S → ly S) (hd : 2 ≤ d) (hF : rF c K Z w po st ps ho ea) (hC : rC m c K Z w po st ps ho ea) (hk : k < K) (hx : st k + x < st (k + 1)) (h : Q (iI (pv (ps (st k + x)))) m) : sm_callI E L mX2_passAt d 0 0 [.ref (sm_B E + 16), .int (iI (k : Nat)), .int (iI (x : Nat))] m Q := by
  have hc := hF.1
  have hK := hF.2.1
  have hw := hF.2.2.2.1
  obtain ⟨p1, p2⟩ := rF_pos hF hk hx
  have v24 := hC.2.2.2.2.1 k (by omega)
  have v23 := hC.2.2.2.2.2.1 (st k + x) p1
  have e0 : ((st k : Int) + (x : Int)).toNat = st k + x := by omega
  unfold pv at h
  generalize ps (st k + x) = p at *
  have d2 : (p : Int).tdiv 2 = ((p / 2 : Nat) : Int) := rfl
  have r2 : (p : Int).tmod 2 = ((p % 2 : Nat) : Int) := rfl
  refine vX2_passAt_0 hly hd (vX2_crossingOf_0 hly (by omega) ?_)
  simp (disch := omega) only [forall_eq, true_and, and_true, false_and, and_false, forall_const, true_implies, implies_true, not_true_eq_false, not_false_eq_true, false_implies, if_true, if_false, ↓reduceIte, Int.toNat_natCast, Int.reduceEq, Int.reduceNe, Int.reduceLT, Int.reduceLE, Int.reduceToNat, Int.reduceAdd, Int.reduceSub, Int.reduceMul, Int.reduceNeg, Nat.reduceAdd, Nat.reduceMul, Nat.reduceSub, iI_lit, jI_lit, iI_add, iI_sub, iI_mul, iI_neg, jI_add, jI_sub, jI_mul, jI_neg, nI_i, lN_j, iI_le, iI_lt, iI_eq, jI_le, jI_lt, jI_eq, iI_in, iI_cl, iI_j, jI_i, cN, inN, wI_eq, wI_ne, wJ_1, wJ_eq, wJ_ne, wI_2, wJ_3, iI_div, iI_rem, jI_div, jI_rem, true_or, or_true, false_or, or_false, eq_self, Nat.add_zero, v24, e0, v23, d2]
  refine ⟨by omega, by omega, vX2_isUnder_0 hly (by omega) ?_⟩
  simp (disch := omega) only [forall_eq, true_and, and_true, false_and, and_false, forall_const, true_implies, implies_true, not_true_eq_false, not_false_eq_true, false_implies, if_true, if_false, ↓reduceIte, Int.toNat_natCast, Int.reduceEq, Int.reduceNe, Int.reduceLT, Int.reduceLE, Int.reduceToNat, Int.reduceAdd, Int.reduceSub, Int.reduceMul, Int.reduceNeg, Nat.reduceAdd, Nat.reduceMul, Nat.reduceSub, iI_lit, jI_lit, iI_add, iI_sub, iI_mul, iI_neg, jI_add, jI_sub, jI_mul, jI_neg, nI_i, lN_j, iI_le, iI_lt, iI_eq, jI_le, jI_lt, jI_eq, iI_in, iI_cl, iI_j, jI_i, cN, inN, wI_eq, wI_ne, wJ_1, wJ_eq, wJ_ne, wI_2, wJ_3, iI_div, iI_rem, jI_div, jI_rem, true_or, or_true, false_or, or_false, eq_self, Nat.add_zero, v24, e0, v23, r2]
  refine ⟨by omega, by omega, fun q => ?_, fun q => ?_⟩
  · rw [if_neg (by omega)] at h
    exact h
  · rw [if_pos (by omega)] at h
    rw [show -(((p / 2 : Nat) : Int) + 1) = -((p / 2 : Nat) : Int) - 1 by omega]
    exact h
theorem pv_bd {p c : Nat} (hc : c ≤ 24) (hp : p < 2 * c) : -30 ≤ pv p ∧ pv p < 30 := by
  unfold pv
  split <;> omega
theorem c_gauss_loop {Q : Int32 → sm_M → Prop} {vs : List Value} {k s n : Nat} (hly : ∀ S, L S → ly S) (hd : 6 ≤ d) (hF : rF c K Z w po st ps ho ea) (hk : k < K) (hs : s < 4) (hn : st k + n = st (k + 1)) (m0 : sm_M) (hC : rC m0 c K Z w po st ps ho ea) (h : ∀ m', fr (fun a _ => a = 102 + 2 * s) m0 m' → (∀ x, x < 48 → m'.2.1 (102 + 2 * s) x = jI (if x < n then pv (ps (st k + x)) else 0)) → Q (iI (n : Nat)) m') (hb : m0.1 (101 + 2 * s) 1 = iI 8) (hl2 : m0.1 (101 + 2 * s) 2 = iI (n : Nat)) :
    ∀ (r x : Nat) (m : sm_M), x + r = n → fr (fun a _ => a = 102 + 2 * s) m0 m → (∀ y, y < 48 → m.2.1 (102 + 2 * s) y = jI (if y < x then pv (ps (st k + y)) else 0)) → gX11_gauss_90 E L d vs (iI (k : Nat)) (101 + 2 * s) (iI (n : Nat)) (iI (x : Nat)) m Q := by
  have hc := hF.1
  have hw := hF.2.2.2.1
  have hT := ly_sheetT hly hs
  have hmon := hF.2.2.2.2.2.1 (k + 1) K (by omega) (Nat.le_refl _)
  have hend := hF.2.2.2.2.2.2.2.1
  intro r
  induction r with
  | zero =>
    intro x m hx hf hv
    have hxn : x = n := by omega
    subst hxn
    refine vX11_gauss_90 hly hd hT ?_
    simp (disch := omega) only [forall_eq, true_and, and_true, false_and, and_false, forall_const, true_implies, implies_true, not_true_eq_false, not_false_eq_true, false_implies, if_true, if_false, ↓reduceIte, Int.toNat_natCast, Int.reduceEq, Int.reduceNe, Int.reduceLT, Int.reduceLE, Int.reduceToNat, Int.reduceAdd, Int.reduceSub, Int.reduceMul, Int.reduceNeg, Nat.reduceAdd, Nat.reduceMul, Nat.reduceSub, iI_lit, jI_lit, iI_add, iI_sub, iI_mul, iI_neg, jI_add, jI_sub, jI_mul, jI_neg, nI_i, lN_j, iI_le, iI_lt, iI_eq, jI_le, jI_lt, jI_eq, iI_in, iI_cl, iI_j, jI_i, cN, inN, wI_eq, wI_ne, wJ_1, wJ_eq, wJ_ne, wI_2, wJ_3, iI_div, iI_rem, jI_div, jI_rem, true_or, or_true, false_or, or_false, eq_self, Nat.add_zero, Int.le_refl]
    exact h m hf hv
  | succ r ih =>
    intro x m hx hf hv
    have u : ¬ ((n : Int) ≤ (x : Int)) := by omega
    have hC1 : rC m c K Z w po st ps ho ea := by
      obtain ⟨q1, q2, q3, q4, q5, q6, q7, q8⟩ := hC
      exact ⟨(hf.i (by omega)).trans q1, (hf.i (by omega)).trans q2, (hf.i (by omega)).trans q3, fun b hb => (hf.i (by omega)).trans (q4 b hb), fun b hb => (hf.i (by omega)).trans (q5 b hb), fun b hb => (hf.i (by omega)).trans (q6 b hb), fun b hb => (hf.i (by omega)).trans (q7 b hb), fun b hb => (hf.i (by omega)).trans (q8 b hb)⟩
    obtain ⟨p1, p2⟩ := rF_pos hF hk (show st k + x < st (k + 1) by omega)
    have bd := pv_bd hc p2
    have nx := ih (x + 1)
    refine vX11_gauss_90 hly hd hT ?_
    simp (disch := omega) only [forall_eq, true_and, and_true, false_and, and_false, forall_const, true_implies, implies_true, not_true_eq_false, not_false_eq_true, false_implies, if_true, if_false, ↓reduceIte, Int.toNat_natCast, Int.reduceEq, Int.reduceNe, Int.reduceLT, Int.reduceLE, Int.reduceToNat, Int.reduceAdd, Int.reduceSub, Int.reduceMul, Int.reduceNeg, Nat.reduceAdd, Nat.reduceMul, Nat.reduceSub, iI_lit, jI_lit, iI_add, iI_sub, iI_mul, iI_neg, jI_add, jI_sub, jI_mul, jI_neg, nI_i, lN_j, iI_le, iI_lt, iI_eq, jI_le, jI_lt, jI_eq, iI_in, iI_cl, iI_j, jI_i, cN, inN, wI_eq, wI_ne, wJ_1, wJ_eq, wJ_ne, wI_2, wJ_3, iI_div, iI_rem, jI_div, jI_rem, true_or, or_true, false_or, or_false, eq_self, Nat.add_zero, u]
    refine c_passAt hly (by omega) hF hC1 hk (by omega) ?_
    rw [iI_j (by omega) (by omega)]
    refine c_store (b := 8) (n := n) (i := (x : Nat)) hT (by omega) ((hf.i (by omega)).trans hb) ((hf.i (by omega)).trans hl2) (by omega) (by omega) (by omega) ?_
    rw [nar8_sm bd.1 bd.2, Int.toNat_natCast, show 101 + 2 * s + 1 = 102 + 2 * s by omega]
    refine nx _ (by omega) (hf.wJ rfl) (fun y hy => ?_)
    by_cases hyx : y = x
    · rw [wJ_eq rfl hyx, if_pos (by omega), hyx]
    · rw [wJ_ne (Or.inr hyx), hv y hy]
      by_cases hyl : y < x
      · rw [if_pos hyl, if_pos (by omega)]
      · rw [if_neg hyl, if_neg (by omega)]
theorem m_gauss_loop {Q : Int32 → sm_M → Prop} {vs : List Value} {k s n : Nat} (hly : ∀ S, L S → ly S) (hd : 5 ≤ d) (hF : rF c K Z w po st ps ho ea) (hk : k < K) (hs : s < 4) (hn : st k + n = st (k + 1)) (m0 : sm_M) (hC : rM m0 c K Z w po st ps ho ea) (h : ∀ m', fr (fun a x => a = 120 ∧ 48 * s ≤ x ∧ x < 48 * s + 48) m0 m' → (∀ x, x < 48 → m'.2.1 120 (48 * s + x) = jI (if x < n then pv (ps (st k + x)) else 0)) → Q (iI (n : Nat)) m') :
    ∀ (r x : Nat) (m : sm_M), x + r = n → fr (fun a x => a = 120 ∧ 48 * s ≤ x ∧ x < 48 * s + 48) m0 m → (∀ y, y < 48 → m.2.1 120 (48 * s + y) = jI (if y < x then pv (ps (st k + y)) else 0)) → gX12_gauss_87 E L d vs (iI (s : Nat)) (iI (k : Nat)) (iI (n : Nat)) (iI (x : Nat)) m Q := by
  have hc := hF.1
  have hw := hF.2.2.2.1
  have hK := hF.2.1
  have hmon := hF.2.2.2.2.2.1 (k + 1) K (by omega) (Nat.le_refl _)
  have hend := hF.2.2.2.2.2.2.2.1
  intro r
  induction r with
  | zero =>
    intro x m hx hf hv
    have hxn : x = n := by omega
    subst hxn
    refine vX12_gauss_87 hly hd ?_
    simp (disch := omega) only [forall_eq, true_and, and_true, false_and, and_false, forall_const, true_implies, implies_true, not_true_eq_false, not_false_eq_true, false_implies, if_true, if_false, ↓reduceIte, Int.toNat_natCast, Int.reduceEq, Int.reduceNe, Int.reduceLT, Int.reduceLE, Int.reduceToNat, Int.reduceAdd, Int.reduceSub, Int.reduceMul, Int.reduceNeg, Nat.reduceAdd, Nat.reduceMul, Nat.reduceSub, iI_lit, jI_lit, iI_add, iI_sub, iI_mul, iI_neg, jI_add, jI_sub, jI_mul, jI_neg, nI_i, lN_j, iI_le, iI_lt, iI_eq, jI_le, jI_lt, jI_eq, iI_in, iI_cl, iI_j, jI_i, cN, inN, wI_eq, wI_ne, wJ_1, wJ_eq, wJ_ne, wI_2, wJ_3, iI_div, iI_rem, jI_div, jI_rem, true_or, or_true, false_or, or_false, eq_self, Nat.add_zero, Int.le_refl]
    exact h m hf hv
  | succ r ih =>
    intro x m hx hf hv
    have u : ¬ ((n : Int) ≤ (x : Int)) := by omega
    obtain ⟨p1, p2⟩ := rF_pos hF hk (show st k + x < st (k + 1) by omega)
    have v139 : m.1 139 k = iI (st k : Nat) := (hf.i (by omega)).trans (hC.2.2.2.2.1 k (by omega))
    have v138 : m.1 138 (st k + x) = iI (ps (st k + x) : Nat) := (hf.i (by omega)).trans (hC.2.2.2.2.2.1 (st k + x) p1)
    have e0 : ((st k : Int) + (x : Int)).toNat = st k + x := by omega
    have e48 : (48 * (s : Int) + (x : Int)).toNat = 48 * s + x := by omega
    have nx := ih (x + 1)
    have fin : ∀ z : Int, z = pv (ps (st k + x)) → gX12_gauss_87 E L d vs (iI (s : Nat)) (iI (k : Nat)) (iI (n : Nat)) (iI ((x : Int) + 1)) (sm_wJ m 120 (48 * s + x) (jI z)) Q := by
      intro z hz
      refine nx _ (by omega) (hf.wJ ⟨rfl, by omega, by omega⟩) (fun y hy => ?_)
      by_cases hyx : y = x
      · rw [wJ_eq rfl (by omega), if_pos (by omega), hyx, hz]
      · rw [wJ_ne (Or.inr (by omega)), hv y hy]
        by_cases hyl : y < x
        · rw [if_pos hyl, if_pos (by omega)]
        · rw [if_neg hyl, if_neg (by omega)]
    generalize hp : ps (st k + x) = p at *
    have d2 : (p : Int).tdiv 2 = ((p / 2 : Nat) : Int) := rfl
    have r2 : (p : Int).tmod 2 = ((p % 2 : Nat) : Int) := rfl
    refine vX12_gauss_87 hly hd ?_
    simp (disch := omega) only [forall_eq, true_and, and_true, false_and, and_false, forall_const, true_implies, implies_true, not_true_eq_false, not_false_eq_true, false_implies, if_true, if_false, ↓reduceIte, Int.toNat_natCast, Int.reduceEq, Int.reduceNe, Int.reduceLT, Int.reduceLE, Int.reduceToNat, Int.reduceAdd, Int.reduceSub, Int.reduceMul, Int.reduceNeg, Nat.reduceAdd, Nat.reduceMul, Nat.reduceSub, iI_lit, jI_lit, iI_add, iI_sub, iI_mul, iI_neg, jI_add, jI_sub, jI_mul, jI_neg, nI_i, lN_j, iI_le, iI_lt, iI_eq, jI_le, jI_lt, jI_eq, iI_in, iI_cl, iI_j, jI_i, cN, inN, wI_eq, wI_ne, wJ_1, wJ_eq, wJ_ne, wI_2, wJ_3, iI_div, iI_rem, jI_div, jI_rem, true_or, or_true, false_or, or_false, eq_self, Nat.add_zero, u, v139, e0, v138, d2, r2, e48]
    refine ⟨by omega, by omega, fun q => ⟨by omega, fin _ ?_⟩, fun q => ⟨by omega, fin _ ?_⟩⟩
    · unfold pv
      rw [if_pos (by omega)]
      omega
    · unfold pv
      rw [if_neg (by omega)]
end K16
