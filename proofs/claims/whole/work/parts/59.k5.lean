/-! enter, alike -/
section K5
variable {E : sm_E} {L : sm_S → Prop} {d d1 d2 : Nat} {m : sm_M} {c : Nat}
/-- what the reference's book says of names -/
def bpl (m : sm_M) (n : Nat) (p q : Nat → Int) : Prop := n ≤ 40 ∧ m.1 109 15 = iI (n : Nat) ∧ ∀ k, k < n → (0 ≤ p k ∧ p k ≤ 1000000000 ∧ 0 ≤ q k ∧ q k ≤ 1000000000) ∧ m.1 117 k = iI (p k) ∧ m.1 118 k = iI (q k)
theorem c12_bookPlace2 {Q : Int32 → sm_M → Prop} {n : Nat} {p q : Nat → Int} {P R : Int} (hly : ∀ S, L S → ly S) (hd : 1 ≤ d) (hb : bpl m n p q) (p1 : -2147483648 ≤ P) (p2 : P ≤ 2147483647) (r1 : -2147483648 ≤ R) (r2 : R ≤ 2147483647) (h1 : ∀ k, k < n → p k = P → q k = R → Q (iI (k : Nat)) m) (h2 : (∀ k, k < n → ¬ (p k = P ∧ q k = R)) → Q (iI (-1)) m) : sm_callI E L mX12_bookPlace d 0 0 [.ref (sm_B E + 109), .long (jI P), .long (jI R)] m Q := by
  have hn := hb.1
  have hb2 := hb.2.1
  refine vX12_bookPlace_0 hd ?_
  have key : ∀ (r i : Nat) (s : Int), i + r = n → ((s = -1 ∧ ∀ k, k < i → ¬ (p k = P ∧ q k = R)) ∨ (∃ k : Nat, s = k ∧ k < i ∧ p k = P ∧ q k = R)) → gX12_bookPlace_6 E L d [.ref (sm_B E + 109), .long (jI P), .long (jI R)] (jI P) (jI R) (iI s) (iI (i : Nat)) m Q := by
    intro r
    induction r with
    | zero =>
      intro i s hi hs
      have : i = n := by omega
      subst this
      refine vX12_bookPlace_6 hly hd ?_
      simp (disch := omega) only [forall_eq, true_and, and_true, false_and, and_false, forall_const, true_implies, implies_true, not_true_eq_false, not_false_eq_true, false_implies, if_true, if_false, ↓reduceIte, Int.toNat_natCast, Int.reduceEq, Int.reduceNe, Int.reduceLT, Int.reduceLE, Int.reduceToNat, Int.reduceAdd, Int.reduceSub, Int.reduceMul, Int.reduceNeg, Nat.reduceAdd, Nat.reduceMul, Nat.reduceSub, iI_lit, jI_lit, iI_add, iI_sub, iI_mul, iI_neg, jI_add, jI_sub, jI_mul, jI_neg, nI_i, lN_j, iI_le, iI_lt, iI_eq, jI_le, jI_lt, jI_eq, iI_in, iI_cl, iI_j, jI_i, cN, inN, wI_eq, wI_ne, wJ_1, wJ_eq, wJ_ne, wI_2, wJ_3, iI_div, iI_rem, jI_div, jI_rem, true_or, or_true, false_or, or_false, eq_self, Nat.add_zero, hb2]
      refine ⟨fun _ => ?_, fun z => by omega⟩
      rcases hs with ⟨rfl, hno⟩ | ⟨k, rfl, hk, e1, e2⟩
      · exact h2 hno
      · exact h1 k hk e1 e2
    | succ r ih =>
      intro i s hi hs
      obtain ⟨b, v2, v3⟩ := hb.2.2 i (by omega)
      have e5 : ((i : Nat) : Int) + 1 = ((i + 1 : Nat) : Int) := by omega
      have nx : ¬ (p i = P ∧ q i = R) → gX12_bookPlace_6 E L d [.ref (sm_B E + 109), .long (jI P), .long (jI R)] (jI P) (jI R) (iI s) (iI ((i + 1 : Nat) : Int)) m Q := fun hz => by
        refine ih (i + 1) s (by omega) ?_
        rcases hs with ⟨e, hno⟩ | ⟨k, e, hk, e1, e2⟩
        · refine Or.inl ⟨e, fun k hk => ?_⟩
          by_cases hki : k = i
          · subst hki
            exact hz
          · exact hno k (by omega)
        · exact Or.inr ⟨k, e, by omega, e1, e2⟩
      refine vX12_bookPlace_6 hly hd ?_
      simp (disch := omega) only [forall_eq, true_and, and_true, false_and, and_false, forall_const, true_implies, implies_true, not_true_eq_false, not_false_eq_true, false_implies, if_true, if_false, ↓reduceIte, Int.toNat_natCast, Int.reduceEq, Int.reduceNe, Int.reduceLT, Int.reduceLE, Int.reduceToNat, Int.reduceAdd, Int.reduceSub, Int.reduceMul, Int.reduceNeg, Nat.reduceAdd, Nat.reduceMul, Nat.reduceSub, iI_lit, jI_lit, iI_add, iI_sub, iI_mul, iI_neg, jI_add, jI_sub, jI_mul, jI_neg, nI_i, lN_j, iI_le, iI_lt, iI_eq, jI_le, jI_lt, jI_eq, iI_in, iI_cl, iI_j, jI_i, cN, inN, wI_eq, wI_ne, wJ_1, wJ_eq, wJ_ne, wI_2, wJ_3, iI_div, iI_rem, jI_div, jI_rem, true_or, or_true, false_or, or_false, eq_self, Nat.add_zero, hb2, v2, v3, e5]
      refine ⟨fun z => by omega, fun _ => ⟨by omega, fun z => nx (by omega), fun z => ⟨by omega, fun z2 => nx (by omega), fun z2 => ih (i + 1) (i : Nat) (by omega) (Or.inr ⟨i, rfl, by omega, z, z2⟩)⟩⟩⟩
  exact key n 0 (-1) (by omega) (Or.inl ⟨rfl, fun k hk => absurd hk (Nat.not_lt_zero _)⟩)
theorem k_enter {x1 x2 : Int32} (hly : ∀ S, L S → ly S) (hd1 : 4 ≤ d1) (hd2 : 5 ≤ d2) (hI : Inv c m) (hc1 : c + 1 ≤ 1000) : sm_callI E L mX11_enter d1 0 0 [.ref (sm_B E + 0), .int x1, .int x2] m (fun r m1 => sm_callI E L mX12_enter d2 0 0 [.ref (sm_B E + 109), .int x1, .int x2] m1 (fun r2 m2 => r = r2 ∧ Inv (c + 1) m2)) := by
  obtain ⟨i, i1, i2, rfl⟩ := iI_ex x1
  obtain ⟨s, s1, s2, rfl⟩ := iI_ex x2
  by_cases hi : 0 ≤ i ∧ i < 6
  rotate_left
  · refine vX11_enter_0 hly hd1 (c_isSlot i1 i2 (by omega) ?_)
    simp (disch := omega) only [forall_eq, true_and, and_true, false_and, and_false, forall_const, true_implies, implies_true, not_true_eq_false, not_false_eq_true, false_implies, if_true, if_false, ↓reduceIte, Int.toNat_natCast, Int.reduceEq, Int.reduceNe, Int.reduceLT, Int.reduceLE, Int.reduceToNat, Int.reduceAdd, Int.reduceSub, Int.reduceMul, Int.reduceNeg, Nat.reduceAdd, Nat.reduceMul, Nat.reduceSub, iI_lit, jI_lit, iI_add, iI_sub, iI_mul, iI_neg, jI_add, jI_sub, jI_mul, jI_neg, nI_i, lN_j, iI_le, iI_lt, iI_eq, jI_le, jI_lt, jI_eq, iI_in, iI_cl, iI_j, jI_i, cN, inN, wI_eq, wI_ne, wJ_1, wJ_eq, wJ_ne, wI_2, wJ_3, iI_div, iI_rem, jI_div, jI_rem, true_or, or_true, false_or, or_false, eq_self, Nat.add_zero, hi]
    refine c_error (e := 1) hly (by decide) (by omega) (vX12_enter_0 hly hd2 (c12_isSlot i1 i2 (by omega) ?_))
    simp (disch := omega) only [forall_eq, true_and, and_true, false_and, and_false, forall_const, true_implies, implies_true, not_true_eq_false, not_false_eq_true, false_implies, if_true, if_false, ↓reduceIte, Int.toNat_natCast, Int.reduceEq, Int.reduceNe, Int.reduceLT, Int.reduceLE, Int.reduceToNat, Int.reduceAdd, Int.reduceSub, Int.reduceMul, Int.reduceNeg, Nat.reduceAdd, Nat.reduceMul, Nat.reduceSub, iI_lit, jI_lit, iI_add, iI_sub, iI_mul, iI_neg, jI_add, jI_sub, jI_mul, jI_neg, nI_i, lN_j, iI_le, iI_lt, iI_eq, jI_le, jI_lt, jI_eq, iI_in, iI_cl, iI_j, jI_i, cN, inN, wI_eq, wI_ne, wJ_1, wJ_eq, wJ_ne, wI_2, wJ_3, iI_div, iI_rem, jI_div, jI_rem, true_or, or_true, false_or, or_false, eq_self, Nat.add_zero, hi]
    exact c12_finds (e := 1) hly (by decide) (by omega) ⟨rfl, (hI.er frw.rf frw.rf).up (by omega) hc1⟩
  by_cases hs : s = 0 ∨ s = 1
  rotate_left
  · refine vX11_enter_0 hly hd1 (c_isSlot i1 i2 (by omega) ?_)
    simp (disch := omega) only [forall_eq, true_and, and_true, false_and, and_false, forall_const, true_implies, implies_true, not_true_eq_false, not_false_eq_true, false_implies, if_true, if_false, ↓reduceIte, Int.toNat_natCast, Int.reduceEq, Int.reduceNe, Int.reduceLT, Int.reduceLE, Int.reduceToNat, Int.reduceAdd, Int.reduceSub, Int.reduceMul, Int.reduceNeg, Nat.reduceAdd, Nat.reduceMul, Nat.reduceSub, iI_lit, jI_lit, iI_add, iI_sub, iI_mul, iI_neg, jI_add, jI_sub, jI_mul, jI_neg, nI_i, lN_j, iI_le, iI_lt, iI_eq, jI_le, jI_lt, jI_eq, iI_in, iI_cl, iI_j, jI_i, cN, inN, wI_eq, wI_ne, wJ_1, wJ_eq, wJ_ne, wI_2, wJ_3, iI_div, iI_rem, jI_div, jI_rem, true_or, or_true, false_or, or_false, eq_self, Nat.add_zero, hi]
    refine c_isChoice s1 s2 (by omega) ?_
    rw [if_neg hs]
    simp (disch := omega) only [forall_eq, true_and, and_true, false_and, and_false, forall_const, true_implies, implies_true, not_true_eq_false, not_false_eq_true, false_implies, if_true, if_false, ↓reduceIte, Int.toNat_natCast, Int.reduceEq, Int.reduceNe, Int.reduceLT, Int.reduceLE, Int.reduceToNat, Int.reduceAdd, Int.reduceSub, Int.reduceMul, Int.reduceNeg, Nat.reduceAdd, Nat.reduceMul, Nat.reduceSub, iI_lit, jI_lit, iI_add, iI_sub, iI_mul, iI_neg, jI_add, jI_sub, jI_mul, jI_neg, nI_i, lN_j, iI_le, iI_lt, iI_eq, jI_le, jI_lt, jI_eq, iI_in, iI_cl, iI_j, jI_i, cN, inN, wI_eq, wI_ne, wJ_1, wJ_eq, wJ_ne, wI_2, wJ_3, iI_div, iI_rem, jI_div, jI_rem, true_or, or_true, false_or, or_false, eq_self, Nat.add_zero]
    refine c_error (e := 1) hly (by decide) (by omega) (vX12_enter_0 hly hd2 (c12_isSlot i1 i2 (by omega) ?_))
    simp (disch := omega) only [forall_eq, true_and, and_true, false_and, and_false, forall_const, true_implies, implies_true, not_true_eq_false, not_false_eq_true, false_implies, if_true, if_false, ↓reduceIte, Int.toNat_natCast, Int.reduceEq, Int.reduceNe, Int.reduceLT, Int.reduceLE, Int.reduceToNat, Int.reduceAdd, Int.reduceSub, Int.reduceMul, Int.reduceNeg, Nat.reduceAdd, Nat.reduceMul, Nat.reduceSub, iI_lit, jI_lit, iI_add, iI_sub, iI_mul, iI_neg, jI_add, jI_sub, jI_mul, jI_neg, nI_i, lN_j, iI_le, iI_lt, iI_eq, jI_le, jI_lt, jI_eq, iI_in, iI_cl, iI_j, jI_i, cN, inN, wI_eq, wI_ne, wJ_1, wJ_eq, wJ_ne, wI_2, wJ_3, iI_div, iI_rem, jI_div, jI_rem, true_or, or_true, false_or, or_false, eq_self, Nat.add_zero, hi]
    refine c12_isPart s1 s2 (by omega) ?_
    rw [if_neg hs]
    simp (disch := omega) only [forall_eq, true_and, and_true, false_and, and_false, forall_const, true_implies, implies_true, not_true_eq_false, not_false_eq_true, false_implies, if_true, if_false, ↓reduceIte, Int.toNat_natCast, Int.reduceEq, Int.reduceNe, Int.reduceLT, Int.reduceLE, Int.reduceToNat, Int.reduceAdd, Int.reduceSub, Int.reduceMul, Int.reduceNeg, Nat.reduceAdd, Nat.reduceMul, Nat.reduceSub, iI_lit, jI_lit, iI_add, iI_sub, iI_mul, iI_neg, jI_add, jI_sub, jI_mul, jI_neg, nI_i, lN_j, iI_le, iI_lt, iI_eq, jI_le, jI_lt, jI_eq, iI_in, iI_cl, iI_j, jI_i, cN, inN, wI_eq, wI_ne, wJ_1, wJ_eq, wJ_ne, wI_2, wJ_3, iI_div, iI_rem, jI_div, jI_rem, true_or, or_true, false_or, or_false, eq_self, Nat.add_zero]
    exact c12_finds (e := 1) hly (by decide) (by omega) ⟨rfl, (hI.er frw.rf frw.rf).up (by omega) hc1⟩
  obtain ⟨j, rfl⟩ : ∃ j : Nat, i = (j : Int) := ⟨i.toNat, by omega⟩
  have hj : j < 6 := by omega
  obtain ⟨t, n, hv, hg, hh⟩ := hI.2.1.1 j hj
  have hT := ly_slotT hly hj
  have hr01 := ev_01' t n
  have model : ∀ (m1 : sm_M) (Q : Int32 → sm_M → Prop), hl m1 j t n → (Tr t n = 0 → ∀ m', fr nmP m1 m' → Q (iI (-1000000000 - (3 : Nat))) (sm_wI m' 110 3 (m'.1 110 3 + 1))) → (Tr t n = 1 → ∀ (m' : sm_M) (vs : List Value), fr nmP m1 m' → m'.2.1 109 60 = jI (NM t n s).1 → m'.2.1 109 61 = jI (NM t n s).2 → sm_callI E L mX12_bookPlace 1 0 0 [.ref (sm_B E + 109), .long (jI (NM t n s).1), .long (jI (NM t n s).2)] m' (fun r_10 m_9 => (0 ≤ r_10 → gX12_enter_67 E L d2 ([.ref (sm_B E + 109), .int (iI (j : Nat)), .int (iI s)]) r_10 m_9 Q) ∧ (¬ 0 ≤ r_10 → (¬ (m_9.1 109 15) = 40 → gX12_enter_67 E L d2 ([.ref (sm_B E + 109), .int (iI (j : Nat)), .int (iI s)]) r_10 m_9 Q) ∧ ((m_9.1 109 15) = 40 → sm_callI E L mX12_finds 1 0 0 [.ref (sm_B E + 109), .int 4] m_9 (fun r_13 m_12 => Q r_13 m_12))))) → sm_callI E L mX12_enter d2 0 0 [.ref (sm_B E + 109), .int (iI (j : Nat)), .int (iI s)] m1 Q := by
    intro m1 Q hh1 hQ0 hQ1
    refine vX12_enter_0 hly hd2 (c12_isSlot i1 i2 (by omega) ?_)
    simp (disch := omega) only [forall_eq, true_and, and_true, false_and, and_false, forall_const, true_implies, implies_true, not_true_eq_false, not_false_eq_true, false_implies, if_true, if_false, ↓reduceIte, Int.toNat_natCast, Int.reduceEq, Int.reduceNe, Int.reduceLT, Int.reduceLE, Int.reduceToNat, Int.reduceAdd, Int.reduceSub, Int.reduceMul, Int.reduceNeg, Nat.reduceAdd, Nat.reduceMul, Nat.reduceSub, iI_lit, jI_lit, iI_add, iI_sub, iI_mul, iI_neg, jI_add, jI_sub, jI_mul, jI_neg, nI_i, lN_j, iI_le, iI_lt, iI_eq, jI_le, jI_lt, jI_eq, iI_in, iI_cl, iI_j, jI_i, cN, inN, wI_eq, wI_ne, wJ_1, wJ_eq, wJ_ne, wI_2, wJ_3, iI_div, iI_rem, jI_div, jI_rem, true_or, or_true, false_or, or_false, eq_self, Nat.add_zero, hi]
    refine c12_isPart s1 s2 (by omega) ?_
    rw [if_pos hs]
    simp (disch := omega) only [forall_eq, true_and, and_true, false_and, and_false, forall_const, true_implies, implies_true, not_true_eq_false, not_false_eq_true, false_implies, if_true, if_false, ↓reduceIte, Int.toNat_natCast, Int.reduceEq, Int.reduceNe, Int.reduceLT, Int.reduceLE, Int.reduceToNat, Int.reduceAdd, Int.reduceSub, Int.reduceMul, Int.reduceNeg, Nat.reduceAdd, Nat.reduceMul, Nat.reduceSub, iI_lit, jI_lit, iI_add, iI_sub, iI_mul, iI_neg, jI_add, jI_sub, jI_mul, jI_neg, nI_i, lN_j, iI_le, iI_lt, iI_eq, jI_le, jI_lt, jI_eq, iI_in, iI_cl, iI_j, jI_i, cN, inN, wI_eq, wI_ne, wJ_1, wJ_eq, wJ_ne, wI_2, wJ_3, iI_div, iI_rem, jI_div, jI_rem, true_or, or_true, false_or, or_false, eq_self, Nat.add_zero]
    refine c12_names hly (by omega) hj hh1 hv hs (fun hr m' f' e1 e2 => ?_) (fun hr m' f' => ?_)
    · have h9 := hQ1 hr m' [] f' e1 e2
      rw [e1, e2]
      refine ⟨fun _ => h9, fun q => absurd q (by decide)⟩
    · simp (disch := omega) only [forall_eq, true_and, and_true, false_and, and_false, forall_const, true_implies, implies_true, not_true_eq_false, not_false_eq_true, false_implies, if_true, if_false, ↓reduceIte, Int.toNat_natCast, Int.reduceEq, Int.reduceNe, Int.reduceLT, Int.reduceLE, Int.reduceToNat, Int.reduceAdd, Int.reduceSub, Int.reduceMul, Int.reduceNeg, Nat.reduceAdd, Nat.reduceMul, Nat.reduceSub, iI_lit, jI_lit, iI_add, iI_sub, iI_mul, iI_neg, jI_add, jI_sub, jI_mul, jI_neg, nI_i, lN_j, iI_le, iI_lt, iI_eq, jI_le, jI_lt, jI_eq, iI_in, iI_cl, iI_j, jI_i, cN, inN, wI_eq, wI_ne, wJ_1, wJ_eq, wJ_ne, wI_2, wJ_3, iI_div, iI_rem, jI_div, jI_rem, true_or, or_true, false_or, or_false, eq_self, Nat.add_zero]
      exact c12_finds (e := 3) hly (by decide) (by omega) (hQ0 hr m' f')
  refine vX11_enter_0 hly hd1 (c_isSlot i1 i2 (by omega) ?_)
  simp (disch := omega) only [forall_eq, true_and, and_true, false_and, and_false, forall_const, true_implies, implies_true, not_true_eq_false, not_false_eq_true, false_implies, if_true, if_false, ↓reduceIte, Int.toNat_natCast, Int.reduceEq, Int.reduceNe, Int.reduceLT, Int.reduceLE, Int.reduceToNat, Int.reduceAdd, Int.reduceSub, Int.reduceMul, Int.reduceNeg, Nat.reduceAdd, Nat.reduceMul, Nat.reduceSub, iI_lit, jI_lit, iI_add, iI_sub, iI_mul, iI_neg, jI_add, jI_sub, jI_mul, jI_neg, nI_i, lN_j, iI_le, iI_lt, iI_eq, jI_le, jI_lt, jI_eq, iI_in, iI_cl, iI_j, jI_i, cN, inN, wI_eq, wI_ne, wJ_1, wJ_eq, wJ_ne, wI_2, wJ_3, iI_div, iI_rem, jI_div, jI_rem, true_or, or_true, false_or, or_false, eq_self, Nat.add_zero, hi]
  refine c_isChoice s1 s2 (by omega) ?_
  rw [if_pos hs]
  simp (disch := omega) only [forall_eq, true_and, and_true, false_and, and_false, forall_const, true_implies, implies_true, not_true_eq_false, not_false_eq_true, false_implies, if_true, if_false, ↓reduceIte, Int.toNat_natCast, Int.reduceEq, Int.reduceNe, Int.reduceLT, Int.reduceLE, Int.reduceToNat, Int.reduceAdd, Int.reduceSub, Int.reduceMul, Int.reduceNeg, Nat.reduceAdd, Nat.reduceMul, Nat.reduceSub, iI_lit, jI_lit, iI_add, iI_sub, iI_mul, iI_neg, jI_add, jI_sub, jI_mul, jI_neg, nI_i, lN_j, iI_le, iI_lt, iI_eq, jI_le, jI_lt, jI_eq, iI_in, iI_cl, iI_j, jI_i, cN, inN, wI_eq, wI_ne, wJ_1, wJ_eq, wJ_ne, wI_2, wJ_3, iI_div, iI_rem, jI_div, jI_rem, true_or, or_true, false_or, or_false, eq_self, Nat.add_zero]
  refine ⟨by omega, ?_⟩
  rw [hg.2.2.2.2.1]
  by_cases hr : Tr t n = 1
  rotate_left
  · have hr0 : Tr t n = 0 := by omega
    rw [hr0]
    simp (disch := omega) only [forall_eq, true_and, and_true, false_and, and_false, forall_const, true_implies, implies_true, not_true_eq_false, not_false_eq_true, false_implies, if_true, if_false, ↓reduceIte, Int.toNat_natCast, Int.reduceEq, Int.reduceNe, Int.reduceLT, Int.reduceLE, Int.reduceToNat, Int.reduceAdd, Int.reduceSub, Int.reduceMul, Int.reduceNeg, Nat.reduceAdd, Nat.reduceMul, Nat.reduceSub, iI_lit, jI_lit, iI_add, iI_sub, iI_mul, iI_neg, jI_add, jI_sub, jI_mul, jI_neg, nI_i, lN_j, iI_le, iI_lt, iI_eq, jI_le, jI_lt, jI_eq, iI_in, iI_cl, iI_j, jI_i, cN, inN, wI_eq, wI_ne, wJ_1, wJ_eq, wJ_ne, wI_2, wJ_3, iI_div, iI_rem, jI_div, jI_rem, true_or, or_true, false_or, or_false, eq_self, Nat.add_zero]
    exact c_error (e := 3) hly (by decide) (by omega) (model _ _ (hh.fr (fr.rf.wI (P := fun a k => a = 76) rfl) (by omega) (fun k => by omega)) (fun _ m' f' => ⟨rfl, (hI.er frw.rf (f'.w.mono (fun a k h => nmP_sc h))).up (by omega) hc1⟩) (fun h => absurd h hr))
  rw [hr]
  simp (disch := omega) only [forall_eq, true_and, and_true, false_and, and_false, forall_const, true_implies, implies_true, not_true_eq_false, not_false_eq_true, false_implies, if_true, if_false, ↓reduceIte, Int.toNat_natCast, Int.reduceEq, Int.reduceNe, Int.reduceLT, Int.reduceLE, Int.reduceToNat, Int.reduceAdd, Int.reduceSub, Int.reduceMul, Int.reduceNeg, Nat.reduceAdd, Nat.reduceMul, Nat.reduceSub, iI_lit, jI_lit, iI_add, iI_sub, iI_mul, iI_neg, jI_add, jI_sub, jI_mul, jI_neg, nI_i, lN_j, iI_le, iI_lt, iI_eq, jI_le, jI_lt, jI_eq, iI_in, iI_cl, iI_j, jI_i, cN, inN, wI_eq, wI_ne, wJ_1, wJ_eq, wJ_ne, wI_2, wJ_3, iI_div, iI_rem, jI_div, jI_rem, true_or, or_true, false_or, or_false, eq_self, Nat.add_zero]
  obtain ⟨hnm, hnb⟩ := NM_is (s := s) hv hr
  have hbd := hnm.bd
  obtain ⟨P, hP⟩ : ∃ P, P = (NM t n s).1 := ⟨_, rfl⟩
  obtain ⟨R, hR⟩ : ∃ R, R = (NM t n s).2 := ⟨_, rfl⟩
  obtain ⟨b, p, q, w, hb⟩ := hI.2.1.2.2.2.2.1
  refine c_nameOf hT (by omega) hv hr hg hs ?_
  rw [← hP, ← hR] at hnm hbd ⊢
  rw [← hP] at hnb
  have hb0 := hb
  obtain ⟨b1, b2, b3, b4, b5, b6⟩ := hb0
  have nsc : ∀ {m1 m2 : sm_M}, fr nmP m1 m2 → frw bkP m1 m2 := fun f => f.w.mono (fun a k h => Or.inr (Or.inl (nmP_sc h)))
  refine vX0_inscribe_0 hly (by omega) (c_placeOf hly (by omega) hb (by omega) (by omega) (by omega) (by omega) (fun k hk e1 e2 => ?_) (fun hno => ?_))
  · -- an old name
    obtain ⟨bb, v1, v2, v3, v4, v5⟩ := b4 k hk
    simp (disch := omega) only [forall_eq, true_and, and_true, false_and, and_false, forall_const, true_implies, implies_true, not_true_eq_false, not_false_eq_true, false_implies, if_true, if_false, ↓reduceIte, Int.toNat_natCast, Int.reduceEq, Int.reduceNe, Int.reduceLT, Int.reduceLE, Int.reduceToNat, Int.reduceAdd, Int.reduceSub, Int.reduceMul, Int.reduceNeg, Nat.reduceAdd, Nat.reduceMul, Nat.reduceSub, iI_lit, jI_lit, iI_add, iI_sub, iI_mul, iI_neg, jI_add, jI_sub, jI_mul, jI_neg, nI_i, lN_j, iI_le, iI_lt, iI_eq, jI_le, jI_lt, jI_eq, iI_in, iI_cl, iI_j, jI_i, cN, inN, wI_eq, wI_ne, wJ_1, wJ_eq, wJ_ne, wI_2, wJ_3, iI_div, iI_rem, jI_div, jI_rem, true_or, or_true, false_or, or_false, eq_self, Nat.add_zero, b2]
    refine ⟨fun _ => ⟨fun _ => vX0_inscribe_49 hly (by omega) ?_, fun z => by omega⟩, fun z => by omega⟩
    simp (disch := omega) only [forall_eq, true_and, and_true, false_and, and_false, forall_const, true_implies, implies_true, not_true_eq_false, not_false_eq_true, false_implies, if_true, if_false, ↓reduceIte, Int.toNat_natCast, Int.reduceEq, Int.reduceNe, Int.reduceLT, Int.reduceLE, Int.reduceToNat, Int.reduceAdd, Int.reduceSub, Int.reduceMul, Int.reduceNeg, Nat.reduceAdd, Nat.reduceMul, Nat.reduceSub, iI_lit, jI_lit, iI_add, iI_sub, iI_mul, iI_neg, jI_add, jI_sub, jI_mul, jI_neg, nI_i, lN_j, iI_le, iI_lt, iI_eq, jI_le, jI_lt, jI_eq, iI_in, iI_cl, iI_j, jI_i, cN, inN, wI_eq, wI_ne, wJ_1, wJ_eq, wJ_ne, wI_2, wJ_3, iI_div, iI_rem, jI_div, jI_rem, true_or, or_true, false_or, or_false, eq_self, Nat.add_zero, v4, b6]
    refine ⟨by omega, by omega, by omega, fun _ => ?_, fun z => by omega⟩
    have fC : fr (fun a k => a = 72 ∨ (a = 70 ∧ k = 3)) m (sm_wI (sm_wI m 72 k (iI (w k + 1))) 70 3 (iI (sumI w b + 1))) := (fr.rf.wI (Or.inl rfl)).wI (Or.inr ⟨rfl, rfl⟩)
    refine model _ _ (hh.fr fC (by omega) (fun k => by omega)) (fun h => by omega) (fun _ m2 vs f2 u1 u2 => ?_)
    have b3' : m2.1 109 15 = iI (b : Nat) := by rw [f2.i (by unfold nmP frP mmP nbP; omega), fC.i (by omega)]; exact b3
    have hb2 : ∀ j, j < b → m2.1 117 j = iI (p j) ∧ m2.1 118 j = iI (q j) ∧ m2.1 119 j = iI (w j) := fun j hj => by
      rw [f2.i (by unfold nmP frP mmP nbP; omega), f2.i (by unfold nmP frP mmP nbP; omega), f2.i (by unfold nmP frP mmP nbP; omega), fC.i (by omega), fC.i (by omega), fC.i (by omega)]
      exact ⟨(b4 j hj).2.2.1, (b4 j hj).2.2.2.1, (b4 j hj).2.2.2.2.2⟩
    have hpl : bpl m2 b p q := ⟨b1, b3', fun j hj => ⟨by have := (b4 j hj).1; omega, (hb2 j hj).1, (hb2 j hj).2.1⟩⟩
    rw [← hP] at u1
    rw [← hR] at u2
    rw [← hP, ← hR]
    refine c12_bookPlace2 hly (by omega) hpl (by omega) (by omega) (by omega) (by omega) (fun k' hk' e1' e2' => ?_) (fun hno => absurd ⟨e1, e2⟩ (hno k hk))
    have hkk : k' = k := b5 k' k hk' hk (by omega) (by omega)
    subst hkk
    simp (disch := omega) only [forall_eq, true_and, and_true, false_and, and_false, forall_const, true_implies, implies_true, not_true_eq_false, not_false_eq_true, false_implies, if_true, if_false, ↓reduceIte, Int.toNat_natCast, Int.reduceEq, Int.reduceNe, Int.reduceLT, Int.reduceLE, Int.reduceToNat, Int.reduceAdd, Int.reduceSub, Int.reduceMul, Int.reduceNeg, Nat.reduceAdd, Nat.reduceMul, Nat.reduceSub, iI_lit, jI_lit, iI_add, iI_sub, iI_mul, iI_neg, jI_add, jI_sub, jI_mul, jI_neg, nI_i, lN_j, iI_le, iI_lt, iI_eq, jI_le, jI_lt, jI_eq, iI_in, iI_cl, iI_j, jI_i, cN, inN, wI_eq, wI_ne, wJ_1, wJ_eq, wJ_ne, wI_2, wJ_3, iI_div, iI_rem, jI_div, jI_rem, true_or, or_true, false_or, or_false, eq_self, Nat.add_zero]
    refine ⟨fun _ => vX12_enter_67 hly hd2 ?_, fun z => by omega⟩
    simp (disch := omega) only [forall_eq, true_and, and_true, false_and, and_false, forall_const, true_implies, implies_true, not_true_eq_false, not_false_eq_true, false_implies, if_true, if_false, ↓reduceIte, Int.toNat_natCast, Int.reduceEq, Int.reduceNe, Int.reduceLT, Int.reduceLE, Int.reduceToNat, Int.reduceAdd, Int.reduceSub, Int.reduceMul, Int.reduceNeg, Nat.reduceAdd, Nat.reduceMul, Nat.reduceSub, iI_lit, jI_lit, iI_add, iI_sub, iI_mul, iI_neg, jI_add, jI_sub, jI_mul, jI_neg, nI_i, lN_j, iI_le, iI_lt, iI_eq, jI_le, jI_lt, jI_eq, iI_in, iI_cl, iI_j, jI_i, cN, inN, wI_eq, wI_ne, wJ_1, wJ_eq, wJ_ne, wI_2, wJ_3, iI_div, iI_rem, jI_div, jI_rem, true_or, or_true, false_or, or_false, eq_self, Nat.add_zero]
    refine ⟨fun _ => vX12_enter_115 hly hd2 ?_, fun z => by omega⟩
    simp (disch := omega) only [forall_eq, true_and, and_true, false_and, and_false, forall_const, true_implies, implies_true, not_true_eq_false, not_false_eq_true, false_implies, if_true, if_false, ↓reduceIte, Int.toNat_natCast, Int.reduceEq, Int.reduceNe, Int.reduceLT, Int.reduceLE, Int.reduceToNat, Int.reduceAdd, Int.reduceSub, Int.reduceMul, Int.reduceNeg, Nat.reduceAdd, Nat.reduceMul, Nat.reduceSub, iI_lit, jI_lit, iI_add, iI_sub, iI_mul, iI_neg, jI_add, jI_sub, jI_mul, jI_neg, nI_i, lN_j, iI_le, iI_lt, iI_eq, jI_le, jI_lt, jI_eq, iI_in, iI_cl, iI_j, jI_i, cN, inN, wI_eq, wI_ne, wJ_1, wJ_eq, wJ_ne, wI_2, wJ_3, iI_div, iI_rem, jI_div, jI_rem, true_or, or_true, false_or, or_false, eq_self, Nat.add_zero, (hb2 k' hk).2.2]
    refine ⟨by omega, by omega, by omega, hI.book hc1 ((fC.w.mono (fun a k h => ?_)).tr ((nsc f2).tr (fr.rf.wI ?_).w)) ⟨b, p, q, upI w k' (w k' + 1), b1, ?_, ?_, fun j hj => ⟨?_, ?_, ?_, ?_, ?_, ?_⟩, b5, ?_⟩⟩
    · unfold bkP; omega
    · unfold bkP; omega
    · rw [wI_ne (by omega), f2.i (by unfold nmP frP mmP nbP; omega)]
      simp (disch := omega) only [forall_eq, true_and, and_true, false_and, and_false, forall_const, true_implies, implies_true, not_true_eq_false, not_false_eq_true, false_implies, if_true, if_false, ↓reduceIte, Int.toNat_natCast, Int.reduceEq, Int.reduceNe, Int.reduceLT, Int.reduceLE, Int.reduceToNat, Int.reduceAdd, Int.reduceSub, Int.reduceMul, Int.reduceNeg, Nat.reduceAdd, Nat.reduceMul, Nat.reduceSub, iI_lit, jI_lit, iI_add, iI_sub, iI_mul, iI_neg, jI_add, jI_sub, jI_mul, jI_neg, nI_i, lN_j, iI_le, iI_lt, iI_eq, jI_le, jI_lt, jI_eq, iI_in, iI_cl, iI_j, jI_i, cN, inN, wI_eq, wI_ne, wJ_1, wJ_eq, wJ_ne, wI_2, wJ_3, iI_div, iI_rem, jI_div, jI_rem, true_or, or_true, false_or, or_false, eq_self, Nat.add_zero, b2]
    · rw [wI_ne (by omega)]; exact b3'
    · have := (b4 j hj).1
      rw [upI_at]
      split
      · rename_i hjk
        subst hjk
        omega
      · omega
    · show m2.2.1 71 j = _
      rw [f2.j (by unfold nmP frP mmP nbP; omega), fC.j (by omega)]
      exact (b4 j hj).2.1
    · rw [wI_ne (by omega)]; exact (hb2 j hj).1
    · rw [wI_ne (by omega)]; exact (hb2 j hj).2.1
    · rw [wI_ne (by omega), f2.i (by unfold nmP frP mmP nbP; omega), upI_at]
      by_cases hjk : j = k'
      · subst hjk
        simp (disch := omega) only [forall_eq, true_and, and_true, false_and, and_false, forall_const, true_implies, implies_true, not_true_eq_false, not_false_eq_true, false_implies, if_true, if_false, ↓reduceIte, Int.toNat_natCast, Int.reduceEq, Int.reduceNe, Int.reduceLT, Int.reduceLE, Int.reduceToNat, Int.reduceAdd, Int.reduceSub, Int.reduceMul, Int.reduceNeg, Nat.reduceAdd, Nat.reduceMul, Nat.reduceSub, iI_lit, jI_lit, iI_add, iI_sub, iI_mul, iI_neg, jI_add, jI_sub, jI_mul, jI_neg, nI_i, lN_j, iI_le, iI_lt, iI_eq, jI_le, jI_lt, jI_eq, iI_in, iI_cl, iI_j, jI_i, cN, inN, wI_eq, wI_ne, wJ_1, wJ_eq, wJ_ne, wI_2, wJ_3, iI_div, iI_rem, jI_div, jI_rem, true_or, or_true, false_or, or_false, eq_self, Nat.add_zero]
      · rw [if_neg hjk]
        simp (disch := omega) only [forall_eq, true_and, and_true, false_and, and_false, forall_const, true_implies, implies_true, not_true_eq_false, not_false_eq_true, false_implies, if_true, if_false, ↓reduceIte, Int.toNat_natCast, Int.reduceEq, Int.reduceNe, Int.reduceLT, Int.reduceLE, Int.reduceToNat, Int.reduceAdd, Int.reduceSub, Int.reduceMul, Int.reduceNeg, Nat.reduceAdd, Nat.reduceMul, Nat.reduceSub, iI_lit, jI_lit, iI_add, iI_sub, iI_mul, iI_neg, jI_add, jI_sub, jI_mul, jI_neg, nI_i, lN_j, iI_le, iI_lt, iI_eq, jI_le, jI_lt, jI_eq, iI_in, iI_cl, iI_j, jI_i, cN, inN, wI_eq, wI_ne, wJ_1, wJ_eq, wJ_ne, wI_2, wJ_3, iI_div, iI_rem, jI_div, jI_rem, true_or, or_true, false_or, or_false, eq_self, Nat.add_zero]
        exact (b4 j hj).2.2.2.2.1
    · rw [upI_at]
      by_cases hjk : j = k'
      · subst hjk
        simp (disch := omega) only [forall_eq, true_and, and_true, false_and, and_false, forall_const, true_implies, implies_true, not_true_eq_false, not_false_eq_true, false_implies, if_true, if_false, ↓reduceIte, Int.toNat_natCast, Int.reduceEq, Int.reduceNe, Int.reduceLT, Int.reduceLE, Int.reduceToNat, Int.reduceAdd, Int.reduceSub, Int.reduceMul, Int.reduceNeg, Nat.reduceAdd, Nat.reduceMul, Nat.reduceSub, iI_lit, jI_lit, iI_add, iI_sub, iI_mul, iI_neg, jI_add, jI_sub, jI_mul, jI_neg, nI_i, lN_j, iI_le, iI_lt, iI_eq, jI_le, jI_lt, jI_eq, iI_in, iI_cl, iI_j, jI_i, cN, inN, wI_eq, wI_ne, wJ_1, wJ_eq, wJ_ne, wI_2, wJ_3, iI_div, iI_rem, jI_div, jI_rem, true_or, or_true, false_or, or_false, eq_self, Nat.add_zero]
      · rw [if_neg hjk]
        simp (disch := omega) only [forall_eq, true_and, and_true, false_and, and_false, forall_const, true_implies, implies_true, not_true_eq_false, not_false_eq_true, false_implies, if_true, if_false, ↓reduceIte, Int.toNat_natCast, Int.reduceEq, Int.reduceNe, Int.reduceLT, Int.reduceLE, Int.reduceToNat, Int.reduceAdd, Int.reduceSub, Int.reduceMul, Int.reduceNeg, Nat.reduceAdd, Nat.reduceMul, Nat.reduceSub, iI_lit, jI_lit, iI_add, iI_sub, iI_mul, iI_neg, jI_add, jI_sub, jI_mul, jI_neg, nI_i, lN_j, iI_le, iI_lt, iI_eq, jI_le, jI_lt, jI_eq, iI_in, iI_cl, iI_j, jI_i, cN, inN, wI_eq, wI_ne, wJ_1, wJ_eq, wJ_ne, wI_2, wJ_3, iI_div, iI_rem, jI_div, jI_rem, true_or, or_true, false_or, or_false, eq_self, Nat.add_zero]
        exact (hb2 j hj).2.2
    · rw [wI_ne (by omega), f2.i (by unfold nmP frP mmP nbP; omega), sumI_up w k' b hk]
      simp (disch := omega) only [forall_eq, true_and, and_true, false_and, and_false, forall_const, true_implies, implies_true, not_true_eq_false, not_false_eq_true, false_implies, if_true, if_false, ↓reduceIte, Int.toNat_natCast, Int.reduceEq, Int.reduceNe, Int.reduceLT, Int.reduceLE, Int.reduceToNat, Int.reduceAdd, Int.reduceSub, Int.reduceMul, Int.reduceNeg, Nat.reduceAdd, Nat.reduceMul, Nat.reduceSub, iI_lit, jI_lit, iI_add, iI_sub, iI_mul, iI_neg, jI_add, jI_sub, jI_mul, jI_neg, nI_i, lN_j, iI_le, iI_lt, iI_eq, jI_le, jI_lt, jI_eq, iI_in, iI_cl, iI_j, jI_i, cN, inN, wI_eq, wI_ne, wJ_1, wJ_eq, wJ_ne, wI_2, wJ_3, iI_div, iI_rem, jI_div, jI_rem, true_or, or_true, false_or, or_false, eq_self, Nat.add_zero]
  · -- a new name
    by_cases h40 : b = 40
    · subst h40
      simp (disch := omega) only [forall_eq, true_and, and_true, false_and, and_false, forall_const, true_implies, implies_true, not_true_eq_false, not_false_eq_true, false_implies, if_true, if_false, ↓reduceIte, Int.toNat_natCast, Int.reduceEq, Int.reduceNe, Int.reduceLT, Int.reduceLE, Int.reduceToNat, Int.reduceAdd, Int.reduceSub, Int.reduceMul, Int.reduceNeg, Nat.reduceAdd, Nat.reduceMul, Nat.reduceSub, iI_lit, jI_lit, iI_add, iI_sub, iI_mul, iI_neg, jI_add, jI_sub, jI_mul, jI_neg, nI_i, lN_j, iI_le, iI_lt, iI_eq, jI_le, jI_lt, jI_eq, iI_in, iI_cl, iI_j, jI_i, cN, inN, wI_eq, wI_ne, wJ_1, wJ_eq, wJ_ne, wI_2, wJ_3, iI_div, iI_rem, jI_div, jI_rem, true_or, or_true, false_or, or_false, eq_self, Nat.add_zero, b2]
      refine ⟨fun z => by omega, fun _ => ?_⟩
      refine c_error (e := 4) (d := 1) hly (by decide) (by decide) (model _ _ (hh.fr (fr.rf.wI (P := fun a k => a = 76) rfl) (by omega) (fun k => by omega)) (fun h => by omega) (fun _ m2 vs f2 u1 u2 => ?_))
      have fC : fr (fun a k => a = 76) m (sm_wI m 76 4 (m.1 76 4 + 1)) := fr.rf.wI rfl
      have b3' : m2.1 109 15 = iI ((40 : Nat) : Int) := by rw [f2.i (by unfold nmP frP mmP nbP; omega), fC.i (by omega)]; exact b3
      have hpl : bpl m2 40 p q := ⟨by omega, b3', fun j hj => ⟨by have := (b4 j hj).1; omega, by rw [f2.i (by unfold nmP frP mmP nbP; omega), fC.i (by omega)]; exact (b4 j hj).2.2.1, by rw [f2.i (by unfold nmP frP mmP nbP; omega), fC.i (by omega)]; exact (b4 j hj).2.2.2.1⟩⟩
      rw [← hP, ← hR]
      refine c12_bookPlace2 hly (by omega) hpl (by omega) (by omega) (by omega) (by omega) (fun k' hk' e1' e2' => absurd ⟨e1', e2'⟩ (hno k' hk')) (fun _ => ?_)
      rw [b3']
      simp (disch := omega) only [forall_eq, true_and, and_true, false_and, and_false, forall_const, true_implies, implies_true, not_true_eq_false, not_false_eq_true, false_implies, if_true, if_false, ↓reduceIte, Int.toNat_natCast, Int.reduceEq, Int.reduceNe, Int.reduceLT, Int.reduceLE, Int.reduceToNat, Int.reduceAdd, Int.reduceSub, Int.reduceMul, Int.reduceNeg, Nat.reduceAdd, Nat.reduceMul, Nat.reduceSub, iI_lit, jI_lit, iI_add, iI_sub, iI_mul, iI_neg, jI_add, jI_sub, jI_mul, jI_neg, nI_i, lN_j, iI_le, iI_lt, iI_eq, jI_le, jI_lt, jI_eq, iI_in, iI_cl, iI_j, jI_i, cN, inN, wI_eq, wI_ne, wJ_1, wJ_eq, wJ_ne, wI_2, wJ_3, iI_div, iI_rem, jI_div, jI_rem, true_or, or_true, false_or, or_false, eq_self, Nat.add_zero]
      exact ⟨fun z => by omega, fun _ => c12_finds (e := 4) hly (by decide) (by omega) ⟨rfl, (hI.er frw.rf (f2.w.mono (fun a k h => nmP_sc h))).up (by omega) hc1⟩⟩
    · simp (disch := omega) only [forall_eq, true_and, and_true, false_and, and_false, forall_const, true_implies, implies_true, not_true_eq_false, not_false_eq_true, false_implies, if_true, if_false, ↓reduceIte, Int.toNat_natCast, Int.reduceEq, Int.reduceNe, Int.reduceLT, Int.reduceLE, Int.reduceToNat, Int.reduceAdd, Int.reduceSub, Int.reduceMul, Int.reduceNeg, Nat.reduceAdd, Nat.reduceMul, Nat.reduceSub, iI_lit, jI_lit, iI_add, iI_sub, iI_mul, iI_neg, jI_add, jI_sub, jI_mul, jI_neg, nI_i, lN_j, iI_le, iI_lt, iI_eq, jI_le, jI_lt, jI_eq, iI_in, iI_cl, iI_j, jI_i, cN, inN, wI_eq, wI_ne, wJ_1, wJ_eq, wJ_ne, wI_2, wJ_3, iI_div, iI_rem, jI_div, jI_rem, true_or, or_true, false_or, or_false, eq_self, Nat.add_zero, b2]
      refine ⟨fun _ => ⟨by omega, by omega, vX0_inscribe_49 hly (by omega) ?_⟩, fun z => by omega⟩
      have e5 : ((b : Nat) : Int) + 1 = ((b + 1 : Nat) : Int) := by omega
      simp (disch := omega) only [forall_eq, true_and, and_true, false_and, and_false, forall_const, true_implies, implies_true, not_true_eq_false, not_false_eq_true, false_implies, if_true, if_false, ↓reduceIte, Int.toNat_natCast, Int.reduceEq, Int.reduceNe, Int.reduceLT, Int.reduceLE, Int.reduceToNat, Int.reduceAdd, Int.reduceSub, Int.reduceMul, Int.reduceNeg, Nat.reduceAdd, Nat.reduceMul, Nat.reduceSub, iI_lit, jI_lit, iI_add, iI_sub, iI_mul, iI_neg, jI_add, jI_sub, jI_mul, jI_neg, nI_i, lN_j, iI_le, iI_lt, iI_eq, jI_le, jI_lt, jI_eq, iI_in, iI_cl, iI_j, jI_i, cN, inN, wI_eq, wI_ne, wJ_1, wJ_eq, wJ_ne, wI_2, wJ_3, iI_div, iI_rem, jI_div, jI_rem, true_or, or_true, false_or, or_false, eq_self, Nat.add_zero, b6, e5]
      refine ⟨by omega, by omega, by omega, ?_⟩
      obtain ⟨mC, hmC⟩ : ∃ mC, mC = sm_wI (sm_wI (sm_wI (sm_wI (sm_wJ m 71 b (pk P R)) 72 b (iI 0)) 70 2 (iI ((b + 1 : Nat) : Int))) 72 b (iI 1)) 70 3 (iI (sumI w b + 1)) := ⟨_, rfl⟩
      rw [← hmC]
      have fC : fr (fun a k => a = 71 ∨ a = 72 ∨ (a = 70 ∧ (k = 2 ∨ k = 3))) m mC := by
        rw [hmC]
        exact ((((fr.rf.wJ (Or.inl rfl)).wI (Or.inr (Or.inl rfl))).wI (Or.inr (Or.inr ⟨rfl, Or.inl rfl⟩))).wI (Or.inr (Or.inl rfl))).wI (Or.inr (Or.inr ⟨rfl, Or.inr rfl⟩))
      refine model _ _ (hh.fr fC (by omega) (fun k => by omega)) (fun h => by omega) (fun _ m2 vs f2 u1 u2 => ?_)
      have b3' : m2.1 109 15 = iI (b : Nat) := by rw [f2.i (by unfold nmP frP mmP nbP; omega), fC.i (by omega)]; exact b3
      have hb2 : ∀ j, j < b → m2.1 117 j = iI (p j) ∧ m2.1 118 j = iI (q j) ∧ m2.1 119 j = iI (w j) := fun j hj => by
        rw [f2.i (by unfold nmP frP mmP nbP; omega), f2.i (by unfold nmP frP mmP nbP; omega), f2.i (by unfold nmP frP mmP nbP; omega), fC.i (by omega), fC.i (by omega), fC.i (by omega)]
        exact ⟨(b4 j hj).2.2.1, (b4 j hj).2.2.2.1, (b4 j hj).2.2.2.2.2⟩
      have hpl : bpl m2 b p q := ⟨b1, b3', fun j hj => ⟨by have := (b4 j hj).1; omega, (hb2 j hj).1, (hb2 j hj).2.1⟩⟩
      rw [← hP] at u1
      rw [← hR] at u2
      rw [← hP, ← hR]
      refine c12_bookPlace2 hly (by omega) hpl (by omega) (by omega) (by omega) (by omega) (fun k' hk' e1' e2' => absurd ⟨e1', e2'⟩ (hno k' hk')) (fun _ => ?_)
      rw [b3']
      simp (disch := omega) only [forall_eq, true_and, and_true, false_and, and_false, forall_const, true_implies, implies_true, not_true_eq_false, not_false_eq_true, false_implies, if_true, if_false, ↓reduceIte, Int.toNat_natCast, Int.reduceEq, Int.reduceNe, Int.reduceLT, Int.reduceLE, Int.reduceToNat, Int.reduceAdd, Int.reduceSub, Int.reduceMul, Int.reduceNeg, Nat.reduceAdd, Nat.reduceMul, Nat.reduceSub, iI_lit, jI_lit, iI_add, iI_sub, iI_mul, iI_neg, jI_add, jI_sub, jI_mul, jI_neg, nI_i, lN_j, iI_le, iI_lt, iI_eq, jI_le, jI_lt, jI_eq, iI_in, iI_cl, iI_j, jI_i, cN, inN, wI_eq, wI_ne, wJ_1, wJ_eq, wJ_ne, wI_2, wJ_3, iI_div, iI_rem, jI_div, jI_rem, true_or, or_true, false_or, or_false, eq_self, Nat.add_zero]
      refine ⟨fun _ => vX12_enter_67 hly hd2 ?_, fun z => by omega⟩
      simp (disch := omega) only [forall_eq, true_and, and_true, false_and, and_false, forall_const, true_implies, implies_true, not_true_eq_false, not_false_eq_true, false_implies, if_true, if_false, ↓reduceIte, Int.toNat_natCast, Int.reduceEq, Int.reduceNe, Int.reduceLT, Int.reduceLE, Int.reduceToNat, Int.reduceAdd, Int.reduceSub, Int.reduceMul, Int.reduceNeg, Nat.reduceAdd, Nat.reduceMul, Nat.reduceSub, iI_lit, jI_lit, iI_add, iI_sub, iI_mul, iI_neg, jI_add, jI_sub, jI_mul, jI_neg, nI_i, lN_j, iI_le, iI_lt, iI_eq, jI_le, jI_lt, jI_eq, iI_in, iI_cl, iI_j, jI_i, cN, inN, wI_eq, wI_ne, wJ_1, wJ_eq, wJ_ne, wI_2, wJ_3, iI_div, iI_rem, jI_div, jI_rem, true_or, or_true, false_or, or_false, eq_self, Nat.add_zero, b3', u1, u2, e5]
      refine ⟨by omega, by omega, by omega, vX12_enter_115 hly hd2 ?_⟩
      simp (disch := omega) only [forall_eq, true_and, and_true, false_and, and_false, forall_const, true_implies, implies_true, not_true_eq_false, not_false_eq_true, false_implies, if_true, if_false, ↓reduceIte, Int.toNat_natCast, Int.reduceEq, Int.reduceNe, Int.reduceLT, Int.reduceLE, Int.reduceToNat, Int.reduceAdd, Int.reduceSub, Int.reduceMul, Int.reduceNeg, Nat.reduceAdd, Nat.reduceMul, Nat.reduceSub, iI_lit, jI_lit, iI_add, iI_sub, iI_mul, iI_neg, jI_add, jI_sub, jI_mul, jI_neg, nI_i, lN_j, iI_le, iI_lt, iI_eq, jI_le, jI_lt, jI_eq, iI_in, iI_cl, iI_j, jI_i, cN, inN, wI_eq, wI_ne, wJ_1, wJ_eq, wJ_ne, wI_2, wJ_3, iI_div, iI_rem, jI_div, jI_rem, true_or, or_true, false_or, or_false, eq_self, Nat.add_zero]
      obtain ⟨mM, hmM⟩ : ∃ mM, mM = sm_wI (sm_wI (sm_wI (sm_wI (sm_wI m2 117 b (iI P)) 118 b (iI R)) 119 b (iI 0)) 109 15 (iI ((b + 1 : Nat) : Int))) 119 b (iI 1) := ⟨_, rfl⟩
      rw [← hmM]
      have fM : fr (fun a k => a = 117 ∨ a = 118 ∨ a = 119 ∨ (a = 109 ∧ k = 15)) m2 mM := by
        rw [hmM]
        exact ((((fr.rf.wI (Or.inl rfl)).wI (Or.inr (Or.inl rfl))).wI (Or.inr (Or.inr (Or.inl rfl)))).wI (Or.inr (Or.inr (Or.inr ⟨rfl, rfl⟩)))).wI (Or.inr (Or.inr (Or.inl rfl)))
      have cC : ∀ a j, (a = 70 ∨ a = 72) → mM.1 a j = mC.1 a j := fun a j ha => by
        rw [fM.i (by omega), f2.i (by unfold nmP frP mmP nbP; omega)]
      have cJ : ∀ j, mM.2.1 71 j = mC.2.1 71 j := fun j => by
        rw [fM.j (by omega), f2.j (by unfold nmP frP mmP nbP; omega)]
      refine ⟨by omega, by omega, by omega, hI.book hc1 ((fC.w.mono (fun a k h => ?_)).tr ((nsc f2).tr (fM.w.mono (fun a k h => ?_)))) ⟨b + 1, upI p b P, upI q b R, upI w b 1, by omega, ?_, ?_, fun j hj => ⟨?_, ?_, ?_, ?_, ?_, ?_⟩, ?_, ?_⟩⟩
      · unfold bkP; omega
      · unfold bkP; omega
      · rw [cC 70 2 (by omega), hmC]
        simp (disch := omega) only [forall_eq, true_and, and_true, false_and, and_false, forall_const, true_implies, implies_true, not_true_eq_false, not_false_eq_true, false_implies, if_true, if_false, ↓reduceIte, Int.toNat_natCast, Int.reduceEq, Int.reduceNe, Int.reduceLT, Int.reduceLE, Int.reduceToNat, Int.reduceAdd, Int.reduceSub, Int.reduceMul, Int.reduceNeg, Nat.reduceAdd, Nat.reduceMul, Nat.reduceSub, iI_lit, jI_lit, iI_add, iI_sub, iI_mul, iI_neg, jI_add, jI_sub, jI_mul, jI_neg, nI_i, lN_j, iI_le, iI_lt, iI_eq, jI_le, jI_lt, jI_eq, iI_in, iI_cl, iI_j, jI_i, cN, inN, wI_eq, wI_ne, wJ_1, wJ_eq, wJ_ne, wI_2, wJ_3, iI_div, iI_rem, jI_div, jI_rem, true_or, or_true, false_or, or_false, eq_self, Nat.add_zero]
      · rw [hmM]
        simp (disch := omega) only [forall_eq, true_and, and_true, false_and, and_false, forall_const, true_implies, implies_true, not_true_eq_false, not_false_eq_true, false_implies, if_true, if_false, ↓reduceIte, Int.toNat_natCast, Int.reduceEq, Int.reduceNe, Int.reduceLT, Int.reduceLE, Int.reduceToNat, Int.reduceAdd, Int.reduceSub, Int.reduceMul, Int.reduceNeg, Nat.reduceAdd, Nat.reduceMul, Nat.reduceSub, iI_lit, jI_lit, iI_add, iI_sub, iI_mul, iI_neg, jI_add, jI_sub, jI_mul, jI_neg, nI_i, lN_j, iI_le, iI_lt, iI_eq, jI_le, jI_lt, jI_eq, iI_in, iI_cl, iI_j, jI_i, cN, inN, wI_eq, wI_ne, wJ_1, wJ_eq, wJ_ne, wI_2, wJ_3, iI_div, iI_rem, jI_div, jI_rem, true_or, or_true, false_or, or_false, eq_self, Nat.add_zero]
      · rw [upI_at, upI_at, upI_at]
        by_cases hjb : j = b
        · rw [if_pos hjb, if_pos hjb, if_pos hjb]
          omega
        · rw [if_neg hjb, if_neg hjb, if_neg hjb]
          have := (b4 j (by omega)).1
          omega
      · rw [cJ, hmC, upI_at, upI_at]
        by_cases hjb : j = b
        · rw [if_pos hjb, if_pos hjb]
          show (sm_wJ m 71 b (pk P R)).2.1 71 j = _
          rw [wJ_eq rfl hjb]
        · rw [if_neg hjb, if_neg hjb]
          show (sm_wJ m 71 b (pk P R)).2.1 71 j = _
          rw [wJ_ne (by omega)]
          exact (b4 j (by omega)).2.1
      · rw [hmM, upI_at]
        by_cases hjb : j = b
        · rw [if_pos hjb]
          simp (disch := omega) only [forall_eq, true_and, and_true, false_and, and_false, forall_const, true_implies, implies_true, not_true_eq_false, not_false_eq_true, false_implies, if_true, if_false, ↓reduceIte, Int.toNat_natCast, Int.reduceEq, Int.reduceNe, Int.reduceLT, Int.reduceLE, Int.reduceToNat, Int.reduceAdd, Int.reduceSub, Int.reduceMul, Int.reduceNeg, Nat.reduceAdd, Nat.reduceMul, Nat.reduceSub, iI_lit, jI_lit, iI_add, iI_sub, iI_mul, iI_neg, jI_add, jI_sub, jI_mul, jI_neg, nI_i, lN_j, iI_le, iI_lt, iI_eq, jI_le, jI_lt, jI_eq, iI_in, iI_cl, iI_j, jI_i, cN, inN, wI_eq, wI_ne, wJ_1, wJ_eq, wJ_ne, wI_2, wJ_3, iI_div, iI_rem, jI_div, jI_rem, true_or, or_true, false_or, or_false, eq_self, Nat.add_zero]
        · rw [if_neg hjb]
          simp (disch := omega) only [forall_eq, true_and, and_true, false_and, and_false, forall_const, true_implies, implies_true, not_true_eq_false, not_false_eq_true, false_implies, if_true, if_false, ↓reduceIte, Int.toNat_natCast, Int.reduceEq, Int.reduceNe, Int.reduceLT, Int.reduceLE, Int.reduceToNat, Int.reduceAdd, Int.reduceSub, Int.reduceMul, Int.reduceNeg, Nat.reduceAdd, Nat.reduceMul, Nat.reduceSub, iI_lit, jI_lit, iI_add, iI_sub, iI_mul, iI_neg, jI_add, jI_sub, jI_mul, jI_neg, nI_i, lN_j, iI_le, iI_lt, iI_eq, jI_le, jI_lt, jI_eq, iI_in, iI_cl, iI_j, jI_i, cN, inN, wI_eq, wI_ne, wJ_1, wJ_eq, wJ_ne, wI_2, wJ_3, iI_div, iI_rem, jI_div, jI_rem, true_or, or_true, false_or, or_false, eq_self, Nat.add_zero]
          exact (hb2 j (by omega)).1
      · rw [hmM, upI_at]
        by_cases hjb : j = b
        · rw [if_pos hjb]
          simp (disch := omega) only [forall_eq, true_and, and_true, false_and, and_false, forall_const, true_implies, implies_true, not_true_eq_false, not_false_eq_true, false_implies, if_true, if_false, ↓reduceIte, Int.toNat_natCast, Int.reduceEq, Int.reduceNe, Int.reduceLT, Int.reduceLE, Int.reduceToNat, Int.reduceAdd, Int.reduceSub, Int.reduceMul, Int.reduceNeg, Nat.reduceAdd, Nat.reduceMul, Nat.reduceSub, iI_lit, jI_lit, iI_add, iI_sub, iI_mul, iI_neg, jI_add, jI_sub, jI_mul, jI_neg, nI_i, lN_j, iI_le, iI_lt, iI_eq, jI_le, jI_lt, jI_eq, iI_in, iI_cl, iI_j, jI_i, cN, inN, wI_eq, wI_ne, wJ_1, wJ_eq, wJ_ne, wI_2, wJ_3, iI_div, iI_rem, jI_div, jI_rem, true_or, or_true, false_or, or_false, eq_self, Nat.add_zero]
        · rw [if_neg hjb]
          simp (disch := omega) only [forall_eq, true_and, and_true, false_and, and_false, forall_const, true_implies, implies_true, not_true_eq_false, not_false_eq_true, false_implies, if_true, if_false, ↓reduceIte, Int.toNat_natCast, Int.reduceEq, Int.reduceNe, Int.reduceLT, Int.reduceLE, Int.reduceToNat, Int.reduceAdd, Int.reduceSub, Int.reduceMul, Int.reduceNeg, Nat.reduceAdd, Nat.reduceMul, Nat.reduceSub, iI_lit, jI_lit, iI_add, iI_sub, iI_mul, iI_neg, jI_add, jI_sub, jI_mul, jI_neg, nI_i, lN_j, iI_le, iI_lt, iI_eq, jI_le, jI_lt, jI_eq, iI_in, iI_cl, iI_j, jI_i, cN, inN, wI_eq, wI_ne, wJ_1, wJ_eq, wJ_ne, wI_2, wJ_3, iI_div, iI_rem, jI_div, jI_rem, true_or, or_true, false_or, or_false, eq_self, Nat.add_zero]
          exact (hb2 j (by omega)).2.1
      · rw [cC 72 j (by omega), hmC, upI_at]
        by_cases hjb : j = b
        · rw [if_pos hjb]
          simp (disch := omega) only [forall_eq, true_and, and_true, false_and, and_false, forall_const, true_implies, implies_true, not_true_eq_false, not_false_eq_true, false_implies, if_true, if_false, ↓reduceIte, Int.toNat_natCast, Int.reduceEq, Int.reduceNe, Int.reduceLT, Int.reduceLE, Int.reduceToNat, Int.reduceAdd, Int.reduceSub, Int.reduceMul, Int.reduceNeg, Nat.reduceAdd, Nat.reduceMul, Nat.reduceSub, iI_lit, jI_lit, iI_add, iI_sub, iI_mul, iI_neg, jI_add, jI_sub, jI_mul, jI_neg, nI_i, lN_j, iI_le, iI_lt, iI_eq, jI_le, jI_lt, jI_eq, iI_in, iI_cl, iI_j, jI_i, cN, inN, wI_eq, wI_ne, wJ_1, wJ_eq, wJ_ne, wI_2, wJ_3, iI_div, iI_rem, jI_div, jI_rem, true_or, or_true, false_or, or_false, eq_self, Nat.add_zero]
        · rw [if_neg hjb]
          simp (disch := omega) only [forall_eq, true_and, and_true, false_and, and_false, forall_const, true_implies, implies_true, not_true_eq_false, not_false_eq_true, false_implies, if_true, if_false, ↓reduceIte, Int.toNat_natCast, Int.reduceEq, Int.reduceNe, Int.reduceLT, Int.reduceLE, Int.reduceToNat, Int.reduceAdd, Int.reduceSub, Int.reduceMul, Int.reduceNeg, Nat.reduceAdd, Nat.reduceMul, Nat.reduceSub, iI_lit, jI_lit, iI_add, iI_sub, iI_mul, iI_neg, jI_add, jI_sub, jI_mul, jI_neg, nI_i, lN_j, iI_le, iI_lt, iI_eq, jI_le, jI_lt, jI_eq, iI_in, iI_cl, iI_j, jI_i, cN, inN, wI_eq, wI_ne, wJ_1, wJ_eq, wJ_ne, wI_2, wJ_3, iI_div, iI_rem, jI_div, jI_rem, true_or, or_true, false_or, or_false, eq_self, Nat.add_zero]
          exact (b4 j (by omega)).2.2.2.2.1
      · rw [hmM, upI_at]
        by_cases hjb : j = b
        · rw [if_pos hjb]
          simp (disch := omega) only [forall_eq, true_and, and_true, false_and, and_false, forall_const, true_implies, implies_true, not_true_eq_false, not_false_eq_true, false_implies, if_true, if_false, ↓reduceIte, Int.toNat_natCast, Int.reduceEq, Int.reduceNe, Int.reduceLT, Int.reduceLE, Int.reduceToNat, Int.reduceAdd, Int.reduceSub, Int.reduceMul, Int.reduceNeg, Nat.reduceAdd, Nat.reduceMul, Nat.reduceSub, iI_lit, jI_lit, iI_add, iI_sub, iI_mul, iI_neg, jI_add, jI_sub, jI_mul, jI_neg, nI_i, lN_j, iI_le, iI_lt, iI_eq, jI_le, jI_lt, jI_eq, iI_in, iI_cl, iI_j, jI_i, cN, inN, wI_eq, wI_ne, wJ_1, wJ_eq, wJ_ne, wI_2, wJ_3, iI_div, iI_rem, jI_div, jI_rem, true_or, or_true, false_or, or_false, eq_self, Nat.add_zero]
        · rw [if_neg hjb]
          simp (disch := omega) only [forall_eq, true_and, and_true, false_and, and_false, forall_const, true_implies, implies_true, not_true_eq_false, not_false_eq_true, false_implies, if_true, if_false, ↓reduceIte, Int.toNat_natCast, Int.reduceEq, Int.reduceNe, Int.reduceLT, Int.reduceLE, Int.reduceToNat, Int.reduceAdd, Int.reduceSub, Int.reduceMul, Int.reduceNeg, Nat.reduceAdd, Nat.reduceMul, Nat.reduceSub, iI_lit, jI_lit, iI_add, iI_sub, iI_mul, iI_neg, jI_add, jI_sub, jI_mul, jI_neg, nI_i, lN_j, iI_le, iI_lt, iI_eq, jI_le, jI_lt, jI_eq, iI_in, iI_cl, iI_j, jI_i, cN, inN, wI_eq, wI_ne, wJ_1, wJ_eq, wJ_ne, wI_2, wJ_3, iI_div, iI_rem, jI_div, jI_rem, true_or, or_true, false_or, or_false, eq_self, Nat.add_zero]
          exact (hb2 j (by omega)).2.2
      · intro j k hj hk h1 h2
        rw [upI_at, upI_at] at h1 h2
        by_cases hjb : j = b
        · by_cases hkb : k = b
          · omega
          · rw [if_pos hjb, if_neg hkb] at h1 h2
            exact absurd ⟨h1.symm, h2.symm⟩ (hno k (by omega))
        · by_cases hkb : k = b
          · rw [if_neg hjb, if_pos hkb] at h1 h2
            exact absurd ⟨h1, h2⟩ (hno j (by omega))
          · rw [if_neg hjb, if_neg hkb] at h1 h2
            exact b5 j k (by omega) (by omega) h1 h2
      · rw [cC 70 3 (by omega), hmC, sumI, upI_eq, sumI_congr (v := w) (fun k hk => upI_ne (by omega))]
        simp (disch := omega) only [forall_eq, true_and, and_true, false_and, and_false, forall_const, true_implies, implies_true, not_true_eq_false, not_false_eq_true, false_implies, if_true, if_false, ↓reduceIte, Int.toNat_natCast, Int.reduceEq, Int.reduceNe, Int.reduceLT, Int.reduceLE, Int.reduceToNat, Int.reduceAdd, Int.reduceSub, Int.reduceMul, Int.reduceNeg, Nat.reduceAdd, Nat.reduceMul, Nat.reduceSub, iI_lit, jI_lit, iI_add, iI_sub, iI_mul, iI_neg, jI_add, jI_sub, jI_mul, jI_neg, nI_i, lN_j, iI_le, iI_lt, iI_eq, jI_le, jI_lt, jI_eq, iI_in, iI_cl, iI_j, jI_i, cN, inN, wI_eq, wI_ne, wJ_1, wJ_eq, wJ_ne, wI_2, wJ_3, iI_div, iI_rem, jI_div, jI_rem, true_or, or_true, false_or, or_false, eq_self, Nat.add_zero]
/-! alike -/
theorem c12_glass {Q : sm_M → Prop} {P R : Int} (hly : ∀ S, L S → ly S) (hd : 3 ≤ d) (hn : isNm P R) (hP2 : P ≤ 16777216) (e1 : m.2.1 109 60 = jI P) (e2 : m.2.1 109 61 = jI R) (h : ∀ m', fr nbP m m' → m'.2.1 109 60 = jI (gl P R).1 → m'.2.1 109 61 = jI (gl P R).2 → Q m') : sm_callV E L mX12_glass d 0 0 [.ref (sm_B E + 109)] m Q := by
  have hb := hn.bd
  refine vX12_glass_0 hly hd ?_
  rw [e1, e2]
  simp (disch := omega) only [forall_eq, true_and, and_true, false_and, and_false, forall_const, true_implies, implies_true, not_true_eq_false, not_false_eq_true, false_implies, if_true, if_false, ↓reduceIte, Int.toNat_natCast, Int.reduceEq, Int.reduceNe, Int.reduceLT, Int.reduceLE, Int.reduceToNat, Int.reduceAdd, Int.reduceSub, Int.reduceMul, Int.reduceNeg, Nat.reduceAdd, Nat.reduceMul, Nat.reduceSub, iI_lit, jI_lit, iI_add, iI_sub, iI_mul, iI_neg, jI_add, jI_sub, jI_mul, jI_neg, nI_i, lN_j, iI_le, iI_lt, iI_eq, jI_le, jI_lt, jI_eq, iI_in, iI_cl, iI_j, jI_i, cN, inN, wI_eq, wI_ne, wJ_1, wJ_eq, wJ_ne, wI_2, wJ_3, iI_div, iI_rem, jI_div, jI_rem, true_or, or_true, false_or, or_false, eq_self, Nat.add_zero]
  refine ⟨fun z => h m fr.rf ?_ ?_, fun z => ?_⟩
  · rw [e1, gl, if_pos z]
  · rw [e2, gl, if_pos z]
  · obtain ⟨x, y, e⟩ := hn.cop
    refine c12_namesBy hly (by omega) hb.1 (by omega) (by omega) (by omega) (fun _ => ⟨x + y, -y, by grind⟩) (fun m' f' w1 w2 => h m' f' ?_ ?_)
    · rw [w1, gl, if_neg z]
    · rw [w2, gl, if_neg z, if_neg (by omega)]
theorem c_glassOf2 {Q : Int64 → sm_M → Prop} {P R : Int} (hn : isNm P R) (hP2 : P ≤ 16777216) (hd : 3 ≤ d) (h : Q (pk (gl P R).1 (gl P R).2) m) : sm_callJ E L mX6_glassOf d 0 0 [.long (pk P R)] m Q := by
  have hb := hn.bd
  refine c_glassOf hb.1 (by omega) hb.2.1 (by omega) (fun _ => cop_gcd hn.cop) hd ?_
  unfold gl at h
  by_cases hp : P ≤ 1
  · rw [if_pos hp] at h ⊢
    exact h
  · rw [if_neg hp] at h ⊢
    have e : nm P (P - R) = (P, nmB P (P - R)) := by
      unfold nm
      rw [if_neg (by omega), if_neg (by omega), if_pos (by omega), show (P.natAbs : Int) = P by omega]
    rw [e]
    exact h
theorem k_alike {x1 x2 x3 x4 : Int32} (hly : ∀ S, L S → ly S) (hd1 : 4 ≤ d1) (hd2 : 5 ≤ d2) (hI : Inv c m) : sm_callI E L mX11_alike d1 0 0 [.ref (sm_B E + 0), .int x1, .int x2, .int x3, .int x4] m (fun r m1 => sm_callI E L mX12_alike d2 0 0 [.ref (sm_B E + 109), .int x1, .int x2, .int x3, .int x4] m1 (fun r2 m2 => r = r2 ∧ Inv c m2)) := by
  obtain ⟨i, i1, i2, rfl⟩ := iI_ex x1
  obtain ⟨s, s1, s2, rfl⟩ := iI_ex x2
  obtain ⟨o, o1, o2, rfl⟩ := iI_ex x3
  obtain ⟨u, u1, u2, rfl⟩ := iI_ex x4
  by_cases hi : 0 ≤ i ∧ i < 6
  rotate_left
  · refine vX11_alike_0 hly hd1 (c_isSlot i1 i2 (by omega) ?_)
    simp (disch := omega) only [forall_eq, true_and, and_true, false_and, and_false, forall_const, true_implies, implies_true, not_true_eq_false, not_false_eq_true, false_implies, if_true, if_false, ↓reduceIte, Int.toNat_natCast, Int.reduceEq, Int.reduceNe, Int.reduceLT, Int.reduceLE, Int.reduceToNat, Int.reduceAdd, Int.reduceSub, Int.reduceMul, Int.reduceNeg, Nat.reduceAdd, Nat.reduceMul, Nat.reduceSub, iI_lit, jI_lit, iI_add, iI_sub, iI_mul, iI_neg, jI_add, jI_sub, jI_mul, jI_neg, nI_i, lN_j, iI_le, iI_lt, iI_eq, jI_le, jI_lt, jI_eq, iI_in, iI_cl, iI_j, jI_i, cN, inN, wI_eq, wI_ne, wJ_1, wJ_eq, wJ_ne, wI_2, wJ_3, iI_div, iI_rem, jI_div, jI_rem, true_or, or_true, false_or, or_false, eq_self, Nat.add_zero, hi]
    refine c_error (e := 1) hly (by decide) (by omega) (vX12_alike_0 hly hd2 (c12_isSlot i1 i2 (by omega) ?_))
    simp (disch := omega) only [forall_eq, true_and, and_true, false_and, and_false, forall_const, true_implies, implies_true, not_true_eq_false, not_false_eq_true, false_implies, if_true, if_false, ↓reduceIte, Int.toNat_natCast, Int.reduceEq, Int.reduceNe, Int.reduceLT, Int.reduceLE, Int.reduceToNat, Int.reduceAdd, Int.reduceSub, Int.reduceMul, Int.reduceNeg, Nat.reduceAdd, Nat.reduceMul, Nat.reduceSub, iI_lit, jI_lit, iI_add, iI_sub, iI_mul, iI_neg, jI_add, jI_sub, jI_mul, jI_neg, nI_i, lN_j, iI_le, iI_lt, iI_eq, jI_le, jI_lt, jI_eq, iI_in, iI_cl, iI_j, jI_i, cN, inN, wI_eq, wI_ne, wJ_1, wJ_eq, wJ_ne, wI_2, wJ_3, iI_div, iI_rem, jI_div, jI_rem, true_or, or_true, false_or, or_false, eq_self, Nat.add_zero, hi]
    exact c12_finds (e := 1) hly (by decide) (by omega) ⟨rfl, hI.er frw.rf frw.rf⟩
  by_cases hs : s = 0 ∨ s = 1
  rotate_left
  · refine vX11_alike_0 hly hd1 (c_isSlot i1 i2 (by omega) ?_)
    simp (disch := omega) only [forall_eq, true_and, and_true, false_and, and_false, forall_const, true_implies, implies_true, not_true_eq_false, not_false_eq_true, false_implies, if_true, if_false, ↓reduceIte, Int.toNat_natCast, Int.reduceEq, Int.reduceNe, Int.reduceLT, Int.reduceLE, Int.reduceToNat, Int.reduceAdd, Int.reduceSub, Int.reduceMul, Int.reduceNeg, Nat.reduceAdd, Nat.reduceMul, Nat.reduceSub, iI_lit, jI_lit, iI_add, iI_sub, iI_mul, iI_neg, jI_add, jI_sub, jI_mul, jI_neg, nI_i, lN_j, iI_le, iI_lt, iI_eq, jI_le, jI_lt, jI_eq, iI_in, iI_cl, iI_j, jI_i, cN, inN, wI_eq, wI_ne, wJ_1, wJ_eq, wJ_ne, wI_2, wJ_3, iI_div, iI_rem, jI_div, jI_rem, true_or, or_true, false_or, or_false, eq_self, Nat.add_zero, hi]
    refine c_isChoice s1 s2 (by omega) ?_
    rw [if_neg hs]
    simp (disch := omega) only [forall_eq, true_and, and_true, false_and, and_false, forall_const, true_implies, implies_true, not_true_eq_false, not_false_eq_true, false_implies, if_true, if_false, ↓reduceIte, Int.toNat_natCast, Int.reduceEq, Int.reduceNe, Int.reduceLT, Int.reduceLE, Int.reduceToNat, Int.reduceAdd, Int.reduceSub, Int.reduceMul, Int.reduceNeg, Nat.reduceAdd, Nat.reduceMul, Nat.reduceSub, iI_lit, jI_lit, iI_add, iI_sub, iI_mul, iI_neg, jI_add, jI_sub, jI_mul, jI_neg, nI_i, lN_j, iI_le, iI_lt, iI_eq, jI_le, jI_lt, jI_eq, iI_in, iI_cl, iI_j, jI_i, cN, inN, wI_eq, wI_ne, wJ_1, wJ_eq, wJ_ne, wI_2, wJ_3, iI_div, iI_rem, jI_div, jI_rem, true_or, or_true, false_or, or_false, eq_self, Nat.add_zero]
    refine c_error (e := 1) hly (by decide) (by omega) (vX12_alike_0 hly hd2 (c12_isSlot i1 i2 (by omega) ?_))
    simp (disch := omega) only [forall_eq, true_and, and_true, false_and, and_false, forall_const, true_implies, implies_true, not_true_eq_false, not_false_eq_true, false_implies, if_true, if_false, ↓reduceIte, Int.toNat_natCast, Int.reduceEq, Int.reduceNe, Int.reduceLT, Int.reduceLE, Int.reduceToNat, Int.reduceAdd, Int.reduceSub, Int.reduceMul, Int.reduceNeg, Nat.reduceAdd, Nat.reduceMul, Nat.reduceSub, iI_lit, jI_lit, iI_add, iI_sub, iI_mul, iI_neg, jI_add, jI_sub, jI_mul, jI_neg, nI_i, lN_j, iI_le, iI_lt, iI_eq, jI_le, jI_lt, jI_eq, iI_in, iI_cl, iI_j, jI_i, cN, inN, wI_eq, wI_ne, wJ_1, wJ_eq, wJ_ne, wI_2, wJ_3, iI_div, iI_rem, jI_div, jI_rem, true_or, or_true, false_or, or_false, eq_self, Nat.add_zero, hi]
    refine c12_isPart s1 s2 (by omega) ?_
    rw [if_neg hs]
    simp (disch := omega) only [forall_eq, true_and, and_true, false_and, and_false, forall_const, true_implies, implies_true, not_true_eq_false, not_false_eq_true, false_implies, if_true, if_false, ↓reduceIte, Int.toNat_natCast, Int.reduceEq, Int.reduceNe, Int.reduceLT, Int.reduceLE, Int.reduceToNat, Int.reduceAdd, Int.reduceSub, Int.reduceMul, Int.reduceNeg, Nat.reduceAdd, Nat.reduceMul, Nat.reduceSub, iI_lit, jI_lit, iI_add, iI_sub, iI_mul, iI_neg, jI_add, jI_sub, jI_mul, jI_neg, nI_i, lN_j, iI_le, iI_lt, iI_eq, jI_le, jI_lt, jI_eq, iI_in, iI_cl, iI_j, jI_i, cN, inN, wI_eq, wI_ne, wJ_1, wJ_eq, wJ_ne, wI_2, wJ_3, iI_div, iI_rem, jI_div, jI_rem, true_or, or_true, false_or, or_false, eq_self, Nat.add_zero]
    exact c12_finds (e := 1) hly (by decide) (by omega) ⟨rfl, hI.er frw.rf frw.rf⟩
  by_cases ho : 0 ≤ o ∧ o < 6
  rotate_left
  · refine vX11_alike_0 hly hd1 (c_isSlot i1 i2 (by omega) ?_)
    simp (disch := omega) only [forall_eq, true_and, and_true, false_and, and_false, forall_const, true_implies, implies_true, not_true_eq_false, not_false_eq_true, false_implies, if_true, if_false, ↓reduceIte, Int.toNat_natCast, Int.reduceEq, Int.reduceNe, Int.reduceLT, Int.reduceLE, Int.reduceToNat, Int.reduceAdd, Int.reduceSub, Int.reduceMul, Int.reduceNeg, Nat.reduceAdd, Nat.reduceMul, Nat.reduceSub, iI_lit, jI_lit, iI_add, iI_sub, iI_mul, iI_neg, jI_add, jI_sub, jI_mul, jI_neg, nI_i, lN_j, iI_le, iI_lt, iI_eq, jI_le, jI_lt, jI_eq, iI_in, iI_cl, iI_j, jI_i, cN, inN, wI_eq, wI_ne, wJ_1, wJ_eq, wJ_ne, wI_2, wJ_3, iI_div, iI_rem, jI_div, jI_rem, true_or, or_true, false_or, or_false, eq_self, Nat.add_zero, hi]
    refine c_isChoice s1 s2 (by omega) ?_
    rw [if_pos hs]
    simp (disch := omega) only [forall_eq, true_and, and_true, false_and, and_false, forall_const, true_implies, implies_true, not_true_eq_false, not_false_eq_true, false_implies, if_true, if_false, ↓reduceIte, Int.toNat_natCast, Int.reduceEq, Int.reduceNe, Int.reduceLT, Int.reduceLE, Int.reduceToNat, Int.reduceAdd, Int.reduceSub, Int.reduceMul, Int.reduceNeg, Nat.reduceAdd, Nat.reduceMul, Nat.reduceSub, iI_lit, jI_lit, iI_add, iI_sub, iI_mul, iI_neg, jI_add, jI_sub, jI_mul, jI_neg, nI_i, lN_j, iI_le, iI_lt, iI_eq, jI_le, jI_lt, jI_eq, iI_in, iI_cl, iI_j, jI_i, cN, inN, wI_eq, wI_ne, wJ_1, wJ_eq, wJ_ne, wI_2, wJ_3, iI_div, iI_rem, jI_div, jI_rem, true_or, or_true, false_or, or_false, eq_self, Nat.add_zero]
    refine c_isSlot o1 o2 (by omega) ?_
    simp (disch := omega) only [forall_eq, true_and, and_true, false_and, and_false, forall_const, true_implies, implies_true, not_true_eq_false, not_false_eq_true, false_implies, if_true, if_false, ↓reduceIte, Int.toNat_natCast, Int.reduceEq, Int.reduceNe, Int.reduceLT, Int.reduceLE, Int.reduceToNat, Int.reduceAdd, Int.reduceSub, Int.reduceMul, Int.reduceNeg, Nat.reduceAdd, Nat.reduceMul, Nat.reduceSub, iI_lit, jI_lit, iI_add, iI_sub, iI_mul, iI_neg, jI_add, jI_sub, jI_mul, jI_neg, nI_i, lN_j, iI_le, iI_lt, iI_eq, jI_le, jI_lt, jI_eq, iI_in, iI_cl, iI_j, jI_i, cN, inN, wI_eq, wI_ne, wJ_1, wJ_eq, wJ_ne, wI_2, wJ_3, iI_div, iI_rem, jI_div, jI_rem, true_or, or_true, false_or, or_false, eq_self, Nat.add_zero, ho]
    refine c_error (e := 1) hly (by decide) (by omega) (vX12_alike_0 hly hd2 (c12_isSlot i1 i2 (by omega) ?_))
    simp (disch := omega) only [forall_eq, true_and, and_true, false_and, and_false, forall_const, true_implies, implies_true, not_true_eq_false, not_false_eq_true, false_implies, if_true, if_false, ↓reduceIte, Int.toNat_natCast, Int.reduceEq, Int.reduceNe, Int.reduceLT, Int.reduceLE, Int.reduceToNat, Int.reduceAdd, Int.reduceSub, Int.reduceMul, Int.reduceNeg, Nat.reduceAdd, Nat.reduceMul, Nat.reduceSub, iI_lit, jI_lit, iI_add, iI_sub, iI_mul, iI_neg, jI_add, jI_sub, jI_mul, jI_neg, nI_i, lN_j, iI_le, iI_lt, iI_eq, jI_le, jI_lt, jI_eq, iI_in, iI_cl, iI_j, jI_i, cN, inN, wI_eq, wI_ne, wJ_1, wJ_eq, wJ_ne, wI_2, wJ_3, iI_div, iI_rem, jI_div, jI_rem, true_or, or_true, false_or, or_false, eq_self, Nat.add_zero, hi]
    refine c12_isPart s1 s2 (by omega) ?_
    rw [if_pos hs]
    simp (disch := omega) only [forall_eq, true_and, and_true, false_and, and_false, forall_const, true_implies, implies_true, not_true_eq_false, not_false_eq_true, false_implies, if_true, if_false, ↓reduceIte, Int.toNat_natCast, Int.reduceEq, Int.reduceNe, Int.reduceLT, Int.reduceLE, Int.reduceToNat, Int.reduceAdd, Int.reduceSub, Int.reduceMul, Int.reduceNeg, Nat.reduceAdd, Nat.reduceMul, Nat.reduceSub, iI_lit, jI_lit, iI_add, iI_sub, iI_mul, iI_neg, jI_add, jI_sub, jI_mul, jI_neg, nI_i, lN_j, iI_le, iI_lt, iI_eq, jI_le, jI_lt, jI_eq, iI_in, iI_cl, iI_j, jI_i, cN, inN, wI_eq, wI_ne, wJ_1, wJ_eq, wJ_ne, wI_2, wJ_3, iI_div, iI_rem, jI_div, jI_rem, true_or, or_true, false_or, or_false, eq_self, Nat.add_zero]
    refine c12_isSlot o1 o2 (by omega) ?_
    simp (disch := omega) only [forall_eq, true_and, and_true, false_and, and_false, forall_const, true_implies, implies_true, not_true_eq_false, not_false_eq_true, false_implies, if_true, if_false, ↓reduceIte, Int.toNat_natCast, Int.reduceEq, Int.reduceNe, Int.reduceLT, Int.reduceLE, Int.reduceToNat, Int.reduceAdd, Int.reduceSub, Int.reduceMul, Int.reduceNeg, Nat.reduceAdd, Nat.reduceMul, Nat.reduceSub, iI_lit, jI_lit, iI_add, iI_sub, iI_mul, iI_neg, jI_add, jI_sub, jI_mul, jI_neg, nI_i, lN_j, iI_le, iI_lt, iI_eq, jI_le, jI_lt, jI_eq, iI_in, iI_cl, iI_j, jI_i, cN, inN, wI_eq, wI_ne, wJ_1, wJ_eq, wJ_ne, wI_2, wJ_3, iI_div, iI_rem, jI_div, jI_rem, true_or, or_true, false_or, or_false, eq_self, Nat.add_zero, ho]
    exact c12_finds (e := 1) hly (by decide) (by omega) ⟨rfl, hI.er frw.rf frw.rf⟩
  by_cases hu : u = 0 ∨ u = 1
  rotate_left
  · refine vX11_alike_0 hly hd1 (c_isSlot i1 i2 (by omega) ?_)
    simp (disch := omega) only [forall_eq, true_and, and_true, false_and, and_false, forall_const, true_implies, implies_true, not_true_eq_false, not_false_eq_true, false_implies, if_true, if_false, ↓reduceIte, Int.toNat_natCast, Int.reduceEq, Int.reduceNe, Int.reduceLT, Int.reduceLE, Int.reduceToNat, Int.reduceAdd, Int.reduceSub, Int.reduceMul, Int.reduceNeg, Nat.reduceAdd, Nat.reduceMul, Nat.reduceSub, iI_lit, jI_lit, iI_add, iI_sub, iI_mul, iI_neg, jI_add, jI_sub, jI_mul, jI_neg, nI_i, lN_j, iI_le, iI_lt, iI_eq, jI_le, jI_lt, jI_eq, iI_in, iI_cl, iI_j, jI_i, cN, inN, wI_eq, wI_ne, wJ_1, wJ_eq, wJ_ne, wI_2, wJ_3, iI_div, iI_rem, jI_div, jI_rem, true_or, or_true, false_or, or_false, eq_self, Nat.add_zero, hi]
    refine c_isChoice s1 s2 (by omega) ?_
    rw [if_pos hs]
    simp (disch := omega) only [forall_eq, true_and, and_true, false_and, and_false, forall_const, true_implies, implies_true, not_true_eq_false, not_false_eq_true, false_implies, if_true, if_false, ↓reduceIte, Int.toNat_natCast, Int.reduceEq, Int.reduceNe, Int.reduceLT, Int.reduceLE, Int.reduceToNat, Int.reduceAdd, Int.reduceSub, Int.reduceMul, Int.reduceNeg, Nat.reduceAdd, Nat.reduceMul, Nat.reduceSub, iI_lit, jI_lit, iI_add, iI_sub, iI_mul, iI_neg, jI_add, jI_sub, jI_mul, jI_neg, nI_i, lN_j, iI_le, iI_lt, iI_eq, jI_le, jI_lt, jI_eq, iI_in, iI_cl, iI_j, jI_i, cN, inN, wI_eq, wI_ne, wJ_1, wJ_eq, wJ_ne, wI_2, wJ_3, iI_div, iI_rem, jI_div, jI_rem, true_or, or_true, false_or, or_false, eq_self, Nat.add_zero]
    refine c_isSlot o1 o2 (by omega) ?_
    simp (disch := omega) only [forall_eq, true_and, and_true, false_and, and_false, forall_const, true_implies, implies_true, not_true_eq_false, not_false_eq_true, false_implies, if_true, if_false, ↓reduceIte, Int.toNat_natCast, Int.reduceEq, Int.reduceNe, Int.reduceLT, Int.reduceLE, Int.reduceToNat, Int.reduceAdd, Int.reduceSub, Int.reduceMul, Int.reduceNeg, Nat.reduceAdd, Nat.reduceMul, Nat.reduceSub, iI_lit, jI_lit, iI_add, iI_sub, iI_mul, iI_neg, jI_add, jI_sub, jI_mul, jI_neg, nI_i, lN_j, iI_le, iI_lt, iI_eq, jI_le, jI_lt, jI_eq, iI_in, iI_cl, iI_j, jI_i, cN, inN, wI_eq, wI_ne, wJ_1, wJ_eq, wJ_ne, wI_2, wJ_3, iI_div, iI_rem, jI_div, jI_rem, true_or, or_true, false_or, or_false, eq_self, Nat.add_zero, ho]
    refine c_isChoice u1 u2 (by omega) ?_
    rw [if_neg hu]
    simp (disch := omega) only [forall_eq, true_and, and_true, false_and, and_false, forall_const, true_implies, implies_true, not_true_eq_false, not_false_eq_true, false_implies, if_true, if_false, ↓reduceIte, Int.toNat_natCast, Int.reduceEq, Int.reduceNe, Int.reduceLT, Int.reduceLE, Int.reduceToNat, Int.reduceAdd, Int.reduceSub, Int.reduceMul, Int.reduceNeg, Nat.reduceAdd, Nat.reduceMul, Nat.reduceSub, iI_lit, jI_lit, iI_add, iI_sub, iI_mul, iI_neg, jI_add, jI_sub, jI_mul, jI_neg, nI_i, lN_j, iI_le, iI_lt, iI_eq, jI_le, jI_lt, jI_eq, iI_in, iI_cl, iI_j, jI_i, cN, inN, wI_eq, wI_ne, wJ_1, wJ_eq, wJ_ne, wI_2, wJ_3, iI_div, iI_rem, jI_div, jI_rem, true_or, or_true, false_or, or_false, eq_self, Nat.add_zero]
    refine c_error (e := 1) hly (by decide) (by omega) (vX12_alike_0 hly hd2 (c12_isSlot i1 i2 (by omega) ?_))
    simp (disch := omega) only [forall_eq, true_and, and_true, false_and, and_false, forall_const, true_implies, implies_true, not_true_eq_false, not_false_eq_true, false_implies, if_true, if_false, ↓reduceIte, Int.toNat_natCast, Int.reduceEq, Int.reduceNe, Int.reduceLT, Int.reduceLE, Int.reduceToNat, Int.reduceAdd, Int.reduceSub, Int.reduceMul, Int.reduceNeg, Nat.reduceAdd, Nat.reduceMul, Nat.reduceSub, iI_lit, jI_lit, iI_add, iI_sub, iI_mul, iI_neg, jI_add, jI_sub, jI_mul, jI_neg, nI_i, lN_j, iI_le, iI_lt, iI_eq, jI_le, jI_lt, jI_eq, iI_in, iI_cl, iI_j, jI_i, cN, inN, wI_eq, wI_ne, wJ_1, wJ_eq, wJ_ne, wI_2, wJ_3, iI_div, iI_rem, jI_div, jI_rem, true_or, or_true, false_or, or_false, eq_self, Nat.add_zero, hi]
    refine c12_isPart s1 s2 (by omega) ?_
    rw [if_pos hs]
    simp (disch := omega) only [forall_eq, true_and, and_true, false_and, and_false, forall_const, true_implies, implies_true, not_true_eq_false, not_false_eq_true, false_implies, if_true, if_false, ↓reduceIte, Int.toNat_natCast, Int.reduceEq, Int.reduceNe, Int.reduceLT, Int.reduceLE, Int.reduceToNat, Int.reduceAdd, Int.reduceSub, Int.reduceMul, Int.reduceNeg, Nat.reduceAdd, Nat.reduceMul, Nat.reduceSub, iI_lit, jI_lit, iI_add, iI_sub, iI_mul, iI_neg, jI_add, jI_sub, jI_mul, jI_neg, nI_i, lN_j, iI_le, iI_lt, iI_eq, jI_le, jI_lt, jI_eq, iI_in, iI_cl, iI_j, jI_i, cN, inN, wI_eq, wI_ne, wJ_1, wJ_eq, wJ_ne, wI_2, wJ_3, iI_div, iI_rem, jI_div, jI_rem, true_or, or_true, false_or, or_false, eq_self, Nat.add_zero]
    refine c12_isSlot o1 o2 (by omega) ?_
    simp (disch := omega) only [forall_eq, true_and, and_true, false_and, and_false, forall_const, true_implies, implies_true, not_true_eq_false, not_false_eq_true, false_implies, if_true, if_false, ↓reduceIte, Int.toNat_natCast, Int.reduceEq, Int.reduceNe, Int.reduceLT, Int.reduceLE, Int.reduceToNat, Int.reduceAdd, Int.reduceSub, Int.reduceMul, Int.reduceNeg, Nat.reduceAdd, Nat.reduceMul, Nat.reduceSub, iI_lit, jI_lit, iI_add, iI_sub, iI_mul, iI_neg, jI_add, jI_sub, jI_mul, jI_neg, nI_i, lN_j, iI_le, iI_lt, iI_eq, jI_le, jI_lt, jI_eq, iI_in, iI_cl, iI_j, jI_i, cN, inN, wI_eq, wI_ne, wJ_1, wJ_eq, wJ_ne, wI_2, wJ_3, iI_div, iI_rem, jI_div, jI_rem, true_or, or_true, false_or, or_false, eq_self, Nat.add_zero, ho]
    refine c12_isPart u1 u2 (by omega) ?_
    rw [if_neg hu]
    simp (disch := omega) only [forall_eq, true_and, and_true, false_and, and_false, forall_const, true_implies, implies_true, not_true_eq_false, not_false_eq_true, false_implies, if_true, if_false, ↓reduceIte, Int.toNat_natCast, Int.reduceEq, Int.reduceNe, Int.reduceLT, Int.reduceLE, Int.reduceToNat, Int.reduceAdd, Int.reduceSub, Int.reduceMul, Int.reduceNeg, Nat.reduceAdd, Nat.reduceMul, Nat.reduceSub, iI_lit, jI_lit, iI_add, iI_sub, iI_mul, iI_neg, jI_add, jI_sub, jI_mul, jI_neg, nI_i, lN_j, iI_le, iI_lt, iI_eq, jI_le, jI_lt, jI_eq, iI_in, iI_cl, iI_j, jI_i, cN, inN, wI_eq, wI_ne, wJ_1, wJ_eq, wJ_ne, wI_2, wJ_3, iI_div, iI_rem, jI_div, jI_rem, true_or, or_true, false_or, or_false, eq_self, Nat.add_zero]
    exact c12_finds (e := 1) hly (by decide) (by omega) ⟨rfl, hI.er frw.rf frw.rf⟩
  obtain ⟨a, rfl⟩ : ∃ j : Nat, i = (j : Int) := ⟨i.toNat, by omega⟩
  obtain ⟨b, rfl⟩ : ∃ j : Nat, o = (j : Int) := ⟨o.toNat, by omega⟩
  have ha : a < 6 := by omega
  have hb : b < 6 := by omega
  obtain ⟨t, n, hv, hg, hh⟩ := hI.2.1.1 a ha
  obtain ⟨t', n', hv', hg', hh'⟩ := hI.2.1.1 b hb
  have hT := ly_slotT hly ha
  have hT' := ly_slotT hly hb
  have hr01 := ev_01' t n
  have hr01' := ev_01' t' n'
  have model : ∀ (m1 : sm_M) (Q : Int32 → sm_M → Prop), hl m1 a t n → hl m1 b t' n' → (¬ (Tr t n = 1 ∧ Tr t' n' = 1) → ∀ m', fr nmP m1 m' → Q (iI (-1000000000 - (3 : Nat))) (sm_wI m' 110 3 (m'.1 110 3 + 1))) → (Tr t n = 1 → Tr t' n' = 1 → ∀ m', fr nmP m1 m' → Q (iI ((if NM t' n' u = NM t n s then 1 else 0) + (if gl (NM t' n' u).1 (NM t' n' u).2 = NM t n s then 2 else 0))) m') → sm_callI E L mX12_alike d2 0 0 [.ref (sm_B E + 109), .int (iI (a : Nat)), .int (iI s), .int (iI (b : Nat)), .int (iI u)] m1 Q := by
    intro m1 Q h1 h2 hQ0 hQ1
    refine vX12_alike_0 hly hd2 (c12_isSlot i1 i2 (by omega) ?_)
    simp (disch := omega) only [forall_eq, true_and, and_true, false_and, and_false, forall_const, true_implies, implies_true, not_true_eq_false, not_false_eq_true, false_implies, if_true, if_false, ↓reduceIte, Int.toNat_natCast, Int.reduceEq, Int.reduceNe, Int.reduceLT, Int.reduceLE, Int.reduceToNat, Int.reduceAdd, Int.reduceSub, Int.reduceMul, Int.reduceNeg, Nat.reduceAdd, Nat.reduceMul, Nat.reduceSub, iI_lit, jI_lit, iI_add, iI_sub, iI_mul, iI_neg, jI_add, jI_sub, jI_mul, jI_neg, nI_i, lN_j, iI_le, iI_lt, iI_eq, jI_le, jI_lt, jI_eq, iI_in, iI_cl, iI_j, jI_i, cN, inN, wI_eq, wI_ne, wJ_1, wJ_eq, wJ_ne, wI_2, wJ_3, iI_div, iI_rem, jI_div, jI_rem, true_or, or_true, false_or, or_false, eq_self, Nat.add_zero, hi]
    refine c12_isPart s1 s2 (by omega) ?_
    rw [if_pos hs]
    simp (disch := omega) only [forall_eq, true_and, and_true, false_and, and_false, forall_const, true_implies, implies_true, not_true_eq_false, not_false_eq_true, false_implies, if_true, if_false, ↓reduceIte, Int.toNat_natCast, Int.reduceEq, Int.reduceNe, Int.reduceLT, Int.reduceLE, Int.reduceToNat, Int.reduceAdd, Int.reduceSub, Int.reduceMul, Int.reduceNeg, Nat.reduceAdd, Nat.reduceMul, Nat.reduceSub, iI_lit, jI_lit, iI_add, iI_sub, iI_mul, iI_neg, jI_add, jI_sub, jI_mul, jI_neg, nI_i, lN_j, iI_le, iI_lt, iI_eq, jI_le, jI_lt, jI_eq, iI_in, iI_cl, iI_j, jI_i, cN, inN, wI_eq, wI_ne, wJ_1, wJ_eq, wJ_ne, wI_2, wJ_3, iI_div, iI_rem, jI_div, jI_rem, true_or, or_true, false_or, or_false, eq_self, Nat.add_zero]
    refine c12_isSlot o1 o2 (by omega) ?_
    simp (disch := omega) only [forall_eq, true_and, and_true, false_and, and_false, forall_const, true_implies, implies_true, not_true_eq_false, not_false_eq_true, false_implies, if_true, if_false, ↓reduceIte, Int.toNat_natCast, Int.reduceEq, Int.reduceNe, Int.reduceLT, Int.reduceLE, Int.reduceToNat, Int.reduceAdd, Int.reduceSub, Int.reduceMul, Int.reduceNeg, Nat.reduceAdd, Nat.reduceMul, Nat.reduceSub, iI_lit, jI_lit, iI_add, iI_sub, iI_mul, iI_neg, jI_add, jI_sub, jI_mul, jI_neg, nI_i, lN_j, iI_le, iI_lt, iI_eq, jI_le, jI_lt, jI_eq, iI_in, iI_cl, iI_j, jI_i, cN, inN, wI_eq, wI_ne, wJ_1, wJ_eq, wJ_ne, wI_2, wJ_3, iI_div, iI_rem, jI_div, jI_rem, true_or, or_true, false_or, or_false, eq_self, Nat.add_zero, ho]
    refine c12_isPart u1 u2 (by omega) ?_
    rw [if_pos hu]
    simp (disch := omega) only [forall_eq, true_and, and_true, false_and, and_false, forall_const, true_implies, implies_true, not_true_eq_false, not_false_eq_true, false_implies, if_true, if_false, ↓reduceIte, Int.toNat_natCast, Int.reduceEq, Int.reduceNe, Int.reduceLT, Int.reduceLE, Int.reduceToNat, Int.reduceAdd, Int.reduceSub, Int.reduceMul, Int.reduceNeg, Nat.reduceAdd, Nat.reduceMul, Nat.reduceSub, iI_lit, jI_lit, iI_add, iI_sub, iI_mul, iI_neg, jI_add, jI_sub, jI_mul, jI_neg, nI_i, lN_j, iI_le, iI_lt, iI_eq, jI_le, jI_lt, jI_eq, iI_in, iI_cl, iI_j, jI_i, cN, inN, wI_eq, wI_ne, wJ_1, wJ_eq, wJ_ne, wI_2, wJ_3, iI_div, iI_rem, jI_div, jI_rem, true_or, or_true, false_or, or_false, eq_self, Nat.add_zero]
    refine c12_names hly (by omega) ha h1 hv hs (fun hr m2 f2 e1 e2 => ?_) (fun hr m2 f2 => ?_)
    rotate_left
    · simp (disch := omega) only [forall_eq, true_and, and_true, false_and, and_false, forall_const, true_implies, implies_true, not_true_eq_false, not_false_eq_true, false_implies, if_true, if_false, ↓reduceIte, Int.toNat_natCast, Int.reduceEq, Int.reduceNe, Int.reduceLT, Int.reduceLE, Int.reduceToNat, Int.reduceAdd, Int.reduceSub, Int.reduceMul, Int.reduceNeg, Nat.reduceAdd, Nat.reduceMul, Nat.reduceSub, iI_lit, jI_lit, iI_add, iI_sub, iI_mul, iI_neg, jI_add, jI_sub, jI_mul, jI_neg, nI_i, lN_j, iI_le, iI_lt, iI_eq, jI_le, jI_lt, jI_eq, iI_in, iI_cl, iI_j, jI_i, cN, inN, wI_eq, wI_ne, wJ_1, wJ_eq, wJ_ne, wI_2, wJ_3, iI_div, iI_rem, jI_div, jI_rem, true_or, or_true, false_or, or_false, eq_self, Nat.add_zero]
      exact c12_finds (e := 3) hly (by decide) (by omega) (hQ0 (by omega) m2 f2)
    · rw [e1, e2]
      simp (disch := omega) only [forall_eq, true_and, and_true, false_and, and_false, forall_const, true_implies, implies_true, not_true_eq_false, not_false_eq_true, false_implies, if_true, if_false, ↓reduceIte, Int.toNat_natCast, Int.reduceEq, Int.reduceNe, Int.reduceLT, Int.reduceLE, Int.reduceToNat, Int.reduceAdd, Int.reduceSub, Int.reduceMul, Int.reduceNeg, Nat.reduceAdd, Nat.reduceMul, Nat.reduceSub, iI_lit, jI_lit, iI_add, iI_sub, iI_mul, iI_neg, jI_add, jI_sub, jI_mul, jI_neg, nI_i, lN_j, iI_le, iI_lt, iI_eq, jI_le, jI_lt, jI_eq, iI_in, iI_cl, iI_j, jI_i, cN, inN, wI_eq, wI_ne, wJ_1, wJ_eq, wJ_ne, wI_2, wJ_3, iI_div, iI_rem, jI_div, jI_rem, true_or, or_true, false_or, or_false, eq_self, Nat.add_zero]
      obtain ⟨hnm, hnb⟩ := NM_is (s := s) hv hr
      have hbd := hnm.bd
      refine c12_names hly (by omega) hb (h2.fr f2 (by unfold nmP frP mmP nbP; omega) (fun k => by unfold nmP frP mmP nbP; omega)) hv' hu (fun hr' m3 f3 e1' e2' => ?_) (fun hr' m3 f3 => ?_)
      rotate_left
      · simp (disch := omega) only [forall_eq, true_and, and_true, false_and, and_false, forall_const, true_implies, implies_true, not_true_eq_false, not_false_eq_true, false_implies, if_true, if_false, ↓reduceIte, Int.toNat_natCast, Int.reduceEq, Int.reduceNe, Int.reduceLT, Int.reduceLE, Int.reduceToNat, Int.reduceAdd, Int.reduceSub, Int.reduceMul, Int.reduceNeg, Nat.reduceAdd, Nat.reduceMul, Nat.reduceSub, iI_lit, jI_lit, iI_add, iI_sub, iI_mul, iI_neg, jI_add, jI_sub, jI_mul, jI_neg, nI_i, lN_j, iI_le, iI_lt, iI_eq, jI_le, jI_lt, jI_eq, iI_in, iI_cl, iI_j, jI_i, cN, inN, wI_eq, wI_ne, wJ_1, wJ_eq, wJ_ne, wI_2, wJ_3, iI_div, iI_rem, jI_div, jI_rem, true_or, or_true, false_or, or_false, eq_self, Nat.add_zero]
        exact c12_finds (e := 3) hly (by decide) (by omega) (hQ0 (by omega) m3 (f2.tr f3))
      · obtain ⟨hnm', hnb'⟩ := NM_is (s := u) hv' hr'
        have hbd' := hnm'.bd
        have hgi := gl_is hnm'
        have hgb := hgi.bd
        have hg1 : (gl (NM t' n' u).1 (NM t' n' u).2).1 = (NM t' n' u).1 := by
          unfold gl
          split <;> rfl
        have fin := hQ1 hr hr'
        have pe : NM t' n' u = NM t n s ↔ (NM t' n' u).1 = (NM t n s).1 ∧ (NM t' n' u).2 = (NM t n s).2 := Prod.ext_iff
        have pg : gl (NM t' n' u).1 (NM t' n' u).2 = NM t n s ↔ (gl (NM t' n' u).1 (NM t' n' u).2).1 = (NM t n s).1 ∧ (gl (NM t' n' u).1 (NM t' n' u).2).2 = (NM t n s).2 := Prod.ext_iff
        have k103 : ∀ (vs : List Value) (f : Int), f = (if NM t' n' u = NM t n s then 1 else 0) → gX12_alike_103 E L d2 vs (jI (NM t n s).1) (jI (NM t n s).2) (iI f) m3 Q := by
          intro vs f hf
          refine vX12_alike_103 hly hd2 (c12_glass hly (by omega) hnm' hnb' e1' e2' (fun m4 f4 w1 w2 => ?_))
          rw [w1, w2]
          have f14 : fr nmP m1 m4 := (f2.tr f3).tr (f4.mono (fun a k h => Or.inr h))
          have fin := fin m4 f14
          rw [← hf] at fin
          simp (disch := omega) only [forall_eq, true_and, and_true, false_and, and_false, forall_const, true_implies, implies_true, not_true_eq_false, not_false_eq_true, false_implies, if_true, if_false, ↓reduceIte, Int.toNat_natCast, Int.reduceEq, Int.reduceNe, Int.reduceLT, Int.reduceLE, Int.reduceToNat, Int.reduceAdd, Int.reduceSub, Int.reduceMul, Int.reduceNeg, Nat.reduceAdd, Nat.reduceMul, Nat.reduceSub, iI_lit, jI_lit, iI_add, iI_sub, iI_mul, iI_neg, jI_add, jI_sub, jI_mul, jI_neg, nI_i, lN_j, iI_le, iI_lt, iI_eq, jI_le, jI_lt, jI_eq, iI_in, iI_cl, iI_j, jI_i, cN, inN, wI_eq, wI_ne, wJ_1, wJ_eq, wJ_ne, wI_2, wJ_3, iI_div, iI_rem, jI_div, jI_rem, true_or, or_true, false_or, or_false, eq_self, Nat.add_zero, Int.add_zero]
          refine ⟨fun z => ?_, fun z => ⟨fun z2 => ?_, fun z2 => ?_⟩⟩
          · rw [if_neg (fun q => z (pg.mp q).1), Int.add_zero] at fin
            exact fin
          · rw [if_neg (fun q => z2 (pg.mp q).2), Int.add_zero] at fin
            exact fin
          · rw [if_pos (pg.mpr ⟨z, z2⟩)] at fin
            exact fin
        rw [e1', e2']
        simp (disch := omega) only [forall_eq, true_and, and_true, false_and, and_false, forall_const, true_implies, implies_true, not_true_eq_false, not_false_eq_true, false_implies, if_true, if_false, ↓reduceIte, Int.toNat_natCast, Int.reduceEq, Int.reduceNe, Int.reduceLT, Int.reduceLE, Int.reduceToNat, Int.reduceAdd, Int.reduceSub, Int.reduceMul, Int.reduceNeg, Nat.reduceAdd, Nat.reduceMul, Nat.reduceSub, iI_lit, jI_lit, iI_add, iI_sub, iI_mul, iI_neg, jI_add, jI_sub, jI_mul, jI_neg, nI_i, lN_j, iI_le, iI_lt, iI_eq, jI_le, jI_lt, jI_eq, iI_in, iI_cl, iI_j, jI_i, cN, inN, wI_eq, wI_ne, wJ_1, wJ_eq, wJ_ne, wI_2, wJ_3, iI_div, iI_rem, jI_div, jI_rem, true_or, or_true, false_or, or_false, eq_self, Nat.add_zero]
        refine ⟨fun z => k103 _ 0 ?_, fun z => ⟨fun z2 => k103 _ 0 ?_, fun z2 => k103 _ 1 ?_⟩⟩
        · rw [if_neg (fun q => z (pe.mp q).1)]
        · rw [if_neg (fun q => z2 (pe.mp q).2)]
        · rw [if_pos (pe.mpr ⟨z, z2⟩)]
  refine vX11_alike_0 hly hd1 (c_isSlot i1 i2 (by omega) ?_)
  simp (disch := omega) only [forall_eq, true_and, and_true, false_and, and_false, forall_const, true_implies, implies_true, not_true_eq_false, not_false_eq_true, false_implies, if_true, if_false, ↓reduceIte, Int.toNat_natCast, Int.reduceEq, Int.reduceNe, Int.reduceLT, Int.reduceLE, Int.reduceToNat, Int.reduceAdd, Int.reduceSub, Int.reduceMul, Int.reduceNeg, Nat.reduceAdd, Nat.reduceMul, Nat.reduceSub, iI_lit, jI_lit, iI_add, iI_sub, iI_mul, iI_neg, jI_add, jI_sub, jI_mul, jI_neg, nI_i, lN_j, iI_le, iI_lt, iI_eq, jI_le, jI_lt, jI_eq, iI_in, iI_cl, iI_j, jI_i, cN, inN, wI_eq, wI_ne, wJ_1, wJ_eq, wJ_ne, wI_2, wJ_3, iI_div, iI_rem, jI_div, jI_rem, true_or, or_true, false_or, or_false, eq_self, Nat.add_zero, hi]
  refine c_isChoice s1 s2 (by omega) ?_
  rw [if_pos hs]
  simp (disch := omega) only [forall_eq, true_and, and_true, false_and, and_false, forall_const, true_implies, implies_true, not_true_eq_false, not_false_eq_true, false_implies, if_true, if_false, ↓reduceIte, Int.toNat_natCast, Int.reduceEq, Int.reduceNe, Int.reduceLT, Int.reduceLE, Int.reduceToNat, Int.reduceAdd, Int.reduceSub, Int.reduceMul, Int.reduceNeg, Nat.reduceAdd, Nat.reduceMul, Nat.reduceSub, iI_lit, jI_lit, iI_add, iI_sub, iI_mul, iI_neg, jI_add, jI_sub, jI_mul, jI_neg, nI_i, lN_j, iI_le, iI_lt, iI_eq, jI_le, jI_lt, jI_eq, iI_in, iI_cl, iI_j, jI_i, cN, inN, wI_eq, wI_ne, wJ_1, wJ_eq, wJ_ne, wI_2, wJ_3, iI_div, iI_rem, jI_div, jI_rem, true_or, or_true, false_or, or_false, eq_self, Nat.add_zero]
  refine c_isSlot o1 o2 (by omega) ?_
  simp (disch := omega) only [forall_eq, true_and, and_true, false_and, and_false, forall_const, true_implies, implies_true, not_true_eq_false, not_false_eq_true, false_implies, if_true, if_false, ↓reduceIte, Int.toNat_natCast, Int.reduceEq, Int.reduceNe, Int.reduceLT, Int.reduceLE, Int.reduceToNat, Int.reduceAdd, Int.reduceSub, Int.reduceMul, Int.reduceNeg, Nat.reduceAdd, Nat.reduceMul, Nat.reduceSub, iI_lit, jI_lit, iI_add, iI_sub, iI_mul, iI_neg, jI_add, jI_sub, jI_mul, jI_neg, nI_i, lN_j, iI_le, iI_lt, iI_eq, jI_le, jI_lt, jI_eq, iI_in, iI_cl, iI_j, jI_i, cN, inN, wI_eq, wI_ne, wJ_1, wJ_eq, wJ_ne, wI_2, wJ_3, iI_div, iI_rem, jI_div, jI_rem, true_or, or_true, false_or, or_false, eq_self, Nat.add_zero, ho]
  refine c_isChoice u1 u2 (by omega) ?_
  rw [if_pos hu, hg.2.2.2.2.1]
  simp (disch := omega) only [forall_eq, true_and, and_true, false_and, and_false, forall_const, true_implies, implies_true, not_true_eq_false, not_false_eq_true, false_implies, if_true, if_false, ↓reduceIte, Int.toNat_natCast, Int.reduceEq, Int.reduceNe, Int.reduceLT, Int.reduceLE, Int.reduceToNat, Int.reduceAdd, Int.reduceSub, Int.reduceMul, Int.reduceNeg, Nat.reduceAdd, Nat.reduceMul, Nat.reduceSub, iI_lit, jI_lit, iI_add, iI_sub, iI_mul, iI_neg, jI_add, jI_sub, jI_mul, jI_neg, nI_i, lN_j, iI_le, iI_lt, iI_eq, jI_le, jI_lt, jI_eq, iI_in, iI_cl, iI_j, jI_i, cN, inN, wI_eq, wI_ne, wJ_1, wJ_eq, wJ_ne, wI_2, wJ_3, iI_div, iI_rem, jI_div, jI_rem, true_or, or_true, false_or, or_false, eq_self, Nat.add_zero]
  have bad : ¬ (Tr t n = 1 ∧ Tr t' n' = 1) → sm_callI E L mX12_alike d2 0 0 [.ref (sm_B E + 109), .int (iI (a : Nat)), .int (iI s), .int (iI (b : Nat)), .int (iI u)] (sm_wI m 76 3 (m.1 76 3 + 1)) (fun r2 m2 => iI (-1000000000 - (3 : Nat)) = r2 ∧ Inv c m2) := fun hb => model _ _ (hh.fr (fr.rf.wI (P := fun a k => a = 76) rfl) (by omega) (fun k => by omega)) (hh'.fr (fr.rf.wI (P := fun a k => a = 76) rfl) (by omega) (fun k => by omega)) (fun _ m' f' => ⟨rfl, hI.er frw.rf (f'.w.mono (fun a k h => nmP_sc h))⟩) (fun h1 h2 => absurd ⟨h1, h2⟩ hb)
  refine ⟨by omega, fun hr => c_error (e := 3) hly (by decide) (by omega) (bad (by omega)), fun hr => ⟨by omega, ?_⟩⟩
  rw [hg'.2.2.2.2.1]
  simp (disch := omega) only [forall_eq, true_and, and_true, false_and, and_false, forall_const, true_implies, implies_true, not_true_eq_false, not_false_eq_true, false_implies, if_true, if_false, ↓reduceIte, Int.toNat_natCast, Int.reduceEq, Int.reduceNe, Int.reduceLT, Int.reduceLE, Int.reduceToNat, Int.reduceAdd, Int.reduceSub, Int.reduceMul, Int.reduceNeg, Nat.reduceAdd, Nat.reduceMul, Nat.reduceSub, iI_lit, jI_lit, iI_add, iI_sub, iI_mul, iI_neg, jI_add, jI_sub, jI_mul, jI_neg, nI_i, lN_j, iI_le, iI_lt, iI_eq, jI_le, jI_lt, jI_eq, iI_in, iI_cl, iI_j, jI_i, cN, inN, wI_eq, wI_ne, wJ_1, wJ_eq, wJ_ne, wI_2, wJ_3, iI_div, iI_rem, jI_div, jI_rem, true_or, or_true, false_or, or_false, eq_self, Nat.add_zero]
  refine ⟨fun hr' => ?_, fun hr' => c_error (e := 3) hly (by decide) (by omega) (bad (by omega))⟩
  have r1 : Tr t n = 1 := by omega
  have r2 : Tr t' n' = 1 := by omega
  obtain ⟨hnm, hnb⟩ := NM_is (s := s) hv r1
  obtain ⟨hnm', hnb'⟩ := NM_is (s := u) hv' r2
  have hbd := hnm.bd
  have hbd' := hnm'.bd
  refine ⟨by omega, c_nameOf hT (by omega) hv r1 hg hs ⟨by omega, c_nameOf hT' (by omega) hv' r2 hg' hu ?_⟩⟩
  have hpk := pkv_inj (p := (NM t n s).1) (q := (NM t n s).2) (p' := (NM t' n' u).1) (q' := (NM t' n' u).2) (by omega) (by omega) (by omega) (by omega) (by omega) (by omega) (by omega) (by omega)
  have pe : NM t' n' u = NM t n s ↔ ((NM t n s).1 = (NM t' n' u).1 ∧ (NM t n s).2 = (NM t' n' u).2) := by
    rw [eq_comm]
    exact Prod.ext_iff
  have hgi := gl_is hnm
  have hgb := hgi.bd
  have hg1 : (gl (NM t n s).1 (NM t n s).2).1 = (NM t n s).1 := by
    unfold gl
    split <;> rfl
  have hpg := pkv_inj (p := (gl (NM t n s).1 (NM t n s).2).1) (q := (gl (NM t n s).1 (NM t n s).2).2) (p' := (NM t' n' u).1) (q' := (NM t' n' u).2) (by omega) (by omega) (by omega) (by omega) (by omega) (by omega) (by omega) (by omega)
  have hsw := gl_swap hnm hnm'
  have pg : gl (NM t' n' u).1 (NM t' n' u).2 = NM t n s ↔ ((gl (NM t n s).1 (NM t n s).2).1 = (NM t' n' u).1 ∧ (gl (NM t n s).1 (NM t n s).2).2 = (NM t' n' u).2) := by
    rw [← Prod.ext_iff]
    exact hsw.symm
  have k103 : ∀ (vs : List Value) (f : Int), f = (if NM t' n' u = NM t n s then 1 else 0) → gX11_alike_103 E L d1 vs (pk (NM t n s).1 (NM t n s).2) (pk (NM t' n' u).1 (NM t' n' u).2) (iI f) m (fun r m1 => sm_callI E L mX12_alike d2 0 0 [.ref (sm_B E + 109), .int (iI (a : Nat)), .int (iI s), .int (iI (b : Nat)), .int (iI u)] m1 (fun r2 m2 => r = r2 ∧ Inv c m2)) := by
    intro vs f hf
    refine vX11_alike_103 hd1 (c_glassOf2 hnm hnb (by omega) ?_)
    rw [hpg]
    have fin : ∀ g : Int, g = (if gl (NM t' n' u).1 (NM t' n' u).2 = NM t n s then 2 else 0) → sm_callI E L mX12_alike d2 0 0 [.ref (sm_B E + 109), .int (iI (a : Nat)), .int (iI s), .int (iI (b : Nat)), .int (iI u)] m (fun r2 m2 => iI (f + g) = r2 ∧ Inv c m2) := fun g hgg => model m _ hh hh' (fun h => absurd ⟨r1, r2⟩ h) (fun _ _ m' f' => ⟨by rw [hf, hgg], hI.sc frw.rf (f'.w.mono (fun a k h => nmP_sc h))⟩)
    simp (disch := omega) only [forall_eq, true_and, and_true, false_and, and_false, forall_const, true_implies, implies_true, not_true_eq_false, not_false_eq_true, false_implies, if_true, if_false, ↓reduceIte, Int.toNat_natCast, Int.reduceEq, Int.reduceNe, Int.reduceLT, Int.reduceLE, Int.reduceToNat, Int.reduceAdd, Int.reduceSub, Int.reduceMul, Int.reduceNeg, Nat.reduceAdd, Nat.reduceMul, Nat.reduceSub, iI_lit, jI_lit, iI_add, iI_sub, iI_mul, iI_neg, jI_add, jI_sub, jI_mul, jI_neg, nI_i, lN_j, iI_le, iI_lt, iI_eq, jI_le, jI_lt, jI_eq, iI_in, iI_cl, iI_j, jI_i, cN, inN, wI_eq, wI_ne, wJ_1, wJ_eq, wJ_ne, wI_2, wJ_3, iI_div, iI_rem, jI_div, jI_rem, true_or, or_true, false_or, or_false, eq_self, Nat.add_zero]
    exact ⟨fun z => fin 0 (by rw [if_neg (fun q => z (pg.mp q))]), fun z => fin 2 (by rw [if_pos (pg.mpr z)])⟩
  rw [hpk]
  exact ⟨fun z => k103 _ 0 (by rw [if_neg (fun q => z (pe.mp q))]), fun z => k103 _ 1 (by rw [if_pos (pe.mpr z)])⟩
end K5
