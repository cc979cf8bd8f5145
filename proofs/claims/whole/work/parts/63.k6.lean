/-! term, judge -/
section K6
variable {E : sm_E} {L : sm_S → Prop} {d d1 d2 : Nat} {m : sm_M} {c : Nat}
/-- the fraction of a pair that has one -/
theorem f_bd {a b : Int} (hb : a.natAbs + b.natAbs ≤ 16777216) (hg : Int.gcd a b ≠ 0) : ((fP a b).natAbs : Int) ≤ 16777216 ∧ 0 ≤ fQ a b ∧ fQ a b ≤ 16777216 ∧ (fQ a b = 0 → fP a b = 1) ∧ Int.gcd (fP a b) (fQ a b) = 1 := by
  obtain ⟨g, hg'⟩ : ∃ g : Nat, g = Int.gcd a b := ⟨_, rfl⟩
  have hgp : 0 < (g : Int) := by omega
  obtain ⟨x, hx⟩ : (g : Int) ∣ a := by rw [hg']; exact Int.gcd_dvd_left ..
  obtain ⟨y, hy⟩ : (g : Int) ∣ b := by rw [hg']; exact Int.gcd_dvd_right ..
  have hc : Int.gcd x y = 1 := by
    have h1 : Int.gcd ((g : Int) * x) ((g : Int) * y) = g * Int.gcd x y := by
      rw [Int.gcd_mul_left]
      simp
    rw [← hx, ← hy, ← hg'] at h1
    have h2 : g * Int.gcd x y = g * 1 := by omega
    exact Nat.eq_of_mul_eq_mul_left (by omega) h2
  have hxa : x.natAbs ≤ a.natAbs := by
    rw [hx, Int.natAbs_mul]
    exact Nat.le_mul_of_pos_left _ (by omega)
  have hyb : y.natAbs ≤ b.natAbs := by
    rw [hy, Int.natAbs_mul]
    exact Nat.le_mul_of_pos_left _ (by omega)
  have sgn : ∀ z w : Int, w = (g : Int) * z → (w < 0 ↔ z < 0) ∧ (w = 0 ↔ z = 0) := by
    intro z w hw
    constructor
    · constructor
      · intro h
        apply Classical.byContradiction
        intro hz
        have := Int.mul_nonneg (show 0 ≤ (g : Int) by omega) (show 0 ≤ z by omega)
        omega
      · intro h
        have := Int.mul_neg_of_pos_of_neg hgp h
        omega
    · constructor
      · intro h
        rw [hw] at h
        rcases Int.mul_eq_zero.mp h with h | h
        · omega
        · exact h
      · intro h
        rw [hw, h, Int.mul_zero]
  have sa := sgn x a hx
  have sb := sgn y b hy
  have e : (fP a b = x ∧ fQ a b = y ∧ ¬ (y < 0 ∨ (y = 0 ∧ x < 0))) ∨ (fP a b = -x ∧ fQ a b = -y ∧ (y < 0 ∨ (y = 0 ∧ x < 0))) := by
    unfold fP fQ fby
    rw [← hg']
    by_cases hs : b < 0 ∨ (b = 0 ∧ a < 0)
    · rw [if_pos hs]
      refine Or.inr ⟨?_, ?_, ?_⟩
      · rw [hx, Int.tdiv_neg, Int.mul_tdiv_cancel_left _ (by omega)]
      · rw [hy, Int.tdiv_neg, Int.mul_tdiv_cancel_left _ (by omega)]
      · rw [← sa.1, ← sb.1, ← sb.2]; exact hs
    · rw [if_neg hs]
      refine Or.inl ⟨?_, ?_, ?_⟩
      · rw [hx, Int.mul_tdiv_cancel_left _ (by omega)]
      · rw [hy, Int.mul_tdiv_cancel_left _ (by omega)]
      · rw [← sa.1, ← sb.1, ← sb.2]; exact hs
  have h0 : y = 0 → x.natAbs = 1 := by
    intro h
    rw [h, Int.gcd_zero_right] at hc
    exact hc
  rcases e with ⟨e1, e2, e3⟩ | ⟨e1, e2, e3⟩
  · rw [e1, e2]
    exact ⟨by omega, by omega, by omega, fun h => by have := h0 h; omega, hc⟩
  · rw [e1, e2]
    refine ⟨by omega, by omega, by omega, fun h => by have := h0 (by omega); omega, ?_⟩
    rw [Int.neg_gcd, Int.gcd_neg]
    exact hc
theorem rsP_sc {b k : Nat} (h : rsP 74 b k) : scC b k := by
  unfold rsP at h
  unfold scC
  omega
theorem teP_sc {b k : Nat} (h : teP b k) : scM b k := by
  unfold teP at h
  unfold scM
  omega
theorem she74 (hly : ∀ S, L S → ly S) : sm_she L 74 := ly_s hly 74 rfl rfl (j := 67) rfl
theorem tT_i {p q : Int} (hp : (p.natAbs : Int) ≤ 1000000000) (k : Nat) : True := trivial
theorem k_term {x1 x2 : Int32} (hly : ∀ S, L S → ly S) (hd1 : 4 ≤ d1) (hd2 : 5 ≤ d2) (hI : Inv c m) : sm_callI E L mX11_term d1 0 0 [.ref (sm_B E + 0), .int x1, .int x2] m (fun r m1 => sm_callI E L mX12_term d2 0 0 [.ref (sm_B E + 109), .int x1, .int x2] m1 (fun r2 m2 => r = r2 ∧ Inv c m2)) := by
  obtain ⟨i, i1, i2, rfl⟩ := iI_ex x1
  obtain ⟨w, w1, w2, rfl⟩ := iI_ex x2
  by_cases hi : 0 ≤ i ∧ i < 6
  rotate_left
  · refine vX11_term_0 hly hd1 (c_isSlot i1 i2 (by omega) ?_)
    simp (disch := omega) only [forall_eq, true_and, and_true, false_and, and_false, forall_const, true_implies, implies_true, not_true_eq_false, not_false_eq_true, false_implies, if_true, if_false, ↓reduceIte, Int.toNat_natCast, Int.reduceEq, Int.reduceNe, Int.reduceLT, Int.reduceLE, Int.reduceToNat, Int.reduceAdd, Int.reduceSub, Int.reduceMul, Int.reduceNeg, Nat.reduceAdd, Nat.reduceMul, Nat.reduceSub, iI_lit, jI_lit, iI_add, iI_sub, iI_mul, iI_neg, jI_add, jI_sub, jI_mul, jI_neg, nI_i, lN_j, iI_le, iI_lt, iI_eq, jI_le, jI_lt, jI_eq, iI_in, iI_cl, iI_j, jI_i, cN, inN, wI_eq, wI_ne, wJ_1, wJ_eq, wJ_ne, wI_2, wJ_3, iI_div, iI_rem, jI_div, jI_rem, true_or, or_true, false_or, or_false, eq_self, Nat.add_zero, hi]
    refine c_error (e := 1) hly (by decide) (by omega) (vX12_term_0 hly hd2 (c12_isSlot i1 i2 (by omega) ?_))
    simp (disch := omega) only [forall_eq, true_and, and_true, false_and, and_false, forall_const, true_implies, implies_true, not_true_eq_false, not_false_eq_true, false_implies, if_true, if_false, ↓reduceIte, Int.toNat_natCast, Int.reduceEq, Int.reduceNe, Int.reduceLT, Int.reduceLE, Int.reduceToNat, Int.reduceAdd, Int.reduceSub, Int.reduceMul, Int.reduceNeg, Nat.reduceAdd, Nat.reduceMul, Nat.reduceSub, iI_lit, jI_lit, iI_add, iI_sub, iI_mul, iI_neg, jI_add, jI_sub, jI_mul, jI_neg, nI_i, lN_j, iI_le, iI_lt, iI_eq, jI_le, jI_lt, jI_eq, iI_in, iI_cl, iI_j, jI_i, cN, inN, wI_eq, wI_ne, wJ_1, wJ_eq, wJ_ne, wI_2, wJ_3, iI_div, iI_rem, jI_div, jI_rem, true_or, or_true, false_or, or_false, eq_self, Nat.add_zero, hi]
    exact c12_finds (e := 1) hly (by decide) (by omega) ⟨rfl, hI.er frw.rf frw.rf⟩
  obtain ⟨j, rfl⟩ : ∃ j : Nat, i = (j : Int) := ⟨i.toNat, by omega⟩
  have hj : j < 6 := by omega
  obtain ⟨t, n, hv, hg, hh⟩ := hI.2.1.1 j hj
  have hT := ly_slotT hly hj
  have hbd := hv.bd
  refine vX11_term_0 hly hd1 (c_isSlot i1 i2 (by omega) ?_)
  simp (disch := omega) only [forall_eq, true_and, and_true, false_and, and_false, forall_const, true_implies, implies_true, not_true_eq_false, not_false_eq_true, false_implies, if_true, if_false, ↓reduceIte, Int.toNat_natCast, Int.reduceEq, Int.reduceNe, Int.reduceLT, Int.reduceLE, Int.reduceToNat, Int.reduceAdd, Int.reduceSub, Int.reduceMul, Int.reduceNeg, Nat.reduceAdd, Nat.reduceMul, Nat.reduceSub, iI_lit, jI_lit, iI_add, iI_sub, iI_mul, iI_neg, jI_add, jI_sub, jI_mul, jI_neg, nI_i, lN_j, iI_le, iI_lt, iI_eq, jI_le, jI_lt, jI_eq, iI_in, iI_cl, iI_j, jI_i, cN, inN, wI_eq, wI_ne, wJ_1, wJ_eq, wJ_ne, wI_2, wJ_3, iI_div, iI_rem, jI_div, jI_rem, true_or, or_true, false_or, or_false, eq_self, Nat.add_zero, hi]
  refine ⟨fun hw => ⟨by omega, ?_⟩, fun hw => c_error (e := 1) hly (by decide) (by omega) (vX12_term_0 hly hd2 (c12_isSlot i1 i2 (by omega) ?_))⟩
  rotate_left
  · simp (disch := omega) only [forall_eq, true_and, and_true, false_and, and_false, forall_const, true_implies, implies_true, not_true_eq_false, not_false_eq_true, false_implies, if_true, if_false, ↓reduceIte, Int.toNat_natCast, Int.reduceEq, Int.reduceNe, Int.reduceLT, Int.reduceLE, Int.reduceToNat, Int.reduceAdd, Int.reduceSub, Int.reduceMul, Int.reduceNeg, Nat.reduceAdd, Nat.reduceMul, Nat.reduceSub, iI_lit, jI_lit, iI_add, iI_sub, iI_mul, iI_neg, jI_add, jI_sub, jI_mul, jI_neg, nI_i, lN_j, iI_le, iI_lt, iI_eq, jI_le, jI_lt, jI_eq, iI_in, iI_cl, iI_j, jI_i, cN, inN, wI_eq, wI_ne, wJ_1, wJ_eq, wJ_ne, wI_2, wJ_3, iI_div, iI_rem, jI_div, jI_rem, true_or, or_true, false_or, or_false, eq_self, Nat.add_zero, hi]
    exact ⟨fun z => by omega, fun _ => c12_finds (e := 1) hly (by decide) (by omega) ⟨rfl, hI.er frw.rf frw.rf⟩⟩
  have model : ∀ (m1 : sm_M) (Q : Int32 → sm_M → Prop), hl m1 j t n → (Int.gcd (Tt t n) (Tb t n) = 0 → ∀ m2, frw scM m1 m2 → Q (iI (-1000000000 - (2 : Nat))) (sm_wI m2 110 2 (m2.1 110 2 + 1))) → (Int.gcd (Tt t n) (Tb t n) ≠ 0 → ∀ m2, frw scM m1 m2 → (w = -1 → Q (iI (tN (fP (Tt t n) (Tb t n)) (fQ (Tt t n) (Tb t n)) : Nat)) m2) ∧ (0 ≤ w → w < tN (fP (Tt t n) (Tb t n)) (fQ (Tt t n) (Tb t n)) → Q (iI (tT (fP (Tt t n) (Tb t n)) (fQ (Tt t n) (Tb t n)) w.toNat)) m2) ∧ ((tN (fP (Tt t n) (Tb t n)) (fQ (Tt t n) (Tb t n)) : Int) ≤ w → Q (iI (-1000000000 - (2 : Nat))) (sm_wI m2 110 2 (m2.1 110 2 + 1)))) → sm_callI E L mX12_term d2 0 0 [.ref (sm_B E + 109), .int (iI (j : Nat)), .int (iI w)] m1 Q := by
    intro m1 Q h1 hQ0 hQ1
    refine vX12_term_0 hly hd2 (c12_isSlot i1 i2 (by omega) ?_)
    simp (disch := omega) only [forall_eq, true_and, and_true, false_and, and_false, forall_const, true_implies, implies_true, not_true_eq_false, not_false_eq_true, false_implies, if_true, if_false, ↓reduceIte, Int.toNat_natCast, Int.reduceEq, Int.reduceNe, Int.reduceLT, Int.reduceLE, Int.reduceToNat, Int.reduceAdd, Int.reduceSub, Int.reduceMul, Int.reduceNeg, Nat.reduceAdd, Nat.reduceMul, Nat.reduceSub, iI_lit, jI_lit, iI_add, iI_sub, iI_mul, iI_neg, jI_add, jI_sub, jI_mul, jI_neg, nI_i, lN_j, iI_le, iI_lt, iI_eq, jI_le, jI_lt, jI_eq, iI_in, iI_cl, iI_j, jI_i, cN, inN, wI_eq, wI_ne, wJ_1, wJ_eq, wJ_ne, wI_2, wJ_3, iI_div, iI_rem, jI_div, jI_rem, true_or, or_true, false_or, or_false, eq_self, Nat.add_zero, hi]
    refine ⟨fun _ => c12_fraction hly (by omega) h1 hj hv (fun m2 f2 g2 r2 => ?_), fun z => by omega⟩
    have s2 : frw scM m1 m2 := f2.w.mono (fun a k h => frP_sc h)
    by_cases hg0 : Int.gcd (Tt t n) (Tb t n) = 0
    · rw [if_pos hg0]
      simp (disch := omega) only [forall_eq, true_and, and_true, false_and, and_false, forall_const, true_implies, implies_true, not_true_eq_false, not_false_eq_true, false_implies, if_true, if_false, ↓reduceIte, Int.toNat_natCast, Int.reduceEq, Int.reduceNe, Int.reduceLT, Int.reduceLE, Int.reduceToNat, Int.reduceAdd, Int.reduceSub, Int.reduceMul, Int.reduceNeg, Nat.reduceAdd, Nat.reduceMul, Nat.reduceSub, iI_lit, jI_lit, iI_add, iI_sub, iI_mul, iI_neg, jI_add, jI_sub, jI_mul, jI_neg, nI_i, lN_j, iI_le, iI_lt, iI_eq, jI_le, jI_lt, jI_eq, iI_in, iI_cl, iI_j, jI_i, cN, inN, wI_eq, wI_ne, wJ_1, wJ_eq, wJ_ne, wI_2, wJ_3, iI_div, iI_rem, jI_div, jI_rem, true_or, or_true, false_or, or_false, eq_self, Nat.add_zero]
      exact c12_finds (e := 2) hly (by decide) (by omega) (hQ0 hg0 m2 s2)
    · rw [if_neg hg0]
      obtain ⟨e1, e2⟩ := r2 hg0
      obtain ⟨b1, b2, b3, b4, b5⟩ := f_bd hbd hg0
      rw [e1, e2]
      simp (disch := omega) only [forall_eq, true_and, and_true, false_and, and_false, forall_const, true_implies, implies_true, not_true_eq_false, not_false_eq_true, false_implies, if_true, if_false, ↓reduceIte, Int.toNat_natCast, Int.reduceEq, Int.reduceNe, Int.reduceLT, Int.reduceLE, Int.reduceToNat, Int.reduceAdd, Int.reduceSub, Int.reduceMul, Int.reduceNeg, Nat.reduceAdd, Nat.reduceMul, Nat.reduceSub, iI_lit, jI_lit, iI_add, iI_sub, iI_mul, iI_neg, jI_add, jI_sub, jI_mul, jI_neg, nI_i, lN_j, iI_le, iI_lt, iI_eq, jI_le, jI_lt, jI_eq, iI_in, iI_cl, iI_j, jI_i, cN, inN, wI_eq, wI_ne, wJ_1, wJ_eq, wJ_ne, wI_2, wJ_3, iI_div, iI_rem, jI_div, jI_rem, true_or, or_true, false_or, or_false, eq_self, Nat.add_zero]
      have tl := tN_le (fP (Tt t n) (Tb t n)) (fQ (Tt t n) (Tb t n))
      refine c12_termsOf hly (by omega) (by omega) b2 (by omega) (fun m3 f3 u1 u2 => ?_)
      have s3 : frw scM m1 m3 := s2.tr (f3.w.mono (fun a k h => teP_sc h))
      obtain ⟨q1, q2, q3⟩ := hQ1 hg0 m3 s3
      rw [u1]
      simp (disch := omega) only [forall_eq, true_and, and_true, false_and, and_false, forall_const, true_implies, implies_true, not_true_eq_false, not_false_eq_true, false_implies, if_true, if_false, ↓reduceIte, Int.toNat_natCast, Int.reduceEq, Int.reduceNe, Int.reduceLT, Int.reduceLE, Int.reduceToNat, Int.reduceAdd, Int.reduceSub, Int.reduceMul, Int.reduceNeg, Nat.reduceAdd, Nat.reduceMul, Nat.reduceSub, iI_lit, jI_lit, iI_add, iI_sub, iI_mul, iI_neg, jI_add, jI_sub, jI_mul, jI_neg, nI_i, lN_j, iI_le, iI_lt, iI_eq, jI_le, jI_lt, jI_eq, iI_in, iI_cl, iI_j, jI_i, cN, inN, wI_eq, wI_ne, wJ_1, wJ_eq, wJ_ne, wI_2, wJ_3, iI_div, iI_rem, jI_div, jI_rem, true_or, or_true, false_or, or_false, eq_self, Nat.add_zero]
      refine ⟨fun z => ⟨fun z2 => c12_finds (e := 2) hly (by decide) (by omega) (q3 z2), fun z2 => ⟨by omega, ?_⟩⟩, fun z => q1 (by omega)⟩
      have h9 := q2 z (by omega)
      rw [u2 w.toNat (by omega), jI_i]
      exact h9
  rw [hg.2.2.2.2.2.1]
  by_cases hg0 : Int.gcd (Tt t n) (Tb t n) = 0
  · rw [if_pos hg0]
    simp (disch := omega) only [forall_eq, true_and, and_true, false_and, and_false, forall_const, true_implies, implies_true, not_true_eq_false, not_false_eq_true, false_implies, if_true, if_false, ↓reduceIte, Int.toNat_natCast, Int.reduceEq, Int.reduceNe, Int.reduceLT, Int.reduceLE, Int.reduceToNat, Int.reduceAdd, Int.reduceSub, Int.reduceMul, Int.reduceNeg, Nat.reduceAdd, Nat.reduceMul, Nat.reduceSub, iI_lit, jI_lit, iI_add, iI_sub, iI_mul, iI_neg, jI_add, jI_sub, jI_mul, jI_neg, nI_i, lN_j, iI_le, iI_lt, iI_eq, jI_le, jI_lt, jI_eq, iI_in, iI_cl, iI_j, jI_i, cN, inN, wI_eq, wI_ne, wJ_1, wJ_eq, wJ_ne, wI_2, wJ_3, iI_div, iI_rem, jI_div, jI_rem, true_or, or_true, false_or, or_false, eq_self, Nat.add_zero]
    exact c_error (e := 2) hly (by decide) (by omega) (model _ _ (hh.fr (fr.rf.wI (P := fun a k => a = 76) rfl) (by omega) (fun k => by omega)) (fun _ m2 f2 => ⟨rfl, hI.er frw.rf f2⟩) (fun h => absurd hg0 h))
  · rw [if_neg hg0]
    obtain ⟨y1, y2⟩ := hg.2.2.2.2.2.2 hg0
    obtain ⟨b1, b2, b3, b4, b5⟩ := f_bd hbd hg0
    have tl := tN_le (fP (Tt t n) (Tb t n)) (fQ (Tt t n) (Tb t n))
    rw [y1, y2]
    simp (disch := omega) only [forall_eq, true_and, and_true, false_and, and_false, forall_const, true_implies, implies_true, not_true_eq_false, not_false_eq_true, false_implies, if_true, if_false, ↓reduceIte, Int.toNat_natCast, Int.reduceEq, Int.reduceNe, Int.reduceLT, Int.reduceLE, Int.reduceToNat, Int.reduceAdd, Int.reduceSub, Int.reduceMul, Int.reduceNeg, Nat.reduceAdd, Nat.reduceMul, Nat.reduceSub, iI_lit, jI_lit, iI_add, iI_sub, iI_mul, iI_neg, jI_add, jI_sub, jI_mul, jI_neg, nI_i, lN_j, iI_le, iI_lt, iI_eq, jI_le, jI_lt, jI_eq, iI_in, iI_cl, iI_j, jI_i, cN, inN, wI_eq, wI_ne, wJ_1, wJ_eq, wJ_ne, wI_2, wJ_3, iI_div, iI_rem, jI_div, jI_rem, true_or, or_true, false_or, or_false, eq_self, Nat.add_zero]
    refine c_expandS (she74 hly) (by omega) (by omega) b2 (by omega) (fun h => by have := b4 h; omega) (fun m1 f1 r1 => ?_)
    have hh1 : hl m1 j t n := hh.fr f1 (by unfold rsP; omega) (fun k => by unfold rsP; omega)
    have s1 : frw scC m m1 := f1.w.mono (fun a k h => rsP_sc h)
    refine ⟨fun z => ?_, fun z => ?_⟩
    · refine c_has (she74 hly) (by omega) r1.1 tl w1 w2 ?_
      by_cases hwn : 0 ≤ w ∧ w < tN (fP (Tt t n) (Tb t n)) (fQ (Tt t n) (Tb t n))
      · rw [if_pos hwn]
        simp (disch := omega) only [forall_eq, true_and, and_true, false_and, and_false, forall_const, true_implies, implies_true, not_true_eq_false, not_false_eq_true, false_implies, if_true, if_false, ↓reduceIte, Int.toNat_natCast, Int.reduceEq, Int.reduceNe, Int.reduceLT, Int.reduceLE, Int.reduceToNat, Int.reduceAdd, Int.reduceSub, Int.reduceMul, Int.reduceNeg, Nat.reduceAdd, Nat.reduceMul, Nat.reduceSub, iI_lit, jI_lit, iI_add, iI_sub, iI_mul, iI_neg, jI_add, jI_sub, jI_mul, jI_neg, nI_i, lN_j, iI_le, iI_lt, iI_eq, jI_le, jI_lt, jI_eq, iI_in, iI_cl, iI_j, jI_i, cN, inN, wI_eq, wI_ne, wJ_1, wJ_eq, wJ_ne, wI_2, wJ_3, iI_div, iI_rem, jI_div, jI_rem, true_or, or_true, false_or, or_false, eq_self, Nat.add_zero]
        refine c_at (she74 hly) (by omega) r1.1 tl hwn.1 hwn.2 ?_
        rw [r1.2 w.toNat (by omega), jI_i]
        exact model m1 _ hh1 (fun h => absurd h hg0) (fun _ m2 f2 => ⟨fun h => by omega, fun _ _ => ⟨rfl, hI.sc s1 f2⟩, fun h => by omega⟩)
      · rw [if_neg hwn]
        simp (disch := omega) only [forall_eq, true_and, and_true, false_and, and_false, forall_const, true_implies, implies_true, not_true_eq_false, not_false_eq_true, false_implies, if_true, if_false, ↓reduceIte, Int.toNat_natCast, Int.reduceEq, Int.reduceNe, Int.reduceLT, Int.reduceLE, Int.reduceToNat, Int.reduceAdd, Int.reduceSub, Int.reduceMul, Int.reduceNeg, Nat.reduceAdd, Nat.reduceMul, Nat.reduceSub, iI_lit, jI_lit, iI_add, iI_sub, iI_mul, iI_neg, jI_add, jI_sub, jI_mul, jI_neg, nI_i, lN_j, iI_le, iI_lt, iI_eq, jI_le, jI_lt, jI_eq, iI_in, iI_cl, iI_j, jI_i, cN, inN, wI_eq, wI_ne, wJ_1, wJ_eq, wJ_ne, wI_2, wJ_3, iI_div, iI_rem, jI_div, jI_rem, true_or, or_true, false_or, or_false, eq_self, Nat.add_zero]
        exact c_error (e := 2) hly (by decide) (by omega) (model _ _ (hh1.fr (fr.rf.wI (P := fun a k => a = 76) rfl) (by omega) (fun k => by omega)) (fun h => absurd h hg0) (fun _ m2 f2 => ⟨fun h => by omega, fun _ _ => by omega, fun h => ⟨rfl, hI.er s1 f2⟩⟩))
    · rw [r1.1]
      exact model m1 _ hh1 (fun h => absurd h hg0) (fun _ m2 f2 => ⟨fun h => ⟨rfl, hI.sc s1 f2⟩, fun _ _ => by omega, fun h => by omega⟩)
/-! judge -/
theorem c_unlike_loop {Q : Int32 → sm_M → Prop} {vs : List Value} {a b n k : Nat} (hTa : sm_she L a) (hTb : sm_she L b) (hd : 2 ≤ d) (hn : n ≤ 48) (hk : k ≤ 48) (ha : m.1 a 2 = iI (n : Nat)) (hb : m.1 b 2 = iI (k : Nat)) (h1 : ∀ i, i < n → i < k → (∀ j, j < i → m.2.1 (a + 1) j = m.2.1 (b + 1) j) → m.2.1 (a + 1) i ≠ m.2.1 (b + 1) i → Q (iI (i : Nat)) m) (h2 : (∀ j, j < n → j < k → m.2.1 (a + 1) j = m.2.1 (b + 1) j) → Q (iI (if n = k then -1 else ((min n k : Nat) : Int))) m) : ∀ (r i : Nat), i + r = min n k → (∀ j, j < i → m.2.1 (a + 1) j = m.2.1 (b + 1) j) → gX7_firstUnlike_14 E L d vs a b (iI ((min n k : Nat) : Int)) (iI (i : Nat)) m Q := by
  intro r
  induction r with
  | zero =>
    intro i hi hs
    have : i = min n k := by omega
    subst this
    have h9 := h2 (fun j h1 h2 => hs j (by omega))
    refine vX7_firstUnlike_14 hd hTa hTb ?_
    rw [ha, hb]
    simp (disch := omega) only [forall_eq, true_and, and_true, false_and, and_false, forall_const, true_implies, implies_true, not_true_eq_false, not_false_eq_true, false_implies, if_true, if_false, ↓reduceIte, Int.toNat_natCast, Int.reduceEq, Int.reduceNe, Int.reduceLT, Int.reduceLE, Int.reduceToNat, Int.reduceAdd, Int.reduceSub, Int.reduceMul, Int.reduceNeg, Nat.reduceAdd, Nat.reduceMul, Nat.reduceSub, iI_lit, jI_lit, iI_add, iI_sub, iI_mul, iI_neg, jI_add, jI_sub, jI_mul, jI_neg, nI_i, lN_j, iI_le, iI_lt, iI_eq, jI_le, jI_lt, jI_eq, iI_in, iI_cl, iI_j, jI_i, cN, inN, wI_eq, wI_ne, wJ_1, wJ_eq, wJ_ne, wI_2, wJ_3, iI_div, iI_rem, jI_div, jI_rem, true_or, or_true, false_or, or_false, eq_self, Nat.add_zero]
    refine ⟨fun _ => ⟨fun z => ?_, fun z => ?_⟩, fun z => by omega⟩
    · rw [if_neg (by omega)] at h9; exact h9
    · rw [if_pos (by omega)] at h9; exact h9
  | succ r ih =>
    intro i hi hs
    have e5 : ((i : Nat) : Int) + 1 = ((i + 1 : Nat) : Int) := by omega
    refine vX7_firstUnlike_14 hd hTa hTb ?_
    simp (disch := omega) only [forall_eq, true_and, and_true, false_and, and_false, forall_const, true_implies, implies_true, not_true_eq_false, not_false_eq_true, false_implies, if_true, if_false, ↓reduceIte, Int.toNat_natCast, Int.reduceEq, Int.reduceNe, Int.reduceLT, Int.reduceLE, Int.reduceToNat, Int.reduceAdd, Int.reduceSub, Int.reduceMul, Int.reduceNeg, Nat.reduceAdd, Nat.reduceMul, Nat.reduceSub, iI_lit, jI_lit, iI_add, iI_sub, iI_mul, iI_neg, jI_add, jI_sub, jI_mul, jI_neg, nI_i, lN_j, iI_le, iI_lt, iI_eq, jI_le, jI_lt, jI_eq, iI_in, iI_cl, iI_j, jI_i, cN, inN, wI_eq, wI_ne, wJ_1, wJ_eq, wJ_ne, wI_2, wJ_3, iI_div, iI_rem, jI_div, jI_rem, true_or, or_true, false_or, or_false, eq_self, Nat.add_zero, e5]
    refine ⟨fun z => by omega, fun _ => ⟨by omega, by omega, fun z => ih (i + 1) (by omega) (fun j hj => ?_), fun z => h1 i (by omega) (by omega) hs z⟩⟩
    by_cases hji : j = i
    · subst hji
      exact z
    · exact hs j (by omega)
theorem c12_judge_loop {Q : Int32 → sm_M → Prop} {vs : List Value} {s n k : Nat} (hly : ∀ S, L S → ly S) (hd : 5 ≤ d) (hs : s < 4) (hn : n ≤ 48) (hk : k ≤ 48) (ha : m.1 122 s = iI (n : Nat)) (hb : m.1 109 36 = iI (k : Nat)) (h1 : ∀ i, i < n → i < k → (∀ j, j < i → m.2.1 120 (48 * s + j) = m.2.1 127 j) → m.2.1 120 (48 * s + i) ≠ m.2.1 127 i → Q (iI (i : Nat)) m) (h2 : (∀ j, j < n → j < k → m.2.1 120 (48 * s + j) = m.2.1 127 j) → Q (iI (if n = k then -1 else ((min n k : Nat) : Int))) m) : ∀ (r i : Nat), i + r = max n k → i ≤ min n k → (∀ j, j < i → m.2.1 120 (48 * s + j) = m.2.1 127 j) → gX12_judge_85 E L d vs (iI (s : Nat)) (iI ((max n k : Nat) : Int)) (iI (i : Nat)) m Q := by
  intro r
  induction r with
  | zero =>
    intro i hi him hs'
    have hnk : n = k := by omega
    subst hnk
    have h9 := h2 (fun j h1 h2 => hs' j (by omega))
    rw [if_pos rfl] at h9
    refine vX12_judge_85 hly hd ?_
    simp (disch := omega) only [forall_eq, true_and, and_true, false_and, and_false, forall_const, true_implies, implies_true, not_true_eq_false, not_false_eq_true, false_implies, if_true, if_false, ↓reduceIte, Int.toNat_natCast, Int.reduceEq, Int.reduceNe, Int.reduceLT, Int.reduceLE, Int.reduceToNat, Int.reduceAdd, Int.reduceSub, Int.reduceMul, Int.reduceNeg, Nat.reduceAdd, Nat.reduceMul, Nat.reduceSub, iI_lit, jI_lit, iI_add, iI_sub, iI_mul, iI_neg, jI_add, jI_sub, jI_mul, jI_neg, nI_i, lN_j, iI_le, iI_lt, iI_eq, jI_le, jI_lt, jI_eq, iI_in, iI_cl, iI_j, jI_i, cN, inN, wI_eq, wI_ne, wJ_1, wJ_eq, wJ_ne, wI_2, wJ_3, iI_div, iI_rem, jI_div, jI_rem, true_or, or_true, false_or, or_false, eq_self, Nat.add_zero]
    exact ⟨fun _ => h9, fun z => by omega⟩
  | succ r ih =>
    intro i hi him hs'
    have e5 : ((i : Nat) : Int) + 1 = ((i + 1 : Nat) : Int) := by omega
    have e6 : (48 : Int) * ((s : Nat) : Int) + ((i : Nat) : Int) = ((48 * s + i : Nat) : Int) := by omega
    have fin : i = min n k → n ≠ k → Q (iI (i : Nat)) m := fun e1 e2 => by
      have h9 := h2 (fun j h1 h2 => hs' j (by omega))
      rw [if_neg e2, ← e1] at h9
      exact h9
    refine vX12_judge_85 hly hd ?_
    simp (disch := omega) only [forall_eq, true_and, and_true, false_and, and_false, forall_const, true_implies, implies_true, not_true_eq_false, not_false_eq_true, false_implies, if_true, if_false, ↓reduceIte, Int.toNat_natCast, Int.reduceEq, Int.reduceNe, Int.reduceLT, Int.reduceLE, Int.reduceToNat, Int.reduceAdd, Int.reduceSub, Int.reduceMul, Int.reduceNeg, Nat.reduceAdd, Nat.reduceMul, Nat.reduceSub, iI_lit, jI_lit, iI_add, iI_sub, iI_mul, iI_neg, jI_add, jI_sub, jI_mul, jI_neg, nI_i, lN_j, iI_le, iI_lt, iI_eq, jI_le, jI_lt, jI_eq, iI_in, iI_cl, iI_j, jI_i, cN, inN, wI_eq, wI_ne, wJ_1, wJ_eq, wJ_ne, wI_2, wJ_3, iI_div, iI_rem, jI_div, jI_rem, true_or, or_true, false_or, or_false, eq_self, Nat.add_zero, ha, hb, e5, e6]
    refine ⟨fun z => by omega, fun _ => ⟨fun z => fin (by omega) (by omega), fun z => ⟨by omega, fun z2 => fin (by omega) (by omega), fun z2 => ⟨by omega, by omega, fun z3 => ih (i + 1) (by omega) (by omega) (fun j hj => ?_), fun z3 => h1 i (by omega) (by omega) hs' z3⟩⟩⟩⟩
    by_cases hji : j = i
    · subst hji
      exact z3
    · exact hs' j (by omega)
theorem k_judge {x1 x2 : Int32} (hly : ∀ S, L S → ly S) (hd1 : 4 ≤ d1) (hd2 : 5 ≤ d2) (hI : Inv c m) : sm_callI E L mX11_judge d1 0 0 [.ref (sm_B E + 0), .int x1, .int x2] m (fun r m1 => sm_callI E L mX12_judge d2 0 0 [.ref (sm_B E + 109), .int x1, .int x2] m1 (fun r2 m2 => r = r2 ∧ Inv c m2)) := by
  obtain ⟨i, i1, i2, rfl⟩ := iI_ex x1
  obtain ⟨w, w1, w2, rfl⟩ := iI_ex x2
  by_cases hi : 0 ≤ i ∧ i < 4
  rotate_left
  · refine vX11_judge_0 hly hd1 (c_isSheet i1 i2 (by omega) ?_)
    simp (disch := omega) only [forall_eq, true_and, and_true, false_and, and_false, forall_const, true_implies, implies_true, not_true_eq_false, not_false_eq_true, false_implies, if_true, if_false, ↓reduceIte, Int.toNat_natCast, Int.reduceEq, Int.reduceNe, Int.reduceLT, Int.reduceLE, Int.reduceToNat, Int.reduceAdd, Int.reduceSub, Int.reduceMul, Int.reduceNeg, Nat.reduceAdd, Nat.reduceMul, Nat.reduceSub, iI_lit, jI_lit, iI_add, iI_sub, iI_mul, iI_neg, jI_add, jI_sub, jI_mul, jI_neg, nI_i, lN_j, iI_le, iI_lt, iI_eq, jI_le, jI_lt, jI_eq, iI_in, iI_cl, iI_j, jI_i, cN, inN, wI_eq, wI_ne, wJ_1, wJ_eq, wJ_ne, wI_2, wJ_3, iI_div, iI_rem, jI_div, jI_rem, true_or, or_true, false_or, or_false, eq_self, Nat.add_zero, hi]
    refine c_error (e := 1) hly (by decide) (by omega) (vX12_judge_0 hly hd2 (c12_isSheet i1 i2 (by omega) ?_))
    simp (disch := omega) only [forall_eq, true_and, and_true, false_and, and_false, forall_const, true_implies, implies_true, not_true_eq_false, not_false_eq_true, false_implies, if_true, if_false, ↓reduceIte, Int.toNat_natCast, Int.reduceEq, Int.reduceNe, Int.reduceLT, Int.reduceLE, Int.reduceToNat, Int.reduceAdd, Int.reduceSub, Int.reduceMul, Int.reduceNeg, Nat.reduceAdd, Nat.reduceMul, Nat.reduceSub, iI_lit, jI_lit, iI_add, iI_sub, iI_mul, iI_neg, jI_add, jI_sub, jI_mul, jI_neg, nI_i, lN_j, iI_le, iI_lt, iI_eq, jI_le, jI_lt, jI_eq, iI_in, iI_cl, iI_j, jI_i, cN, inN, wI_eq, wI_ne, wJ_1, wJ_eq, wJ_ne, wI_2, wJ_3, iI_div, iI_rem, jI_div, jI_rem, true_or, or_true, false_or, or_false, eq_self, Nat.add_zero, hi]
    exact c12_finds (e := 1) hly (by decide) (by omega) ⟨rfl, hI.er frw.rf frw.rf⟩
  by_cases hw : 0 ≤ w ∧ w < 6
  rotate_left
  · refine vX11_judge_0 hly hd1 (c_isSheet i1 i2 (by omega) ?_)
    simp (disch := omega) only [forall_eq, true_and, and_true, false_and, and_false, forall_const, true_implies, implies_true, not_true_eq_false, not_false_eq_true, false_implies, if_true, if_false, ↓reduceIte, Int.toNat_natCast, Int.reduceEq, Int.reduceNe, Int.reduceLT, Int.reduceLE, Int.reduceToNat, Int.reduceAdd, Int.reduceSub, Int.reduceMul, Int.reduceNeg, Nat.reduceAdd, Nat.reduceMul, Nat.reduceSub, iI_lit, jI_lit, iI_add, iI_sub, iI_mul, iI_neg, jI_add, jI_sub, jI_mul, jI_neg, nI_i, lN_j, iI_le, iI_lt, iI_eq, jI_le, jI_lt, jI_eq, iI_in, iI_cl, iI_j, jI_i, cN, inN, wI_eq, wI_ne, wJ_1, wJ_eq, wJ_ne, wI_2, wJ_3, iI_div, iI_rem, jI_div, jI_rem, true_or, or_true, false_or, or_false, eq_self, Nat.add_zero, hi]
    refine c_isSlot w1 w2 (by omega) ?_
    simp (disch := omega) only [forall_eq, true_and, and_true, false_and, and_false, forall_const, true_implies, implies_true, not_true_eq_false, not_false_eq_true, false_implies, if_true, if_false, ↓reduceIte, Int.toNat_natCast, Int.reduceEq, Int.reduceNe, Int.reduceLT, Int.reduceLE, Int.reduceToNat, Int.reduceAdd, Int.reduceSub, Int.reduceMul, Int.reduceNeg, Nat.reduceAdd, Nat.reduceMul, Nat.reduceSub, iI_lit, jI_lit, iI_add, iI_sub, iI_mul, iI_neg, jI_add, jI_sub, jI_mul, jI_neg, nI_i, lN_j, iI_le, iI_lt, iI_eq, jI_le, jI_lt, jI_eq, iI_in, iI_cl, iI_j, jI_i, cN, inN, wI_eq, wI_ne, wJ_1, wJ_eq, wJ_ne, wI_2, wJ_3, iI_div, iI_rem, jI_div, jI_rem, true_or, or_true, false_or, or_false, eq_self, Nat.add_zero, hw]
    refine c_error (e := 1) hly (by decide) (by omega) (vX12_judge_0 hly hd2 (c12_isSheet i1 i2 (by omega) ?_))
    simp (disch := omega) only [forall_eq, true_and, and_true, false_and, and_false, forall_const, true_implies, implies_true, not_true_eq_false, not_false_eq_true, false_implies, if_true, if_false, ↓reduceIte, Int.toNat_natCast, Int.reduceEq, Int.reduceNe, Int.reduceLT, Int.reduceLE, Int.reduceToNat, Int.reduceAdd, Int.reduceSub, Int.reduceMul, Int.reduceNeg, Nat.reduceAdd, Nat.reduceMul, Nat.reduceSub, iI_lit, jI_lit, iI_add, iI_sub, iI_mul, iI_neg, jI_add, jI_sub, jI_mul, jI_neg, nI_i, lN_j, iI_le, iI_lt, iI_eq, jI_le, jI_lt, jI_eq, iI_in, iI_cl, iI_j, jI_i, cN, inN, wI_eq, wI_ne, wJ_1, wJ_eq, wJ_ne, wI_2, wJ_3, iI_div, iI_rem, jI_div, jI_rem, true_or, or_true, false_or, or_false, eq_self, Nat.add_zero, hi]
    refine c12_isSlot w1 w2 (by omega) ?_
    simp (disch := omega) only [forall_eq, true_and, and_true, false_and, and_false, forall_const, true_implies, implies_true, not_true_eq_false, not_false_eq_true, false_implies, if_true, if_false, ↓reduceIte, Int.toNat_natCast, Int.reduceEq, Int.reduceNe, Int.reduceLT, Int.reduceLE, Int.reduceToNat, Int.reduceAdd, Int.reduceSub, Int.reduceMul, Int.reduceNeg, Nat.reduceAdd, Nat.reduceMul, Nat.reduceSub, iI_lit, jI_lit, iI_add, iI_sub, iI_mul, iI_neg, jI_add, jI_sub, jI_mul, jI_neg, nI_i, lN_j, iI_le, iI_lt, iI_eq, jI_le, jI_lt, jI_eq, iI_in, iI_cl, iI_j, jI_i, cN, inN, wI_eq, wI_ne, wJ_1, wJ_eq, wJ_ne, wI_2, wJ_3, iI_div, iI_rem, jI_div, jI_rem, true_or, or_true, false_or, or_false, eq_self, Nat.add_zero, hw]
    exact c12_finds (e := 1) hly (by decide) (by omega) ⟨rfl, hI.er frw.rf frw.rf⟩
  obtain ⟨s, rfl⟩ : ∃ s : Nat, i = (s : Int) := ⟨i.toNat, by omega⟩
  obtain ⟨j, rfl⟩ : ∃ j : Nat, w = (j : Int) := ⟨w.toNat, by omega⟩
  have hs : s < 4 := by omega
  have hj : j < 6 := by omega
  obtain ⟨b, n, g1, g2, g3, g4, g5, g6, g7⟩ := hI.2.1.2.2.2.2.2.1 s hs
  obtain ⟨t, l, hv, hg, hh⟩ := hI.2.1.1 j hj
  have hT := ly_sheetT hly hs
  have hbd := hv.bd
  have model : ∀ (m1 : sm_M) (Q : Int32 → sm_M → Prop), frw (fun a k => scC a k ∨ a = 76) m m1 → (b = 0 ∨ Int.gcd (Tt t l) (Tb t l) = 0 → ∀ m2, frw scM m1 m2 → Q (iI (-1000000000 - (2 : Nat))) (sm_wI m2 110 2 (m2.1 110 2 + 1))) → (b ≠ 0 → Int.gcd (Tt t l) (Tb t l) ≠ 0 → ∀ m2, frw scM m1 m2 → (∀ i, i < n → i < tN (fP (Tt t l) (Tb t l)) (fQ (Tt t l) (Tb t l)) → (∀ j, j < i → m.2.1 (102 + 2 * s) j = jI (tT (fP (Tt t l) (Tb t l)) (fQ (Tt t l) (Tb t l)) j)) → m.2.1 (102 + 2 * s) i ≠ jI (tT (fP (Tt t l) (Tb t l)) (fQ (Tt t l) (Tb t l)) i) → Q (iI (i : Nat)) m2) ∧ ((∀ j, j < n → j < tN (fP (Tt t l) (Tb t l)) (fQ (Tt t l) (Tb t l)) → m.2.1 (102 + 2 * s) j = jI (tT (fP (Tt t l) (Tb t l)) (fQ (Tt t l) (Tb t l)) j)) → Q (iI (if n = tN (fP (Tt t l) (Tb t l)) (fQ (Tt t l) (Tb t l)) then -1 else ((min n (tN (fP (Tt t l) (Tb t l)) (fQ (Tt t l) (Tb t l))) : Nat) : Int))) m2)) → sm_callI E L mX12_judge d2 0 0 [.ref (sm_B E + 109), .int (iI (s : Nat)), .int (iI (j : Nat))] m1 Q := by
    intro m1 Q f1 hQ0 hQ1
    have c4 : m1.1 121 s = iI b := (f1.i (by unfold scC; omega)).trans g4
    refine vX12_judge_0 hly hd2 (c12_isSheet i1 i2 (by omega) ?_)
    simp (disch := omega) only [forall_eq, true_and, and_true, false_and, and_false, forall_const, true_implies, implies_true, not_true_eq_false, not_false_eq_true, false_implies, if_true, if_false, ↓reduceIte, Int.toNat_natCast, Int.reduceEq, Int.reduceNe, Int.reduceLT, Int.reduceLE, Int.reduceToNat, Int.reduceAdd, Int.reduceSub, Int.reduceMul, Int.reduceNeg, Nat.reduceAdd, Nat.reduceMul, Nat.reduceSub, iI_lit, jI_lit, iI_add, iI_sub, iI_mul, iI_neg, jI_add, jI_sub, jI_mul, jI_neg, nI_i, lN_j, iI_le, iI_lt, iI_eq, jI_le, jI_lt, jI_eq, iI_in, iI_cl, iI_j, jI_i, cN, inN, wI_eq, wI_ne, wJ_1, wJ_eq, wJ_ne, wI_2, wJ_3, iI_div, iI_rem, jI_div, jI_rem, true_or, or_true, false_or, or_false, eq_self, Nat.add_zero, hi]
    refine c12_isSlot w1 w2 (by omega) ?_
    simp (disch := omega) only [forall_eq, true_and, and_true, false_and, and_false, forall_const, true_implies, implies_true, not_true_eq_false, not_false_eq_true, false_implies, if_true, if_false, ↓reduceIte, Int.toNat_natCast, Int.reduceEq, Int.reduceNe, Int.reduceLT, Int.reduceLE, Int.reduceToNat, Int.reduceAdd, Int.reduceSub, Int.reduceMul, Int.reduceNeg, Nat.reduceAdd, Nat.reduceMul, Nat.reduceSub, iI_lit, jI_lit, iI_add, iI_sub, iI_mul, iI_neg, jI_add, jI_sub, jI_mul, jI_neg, nI_i, lN_j, iI_le, iI_lt, iI_eq, jI_le, jI_lt, jI_eq, iI_in, iI_cl, iI_j, jI_i, cN, inN, wI_eq, wI_ne, wJ_1, wJ_eq, wJ_ne, wI_2, wJ_3, iI_div, iI_rem, jI_div, jI_rem, true_or, or_true, false_or, or_false, eq_self, Nat.add_zero, hw, c4]
    refine ⟨by omega, fun z => c12_finds (e := 2) hly (by decide) (by omega) (hQ0 (Or.inl z) m1 frw.rf), fun z => c12_fraction hly (by omega) (hh.frw f1 (by unfold scC; omega) (fun k _ => by unfold scC; omega)) hj hv (fun m2 f2 k2 r2 => ?_)⟩
    have s2 : frw scM m1 m2 := f2.w.mono (fun a k h => frP_sc h)
    by_cases hg0 : Int.gcd (Tt t l) (Tb t l) = 0
    · rw [if_pos hg0]
      simp (disch := omega) only [forall_eq, true_and, and_true, false_and, and_false, forall_const, true_implies, implies_true, not_true_eq_false, not_false_eq_true, false_implies, if_true, if_false, ↓reduceIte, Int.toNat_natCast, Int.reduceEq, Int.reduceNe, Int.reduceLT, Int.reduceLE, Int.reduceToNat, Int.reduceAdd, Int.reduceSub, Int.reduceMul, Int.reduceNeg, Nat.reduceAdd, Nat.reduceMul, Nat.reduceSub, iI_lit, jI_lit, iI_add, iI_sub, iI_mul, iI_neg, jI_add, jI_sub, jI_mul, jI_neg, nI_i, lN_j, iI_le, iI_lt, iI_eq, jI_le, jI_lt, jI_eq, iI_in, iI_cl, iI_j, jI_i, cN, inN, wI_eq, wI_ne, wJ_1, wJ_eq, wJ_ne, wI_2, wJ_3, iI_div, iI_rem, jI_div, jI_rem, true_or, or_true, false_or, or_false, eq_self, Nat.add_zero]
      exact c12_finds (e := 2) hly (by decide) (by omega) (hQ0 (Or.inr hg0) m2 s2)
    · rw [if_neg hg0]
      obtain ⟨e1, e2⟩ := r2 hg0
      obtain ⟨b1, b2, b3, b4, b5⟩ := f_bd hbd hg0
      rw [e1, e2]
      simp (disch := omega) only [forall_eq, true_and, and_true, false_and, and_false, forall_const, true_implies, implies_true, not_true_eq_false, not_false_eq_true, false_implies, if_true, if_false, ↓reduceIte, Int.toNat_natCast, Int.reduceEq, Int.reduceNe, Int.reduceLT, Int.reduceLE, Int.reduceToNat, Int.reduceAdd, Int.reduceSub, Int.reduceMul, Int.reduceNeg, Nat.reduceAdd, Nat.reduceMul, Nat.reduceSub, iI_lit, jI_lit, iI_add, iI_sub, iI_mul, iI_neg, jI_add, jI_sub, jI_mul, jI_neg, nI_i, lN_j, iI_le, iI_lt, iI_eq, jI_le, jI_lt, jI_eq, iI_in, iI_cl, iI_j, jI_i, cN, inN, wI_eq, wI_ne, wJ_1, wJ_eq, wJ_ne, wI_2, wJ_3, iI_div, iI_rem, jI_div, jI_rem, true_or, or_true, false_or, or_false, eq_self, Nat.add_zero]
      have tl := tN_le (fP (Tt t l) (Tb t l)) (fQ (Tt t l) (Tb t l))
      refine c12_termsOf hly (by omega) (by omega) b2 (by omega) (fun m3 f3 u1 u2 => ?_)
      have s3 : frw scM m1 m3 := s2.tr (f3.w.mono (fun a k h => teP_sc h))
      obtain ⟨q1, q2⟩ := hQ1 z hg0 m3 s3
      generalize tN (fP (Tt t l) (Tb t l)) (fQ (Tt t l) (Tb t l)) = M at *
      have c6 : m3.1 122 s = iI (n : Nat) := by rw [s3.i (by unfold scM; omega), f1.i (by unfold scC; omega)]; exact g6
      have c7 : ∀ j, j < 48 → m3.2.1 120 (48 * s + j) = m.2.1 (102 + 2 * s) j := fun j hj => by
        rw [s3.j (by unfold scM; omega), f1.j (by unfold scC; omega)]
        exact (g7 j hj).symm
      have lp : ∀ vs, gX12_judge_85 E L d2 vs (iI (s : Nat)) (iI ((max n M : Nat) : Int)) (iI 0) m3 Q := fun vs => c12_judge_loop hly hd2 hs g2 tl c6 u1 (fun i h1 h2 h3 h4 => q1 i h1 h2 (fun j hj => by rw [← c7 j (by omega), ← u2 j (by omega)]; exact h3 j hj) (by rw [← c7 i (by omega), ← u2 i (by omega)]; exact h4)) (fun h => q2 (fun j h1 h2 => by rw [← c7 j (by omega), ← u2 j (by omega)]; exact h j h1 h2)) (max n M) 0 (by omega) (by omega) (fun j hj => absurd hj (Nat.not_lt_zero _))
      rw [c6, u1]
      simp (disch := omega) only [forall_eq, true_and, and_true, false_and, and_false, forall_const, true_implies, implies_true, not_true_eq_false, not_false_eq_true, false_implies, if_true, if_false, ↓reduceIte, Int.toNat_natCast, Int.reduceEq, Int.reduceNe, Int.reduceLT, Int.reduceLE, Int.reduceToNat, Int.reduceAdd, Int.reduceSub, Int.reduceMul, Int.reduceNeg, Nat.reduceAdd, Nat.reduceMul, Nat.reduceSub, iI_lit, jI_lit, iI_add, iI_sub, iI_mul, iI_neg, jI_add, jI_sub, jI_mul, jI_neg, nI_i, lN_j, iI_le, iI_lt, iI_eq, jI_le, jI_lt, jI_eq, iI_in, iI_cl, iI_j, jI_i, cN, inN, wI_eq, wI_ne, wJ_1, wJ_eq, wJ_ne, wI_2, wJ_3, iI_div, iI_rem, jI_div, jI_rem, true_or, or_true, false_or, or_false, eq_self, Nat.add_zero, c6, u1]
      refine ⟨by omega, fun z => ⟨by omega, ?_⟩, fun z => ?_⟩
      · rw [show max n M = n by omega] at lp
        exact lp _
      · rw [show max n M = M by omega] at lp
        exact lp _
  refine vX11_judge_0 hly hd1 (c_isSheet i1 i2 (by omega) ?_)
  simp (disch := omega) only [forall_eq, true_and, and_true, false_and, and_false, forall_const, true_implies, implies_true, not_true_eq_false, not_false_eq_true, false_implies, if_true, if_false, ↓reduceIte, Int.toNat_natCast, Int.reduceEq, Int.reduceNe, Int.reduceLT, Int.reduceLE, Int.reduceToNat, Int.reduceAdd, Int.reduceSub, Int.reduceMul, Int.reduceNeg, Nat.reduceAdd, Nat.reduceMul, Nat.reduceSub, iI_lit, jI_lit, iI_add, iI_sub, iI_mul, iI_neg, jI_add, jI_sub, jI_mul, jI_neg, nI_i, lN_j, iI_le, iI_lt, iI_eq, jI_le, jI_lt, jI_eq, iI_in, iI_cl, iI_j, jI_i, cN, inN, wI_eq, wI_ne, wJ_1, wJ_eq, wJ_ne, wI_2, wJ_3, iI_div, iI_rem, jI_div, jI_rem, true_or, or_true, false_or, or_false, eq_self, Nat.add_zero, hi]
  refine c_isSlot w1 w2 (by omega) ?_
  simp (disch := omega) only [forall_eq, true_and, and_true, false_and, and_false, forall_const, true_implies, implies_true, not_true_eq_false, not_false_eq_true, false_implies, if_true, if_false, ↓reduceIte, Int.toNat_natCast, Int.reduceEq, Int.reduceNe, Int.reduceLT, Int.reduceLE, Int.reduceToNat, Int.reduceAdd, Int.reduceSub, Int.reduceMul, Int.reduceNeg, Nat.reduceAdd, Nat.reduceMul, Nat.reduceSub, iI_lit, jI_lit, iI_add, iI_sub, iI_mul, iI_neg, jI_add, jI_sub, jI_mul, jI_neg, nI_i, lN_j, iI_le, iI_lt, iI_eq, jI_le, jI_lt, jI_eq, iI_in, iI_cl, iI_j, jI_i, cN, inN, wI_eq, wI_ne, wJ_1, wJ_eq, wJ_ne, wI_2, wJ_3, iI_div, iI_rem, jI_div, jI_rem, true_or, or_true, false_or, or_false, eq_self, Nat.add_zero, hw]
  have werr : frw (fun a k => scC a k ∨ a = 76) m (sm_wI m 76 2 (m.1 76 2 + 1)) := (fr.rf.wI (Or.inr rfl)).w
  refine ⟨by omega, by omega, c_isMissing hT (by omega) g3 (by omega) (by omega) ?_⟩
  by_cases hb : b = 0
  · rw [if_pos hb]
    simp (disch := omega) only [forall_eq, true_and, and_true, false_and, and_false, forall_const, true_implies, implies_true, not_true_eq_false, not_false_eq_true, false_implies, if_true, if_false, ↓reduceIte, Int.toNat_natCast, Int.reduceEq, Int.reduceNe, Int.reduceLT, Int.reduceLE, Int.reduceToNat, Int.reduceAdd, Int.reduceSub, Int.reduceMul, Int.reduceNeg, Nat.reduceAdd, Nat.reduceMul, Nat.reduceSub, iI_lit, jI_lit, iI_add, iI_sub, iI_mul, iI_neg, jI_add, jI_sub, jI_mul, jI_neg, nI_i, lN_j, iI_le, iI_lt, iI_eq, jI_le, jI_lt, jI_eq, iI_in, iI_cl, iI_j, jI_i, cN, inN, wI_eq, wI_ne, wJ_1, wJ_eq, wJ_ne, wI_2, wJ_3, iI_div, iI_rem, jI_div, jI_rem, true_or, or_true, false_or, or_false, eq_self, Nat.add_zero]
    exact c_error (e := 2) hly (by decide) (by omega) (model _ _ werr (fun _ m2 f2 => ⟨rfl, hI.er frw.rf f2⟩) (fun h => absurd hb h))
  rw [if_neg hb, hg.2.2.2.2.2.1]
  by_cases hg0 : Int.gcd (Tt t l) (Tb t l) = 0
  · rw [if_pos hg0]
    simp (disch := omega) only [forall_eq, true_and, and_true, false_and, and_false, forall_const, true_implies, implies_true, not_true_eq_false, not_false_eq_true, false_implies, if_true, if_false, ↓reduceIte, Int.toNat_natCast, Int.reduceEq, Int.reduceNe, Int.reduceLT, Int.reduceLE, Int.reduceToNat, Int.reduceAdd, Int.reduceSub, Int.reduceMul, Int.reduceNeg, Nat.reduceAdd, Nat.reduceMul, Nat.reduceSub, iI_lit, jI_lit, iI_add, iI_sub, iI_mul, iI_neg, jI_add, jI_sub, jI_mul, jI_neg, nI_i, lN_j, iI_le, iI_lt, iI_eq, jI_le, jI_lt, jI_eq, iI_in, iI_cl, iI_j, jI_i, cN, inN, wI_eq, wI_ne, wJ_1, wJ_eq, wJ_ne, wI_2, wJ_3, iI_div, iI_rem, jI_div, jI_rem, true_or, or_true, false_or, or_false, eq_self, Nat.add_zero]
    exact c_error (e := 2) hly (by decide) (by omega) (model _ _ werr (fun _ m2 f2 => ⟨rfl, hI.er frw.rf f2⟩) (fun _ h => absurd hg0 h))
  rw [if_neg hg0]
  obtain ⟨y1, y2⟩ := hg.2.2.2.2.2.2 hg0
  obtain ⟨b1, b2, b3, b4, b5⟩ := f_bd hbd hg0
  have tl := tN_le (fP (Tt t l) (Tb t l)) (fQ (Tt t l) (Tb t l))
  rw [y1, y2]
  simp (disch := omega) only [forall_eq, true_and, and_true, false_and, and_false, forall_const, true_implies, implies_true, not_true_eq_false, not_false_eq_true, false_implies, if_true, if_false, ↓reduceIte, Int.toNat_natCast, Int.reduceEq, Int.reduceNe, Int.reduceLT, Int.reduceLE, Int.reduceToNat, Int.reduceAdd, Int.reduceSub, Int.reduceMul, Int.reduceNeg, Nat.reduceAdd, Nat.reduceMul, Nat.reduceSub, iI_lit, jI_lit, iI_add, iI_sub, iI_mul, iI_neg, jI_add, jI_sub, jI_mul, jI_neg, nI_i, lN_j, iI_le, iI_lt, iI_eq, jI_le, jI_lt, jI_eq, iI_in, iI_cl, iI_j, jI_i, cN, inN, wI_eq, wI_ne, wJ_1, wJ_eq, wJ_ne, wI_2, wJ_3, iI_div, iI_rem, jI_div, jI_rem, true_or, or_true, false_or, or_false, eq_self, Nat.add_zero]
  refine c_expandS (she74 hly) (by omega) (by omega) b2 (by omega) (fun h => by have := b4 h; omega) (fun m1 f1 r1 => ?_)
  have s1 : frw scC m m1 := f1.w.mono (fun a k h => rsP_sc h)
  have s1' : frw (fun a k => scC a k ∨ a = 76) m m1 := s1.mono (fun a k h => Or.inl h)
  have c5 : m1.1 (101 + 2 * s) 2 = iI (n : Nat) := (f1.i (by unfold rsP; omega)).trans g5
  have c7 : ∀ j, m1.2.1 (101 + 2 * s + 1) j = m.2.1 (102 + 2 * s) j := fun j => by
    rw [f1.j (by unfold rsP; omega), show 101 + 2 * s + 1 = 102 + 2 * s by omega]
  refine vX7_firstUnlike_0 (by omega) hT (she74 hly) ?_
  rw [c5, r1.1]
  refine c_min (by omega) (by omega) (by omega) (by omega) (by omega) ?_
  rw [show min ((n : Nat) : Int) ((tN (fP (Tt t l) (Tb t l)) (fQ (Tt t l) (Tb t l)) : Nat) : Int) = ((min n (tN (fP (Tt t l) (Tb t l)) (fQ (Tt t l) (Tb t l))) : Nat) : Int) by omega]
  refine c_unlike_loop hT (she74 hly) (by omega) g2 tl c5 r1.1 (fun i h1 h2 h3 h4 => ?_) (fun h => ?_) (min n (tN (fP (Tt t l) (Tb t l)) (fQ (Tt t l) (Tb t l)))) 0 (by omega) (fun j hj => absurd hj (Nat.not_lt_zero _))
  · have h3' : ∀ j, j < i → m.2.1 (102 + 2 * s) j = jI (tT (fP (Tt t l) (Tb t l)) (fQ (Tt t l) (Tb t l)) j) := fun j hj => by rw [← c7, ← r1.2 j (by omega)]; exact h3 j hj
    have h4' : m.2.1 (102 + 2 * s) i ≠ jI (tT (fP (Tt t l) (Tb t l)) (fQ (Tt t l) (Tb t l)) i) := by rw [← c7, ← r1.2 i (by omega)]; exact h4
    refine model m1 _ s1' (fun h => by omega) (fun _ _ m2 f2 => ⟨fun i' a1 a2 a3 a4 => ⟨?_, hI.sc s1 f2⟩, fun a => absurd (a i h1 h2) h4'⟩)
    rcases Nat.lt_trichotomy i i' with q | q | q
    · exact absurd (a3 i q) h4'
    · rw [q]
    · exact absurd (h3' i' q) a4
  · have h' : ∀ j, j < n → j < tN (fP (Tt t l) (Tb t l)) (fQ (Tt t l) (Tb t l)) → m.2.1 (102 + 2 * s) j = jI (tT (fP (Tt t l) (Tb t l)) (fQ (Tt t l) (Tb t l)) j) := fun j h1 h2 => by rw [← c7, ← r1.2 j h2]; exact h j h1 h2
    exact model m1 _ s1' (fun h => by omega) (fun _ _ m2 f2 => ⟨fun i' a1 a2 a3 a4 => absurd (h' i' a1 a2) a4, fun _ => ⟨rfl, hI.sc s1 f2⟩⟩)
end K6
