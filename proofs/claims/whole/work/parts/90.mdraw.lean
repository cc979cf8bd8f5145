/-! the reference draws -/
def dM (m : sm_M) (s : drS) : Prop := m.1 109 45 = iI (s.2.1 : Nat) ∧ m.1 109 46 = iI (s.2.2.1 : Nat) ∧ (∀ k, k < s.1 → m.1 131 k = iI (s.2.2.2.1 (4 * k) : Nat) ∧ m.1 132 k = iI (s.2.2.2.1 (4 * k + 1) : Nat) ∧ m.1 133 k = iI (s.2.2.2.1 (4 * k + 2) : Nat) ∧ m.1 134 k = iI (s.2.2.2.1 (4 * k + 3) : Nat)) ∧ (∀ k, k < s.1 → m.1 135 k = iI (s.2.2.2.2.1 k : Nat)) ∧ (∀ p, s.2.2.2.2.2.1 p ≠ 999 → m.1 128 p = iI (s.2.2.2.2.2.1 p : Nat)) ∧ (∀ b q, q < 4 → s.2.2.2.2.2.2.1 b ≠ 0 → m.1 129 (4 * b + q) = iI ((4 * b + (q ^^^ s.2.2.2.2.2.2.1 b) : Nat) : Int)) ∧ ∀ b, s.2.2.2.2.2.2.2 b ≠ 9 → m.1 130 b = iI (2 * (s.2.2.2.2.2.2.2 b : Int) - 1)
def dMP (a k : Nat) : Prop := (a = 109 ∧ 45 ≤ k) ∨ (128 ≤ a ∧ a ≤ 143)
def w4 (m : sm_M) (b k : Nat) : sm_M := sm_wI (sm_wI (sm_wI (sm_wI m 129 (4 * b) (iI ((4 * b + (0 ^^^ k) : Nat) : Int))) 129 (4 * b + 1) (iI ((4 * b + (1 ^^^ k) : Nat) : Int))) 129 (4 * b + 2) (iI ((4 * b + (2 ^^^ k) : Nat) : Int))) 129 (4 * b + 3) (iI ((4 * b + (3 ^^^ k) : Nat) : Int))
theorem w4_oth {m : sm_M} {b k a : Nat} (h : a ≠ 129) : (w4 m b k).1 a = m.1 a := by rw [w4, wI_oth h, wI_oth h, wI_oth h, wI_oth h]
theorem w4_fr {m0 m : sm_M} {b k : Nat} (h : fr dMP m0 m) : fr dMP m0 (w4 m b k) := (((h.wI (Or.inr (by omega))).wI (Or.inr (by omega))).wI (Or.inr (by omega))).wI (Or.inr (by omega))
theorem w4_up {m : sm_M} {b0 k : Nat} {mk : Nat → Nat} (h : ∀ b q, q < 4 → mk b ≠ 0 → m.1 129 (4 * b + q) = iI ((4 * b + (q ^^^ mk b) : Nat) : Int)) : ∀ b q, q < 4 → upN mk b0 k b ≠ 0 → (w4 m b0 k).1 129 (4 * b + q) = iI ((4 * b + (q ^^^ upN mk b0 k b) : Nat) : Int) := by
  intro b q hq hb
  rw [upN_at] at hb ⊢
  by_cases hbb : b = b0
  · subst hbb
    rw [if_pos rfl, w4]
    have h4 : q = 0 ∨ q = 1 ∨ q = 2 ∨ q = 3 := by omega
    rcases h4 with rfl | rfl | rfl | rfl
    · rw [wI_ne (by omega), wI_ne (by omega), wI_ne (by omega)]
      exact wI_eq rfl rfl
    · rw [wI_ne (by omega), wI_ne (by omega), wI_eq rfl rfl]
    · rw [wI_ne (by omega), wI_eq rfl rfl]
    · rw [wI_eq rfl rfl]
  · rw [if_neg hbb] at hb ⊢
    rw [w4, wI_ne (by omega), wI_ne (by omega), wI_ne (by omega), wI_ne (by omega)]
    exact h b q hq hb
theorem wI_upS {m : sm_M} {i v : Nat} {f : Nat → Nat} (h : ∀ b, f b ≠ 9 → m.1 130 b = iI (2 * (f b : Int) - 1)) : ∀ b, upN f i v b ≠ 9 → (sm_wI m 130 i (iI (2 * (v : Int) - 1))).1 130 b = iI (2 * (upN f i v b : Int) - 1) := fun b hb => by
  rw [upN_at] at hb ⊢
  by_cases hki : b = i
  · rw [wI_eq rfl hki, if_pos hki]
  · rw [if_neg hki] at hb
    rw [wI_ne (Or.inr hki), if_neg hki]; exact h b hb
section MDR
variable {E : sm_E} {L : sm_S → Prop} {d : Nat} {m : sm_M}
theorem c12_ties {Q : sm_M → Prop} {x y : Nat} (hly : ∀ S, L S → ly S) (hd : 1 ≤ d) (hx : x < 192) (hy : y < 192) (h : Q (tieM m 128 x y)) : sm_callV E L mX12_ties d 0 0 [.ref (sm_B E + 109), .int (iI (x : Nat)), .int (iI (y : Nat))] m Q := by
  refine vX12_ties_0 hly hd ?_
  simp (disch := omega) only [forall_eq, true_and, and_true, false_and, and_false, forall_const, true_implies, implies_true, not_true_eq_false, not_false_eq_true, false_implies, if_true, if_false, ↓reduceIte, Int.toNat_natCast, Int.reduceEq, Int.reduceNe, Int.reduceLT, Int.reduceLE, Int.reduceToNat, Int.reduceAdd, Int.reduceSub, Int.reduceMul, Int.reduceNeg, Nat.reduceAdd, Nat.reduceMul, Nat.reduceSub, iI_lit, jI_lit, iI_add, iI_sub, iI_mul, iI_neg, jI_add, jI_sub, jI_mul, jI_neg, nI_i, lN_j, iI_le, iI_lt, iI_eq, jI_le, jI_lt, jI_eq, iI_in, iI_cl, iI_j, jI_i, cN, inN, wI_eq, wI_ne, wJ_1, wJ_eq, wJ_ne, wI_2, wJ_3, iI_div, iI_rem, jI_div, jI_rem, true_or, or_true, false_or, or_false, eq_self, Nat.add_zero]
  exact ⟨by omega, by omega, h⟩
theorem m_236 {Q : sm_M → Prop} {vs : List Value} {g w x : Nat} (hly : ∀ S, L S → ly S) (hd : 2 ≤ d) (hg : g < 64) (hw : w < 48) (hx : x < 48) (h : Q (sm_wI (sm_wI (sm_wI (sm_wI m 131 g (iI ((4 * w : Nat) : Int))) 133 g (iI ((4 * w + 2 : Nat) : Int))) 132 g (iI ((4 * x + 1 : Nat) : Int))) 134 g (iI ((4 * x + 3 : Nat) : Int)))) : gX12_layLeaf_236 E L d vs (iI (g : Nat)) (iI ((4 * w : Nat) : Int)) (iI ((4 * x : Nat) : Int)) m Q := by
  have f2 : ((4 * w : Nat) : Int) + 2 = ((4 * w + 2 : Nat) : Int) := by omega
  have f1 : ((4 * x : Nat) : Int) + 1 = ((4 * x + 1 : Nat) : Int) := by omega
  have f3 : ((4 * x : Nat) : Int) + 3 = ((4 * x + 3 : Nat) : Int) := by omega
  refine vX12_layLeaf_236 hly hd ?_
  simp (disch := omega) only [forall_eq, true_and, and_true, false_and, and_false, forall_const, true_implies, implies_true, not_true_eq_false, not_false_eq_true, false_implies, if_true, if_false, ↓reduceIte, Int.toNat_natCast, Int.reduceEq, Int.reduceNe, Int.reduceLT, Int.reduceLE, Int.reduceToNat, Int.reduceAdd, Int.reduceSub, Int.reduceMul, Int.reduceNeg, Nat.reduceAdd, Nat.reduceMul, Nat.reduceSub, iI_lit, jI_lit, iI_add, iI_sub, iI_mul, iI_neg, jI_add, jI_sub, jI_mul, jI_neg, nI_i, lN_j, iI_le, iI_lt, iI_eq, jI_le, jI_lt, jI_eq, iI_in, iI_cl, iI_j, jI_i, cN, inN, wI_eq, wI_ne, wJ_1, wJ_eq, wJ_ne, wI_2, wJ_3, iI_div, iI_rem, jI_div, jI_rem, true_or, or_true, false_or, or_false, eq_self, Nat.add_zero, f1, f2, f3]
  exact ⟨by omega, by omega, by omega, by omega, h⟩
theorem xor4 : ∀ q : Fin 4, ∀ k : Fin 4, iI (q.val : Nat) ^^^ iI (k.val : Nat) = iI ((q.val ^^^ k.val : Nat) : Int) := by decide +kernel
theorem m_206 {Q : sm_M → Prop} {vs : List Value} {g b k : Nat} (hly : ∀ S, L S → ly S) (hd : 2 ≤ d) (hb : b < 48) (hk : k < 4) (h : gX12_layLeaf_236 E L d vs (iI (g : Nat)) (iI ((4 * b : Nat) : Int)) (iI ((4 * b : Nat) : Int)) (w4 m b k) Q) : gX12_layLeaf_206 E L d vs (iI (g : Nat)) (iI ((4 * b : Nat) : Int)) (iI ((4 * b : Nat) : Int)) (iI (k : Nat)) (iI 0) m Q := by
  have x0 : iI 0 ^^^ iI (k : Nat) = iI ((0 ^^^ k : Nat) : Int) := xor4 ⟨0, by decide⟩ ⟨k, hk⟩
  have x1 : iI 1 ^^^ iI (k : Nat) = iI ((1 ^^^ k : Nat) : Int) := xor4 ⟨1, by decide⟩ ⟨k, hk⟩
  have x2 : iI 2 ^^^ iI (k : Nat) = iI ((2 ^^^ k : Nat) : Int) := xor4 ⟨2, by decide⟩ ⟨k, hk⟩
  have x3 : iI 3 ^^^ iI (k : Nat) = iI ((3 ^^^ k : Nat) : Int) := xor4 ⟨3, by decide⟩ ⟨k, hk⟩
  have e0 : (((4 * b : Nat) : Int) + 0).toNat = 4 * b := by omega
  have e1 : (((4 * b : Nat) : Int) + 1).toNat = 4 * b + 1 := by omega
  have e2 : (((4 * b : Nat) : Int) + 2).toNat = 4 * b + 2 := by omega
  have e3 : (((4 * b : Nat) : Int) + 3).toNat = 4 * b + 3 := by omega
  have n0 : ¬ (4 : Int) ≤ 0 := by omega
  have n1 : ¬ (4 : Int) ≤ 1 := by omega
  have n2 : ¬ (4 : Int) ≤ 2 := by omega
  have n3 : ¬ (4 : Int) ≤ 3 := by omega
  refine vX12_layLeaf_206 hly hd ?_
  simp (disch := omega) only [forall_eq, true_and, and_true, false_and, and_false, forall_const, true_implies, implies_true, not_true_eq_false, not_false_eq_true, false_implies, if_true, if_false, ↓reduceIte, Int.toNat_natCast, Int.reduceEq, Int.reduceNe, Int.reduceLT, Int.reduceLE, Int.reduceToNat, Int.reduceAdd, Int.reduceSub, Int.reduceMul, Int.reduceNeg, Nat.reduceAdd, Nat.reduceMul, Nat.reduceSub, iI_lit, jI_lit, iI_add, iI_sub, iI_mul, iI_neg, jI_add, jI_sub, jI_mul, jI_neg, nI_i, lN_j, iI_le, iI_lt, iI_eq, jI_le, jI_lt, jI_eq, iI_in, iI_cl, iI_j, jI_i, cN, inN, wI_eq, wI_ne, wJ_1, wJ_eq, wJ_ne, wI_2, wJ_3, iI_div, iI_rem, jI_div, jI_rem, true_or, or_true, false_or, or_false, eq_self, Nat.add_zero, e0, x0, n0]
  refine ⟨by omega, vX12_layLeaf_206 hly hd ?_⟩
  simp (disch := omega) only [forall_eq, true_and, and_true, false_and, and_false, forall_const, true_implies, implies_true, not_true_eq_false, not_false_eq_true, false_implies, if_true, if_false, ↓reduceIte, Int.toNat_natCast, Int.reduceEq, Int.reduceNe, Int.reduceLT, Int.reduceLE, Int.reduceToNat, Int.reduceAdd, Int.reduceSub, Int.reduceMul, Int.reduceNeg, Nat.reduceAdd, Nat.reduceMul, Nat.reduceSub, iI_lit, jI_lit, iI_add, iI_sub, iI_mul, iI_neg, jI_add, jI_sub, jI_mul, jI_neg, nI_i, lN_j, iI_le, iI_lt, iI_eq, jI_le, jI_lt, jI_eq, iI_in, iI_cl, iI_j, jI_i, cN, inN, wI_eq, wI_ne, wJ_1, wJ_eq, wJ_ne, wI_2, wJ_3, iI_div, iI_rem, jI_div, jI_rem, true_or, or_true, false_or, or_false, eq_self, Nat.add_zero, e1, x1, n1]
  refine ⟨by omega, vX12_layLeaf_206 hly hd ?_⟩
  simp (disch := omega) only [forall_eq, true_and, and_true, false_and, and_false, forall_const, true_implies, implies_true, not_true_eq_false, not_false_eq_true, false_implies, if_true, if_false, ↓reduceIte, Int.toNat_natCast, Int.reduceEq, Int.reduceNe, Int.reduceLT, Int.reduceLE, Int.reduceToNat, Int.reduceAdd, Int.reduceSub, Int.reduceMul, Int.reduceNeg, Nat.reduceAdd, Nat.reduceMul, Nat.reduceSub, iI_lit, jI_lit, iI_add, iI_sub, iI_mul, iI_neg, jI_add, jI_sub, jI_mul, jI_neg, nI_i, lN_j, iI_le, iI_lt, iI_eq, jI_le, jI_lt, jI_eq, iI_in, iI_cl, iI_j, jI_i, cN, inN, wI_eq, wI_ne, wJ_1, wJ_eq, wJ_ne, wI_2, wJ_3, iI_div, iI_rem, jI_div, jI_rem, true_or, or_true, false_or, or_false, eq_self, Nat.add_zero, e2, x2, n2]
  refine ⟨by omega, vX12_layLeaf_206 hly hd ?_⟩
  simp (disch := omega) only [forall_eq, true_and, and_true, false_and, and_false, forall_const, true_implies, implies_true, not_true_eq_false, not_false_eq_true, false_implies, if_true, if_false, ↓reduceIte, Int.toNat_natCast, Int.reduceEq, Int.reduceNe, Int.reduceLT, Int.reduceLE, Int.reduceToNat, Int.reduceAdd, Int.reduceSub, Int.reduceMul, Int.reduceNeg, Nat.reduceAdd, Nat.reduceMul, Nat.reduceSub, iI_lit, jI_lit, iI_add, iI_sub, iI_mul, iI_neg, jI_add, jI_sub, jI_mul, jI_neg, nI_i, lN_j, iI_le, iI_lt, iI_eq, jI_le, jI_lt, jI_eq, iI_in, iI_cl, iI_j, jI_i, cN, inN, wI_eq, wI_ne, wJ_1, wJ_eq, wJ_ne, wI_2, wJ_3, iI_div, iI_rem, jI_div, jI_rem, true_or, or_true, false_or, or_false, eq_self, Nat.add_zero, e3, x3, n3]
  refine ⟨by omega, vX12_layLeaf_206 hly hd ?_⟩
  simp (disch := omega) only [forall_eq, true_and, and_true, false_and, and_false, forall_const, true_implies, implies_true, not_true_eq_false, not_false_eq_true, false_implies, if_true, if_false, ↓reduceIte, Int.toNat_natCast, Int.reduceEq, Int.reduceNe, Int.reduceLT, Int.reduceLE, Int.reduceToNat, Int.reduceAdd, Int.reduceSub, Int.reduceMul, Int.reduceNeg, Nat.reduceAdd, Nat.reduceMul, Nat.reduceSub, iI_lit, jI_lit, iI_add, iI_sub, iI_mul, iI_neg, jI_add, jI_sub, jI_mul, jI_neg, nI_i, lN_j, iI_le, iI_lt, iI_eq, jI_le, jI_lt, jI_eq, iI_in, iI_cl, iI_j, jI_i, cN, inN, wI_eq, wI_ne, wJ_1, wJ_eq, wJ_ne, wI_2, wJ_3, iI_div, iI_rem, jI_div, jI_rem, true_or, or_true, false_or, or_false, eq_self, Nat.add_zero]
  exact h
theorem m_51 {Q : sm_M → Prop} {vs : List Value} {z : Int} {n : Nat} {x2 x3 x4 : Int32} {b v : Nat} (hly : ∀ S, L S → ly S) (hd : 2 ≤ d) (hb : b < 24) (hz1 : -9 ≤ z) (hz2 : z ≤ 9) (hv : v = if 0 < z then 1 else 0) (hc : m.1 109 45 = iI (b : Nat)) (h : gX12_layLeaf_97 E L d vs (iI z) x2 x3 x4 (iI ((4 * b : Nat) : Int)) (iI (b : Nat)) (iI (2 * (v : Int) - 1)) (w4 m b 3) Q) : gX12_layLeaf_51 E L d vs (iI z) x2 x3 x4 (iI ((4 * b : Nat) : Int)) (iI 0) m Q := by
  have x0 : ((4 * b : Nat) : Int) + 3 - 0 = ((4 * b + (0 ^^^ 3) : Nat) : Int) := by show _ = ((4 * b + 3 : Nat) : Int); omega
  have x1 : ((4 * b : Nat) : Int) + 3 - 1 = ((4 * b + (1 ^^^ 3) : Nat) : Int) := by show _ = ((4 * b + 2 : Nat) : Int); omega
  have x2' : ((4 * b : Nat) : Int) + 3 - 2 = ((4 * b + (2 ^^^ 3) : Nat) : Int) := by show _ = ((4 * b + 1 : Nat) : Int); omega
  have x3' : ((4 * b : Nat) : Int) + 3 - 3 = ((4 * b + (3 ^^^ 3) : Nat) : Int) := by show _ = ((4 * b + 0 : Nat) : Int); omega
  have e0 : (((4 * b : Nat) : Int) + 0).toNat = 4 * b := by omega
  have e1 : (((4 * b : Nat) : Int) + 1).toNat = 4 * b + 1 := by omega
  have e2 : (((4 * b : Nat) : Int) + 2).toNat = 4 * b + 2 := by omega
  have e3 : (((4 * b : Nat) : Int) + 3).toNat = 4 * b + 3 := by omega
  have n0 : ¬ (4 : Int) ≤ 0 := by omega
  have n1 : ¬ (4 : Int) ≤ 1 := by omega
  have n2 : ¬ (4 : Int) ≤ 2 := by omega
  have n3 : ¬ (4 : Int) ≤ 3 := by omega
  refine vX12_layLeaf_51 hly hd ?_
  simp (disch := omega) only [forall_eq, true_and, and_true, false_and, and_false, forall_const, true_implies, implies_true, not_true_eq_false, not_false_eq_true, false_implies, if_true, if_false, ↓reduceIte, Int.toNat_natCast, Int.reduceEq, Int.reduceNe, Int.reduceLT, Int.reduceLE, Int.reduceToNat, Int.reduceAdd, Int.reduceSub, Int.reduceMul, Int.reduceNeg, Nat.reduceAdd, Nat.reduceMul, Nat.reduceSub, iI_lit, jI_lit, iI_add, iI_sub, iI_mul, iI_neg, jI_add, jI_sub, jI_mul, jI_neg, nI_i, lN_j, iI_le, iI_lt, iI_eq, jI_le, jI_lt, jI_eq, iI_in, iI_cl, iI_j, jI_i, cN, inN, wI_eq, wI_ne, wJ_1, wJ_eq, wJ_ne, wI_2, wJ_3, iI_div, iI_rem, jI_div, jI_rem, true_or, or_true, false_or, or_false, eq_self, Nat.add_zero, e0, x0, n0]
  refine ⟨by omega, vX12_layLeaf_51 hly hd ?_⟩
  simp (disch := omega) only [forall_eq, true_and, and_true, false_and, and_false, forall_const, true_implies, implies_true, not_true_eq_false, not_false_eq_true, false_implies, if_true, if_false, ↓reduceIte, Int.toNat_natCast, Int.reduceEq, Int.reduceNe, Int.reduceLT, Int.reduceLE, Int.reduceToNat, Int.reduceAdd, Int.reduceSub, Int.reduceMul, Int.reduceNeg, Nat.reduceAdd, Nat.reduceMul, Nat.reduceSub, iI_lit, jI_lit, iI_add, iI_sub, iI_mul, iI_neg, jI_add, jI_sub, jI_mul, jI_neg, nI_i, lN_j, iI_le, iI_lt, iI_eq, jI_le, jI_lt, jI_eq, iI_in, iI_cl, iI_j, jI_i, cN, inN, wI_eq, wI_ne, wJ_1, wJ_eq, wJ_ne, wI_2, wJ_3, iI_div, iI_rem, jI_div, jI_rem, true_or, or_true, false_or, or_false, eq_self, Nat.add_zero, e1, x1, n1]
  refine ⟨by omega, vX12_layLeaf_51 hly hd ?_⟩
  simp (disch := omega) only [forall_eq, true_and, and_true, false_and, and_false, forall_const, true_implies, implies_true, not_true_eq_false, not_false_eq_true, false_implies, if_true, if_false, ↓reduceIte, Int.toNat_natCast, Int.reduceEq, Int.reduceNe, Int.reduceLT, Int.reduceLE, Int.reduceToNat, Int.reduceAdd, Int.reduceSub, Int.reduceMul, Int.reduceNeg, Nat.reduceAdd, Nat.reduceMul, Nat.reduceSub, iI_lit, jI_lit, iI_add, iI_sub, iI_mul, iI_neg, jI_add, jI_sub, jI_mul, jI_neg, nI_i, lN_j, iI_le, iI_lt, iI_eq, jI_le, jI_lt, jI_eq, iI_in, iI_cl, iI_j, jI_i, cN, inN, wI_eq, wI_ne, wJ_1, wJ_eq, wJ_ne, wI_2, wJ_3, iI_div, iI_rem, jI_div, jI_rem, true_or, or_true, false_or, or_false, eq_self, Nat.add_zero, e2, x2', n2]
  refine ⟨by omega, vX12_layLeaf_51 hly hd ?_⟩
  simp (disch := omega) only [forall_eq, true_and, and_true, false_and, and_false, forall_const, true_implies, implies_true, not_true_eq_false, not_false_eq_true, false_implies, if_true, if_false, ↓reduceIte, Int.toNat_natCast, Int.reduceEq, Int.reduceNe, Int.reduceLT, Int.reduceLE, Int.reduceToNat, Int.reduceAdd, Int.reduceSub, Int.reduceMul, Int.reduceNeg, Nat.reduceAdd, Nat.reduceMul, Nat.reduceSub, iI_lit, jI_lit, iI_add, iI_sub, iI_mul, iI_neg, jI_add, jI_sub, jI_mul, jI_neg, nI_i, lN_j, iI_le, iI_lt, iI_eq, jI_le, jI_lt, jI_eq, iI_in, iI_cl, iI_j, jI_i, cN, inN, wI_eq, wI_ne, wJ_1, wJ_eq, wJ_ne, wI_2, wJ_3, iI_div, iI_rem, jI_div, jI_rem, true_or, or_true, false_or, or_false, eq_self, Nat.add_zero, e3, x3', n3]
  refine ⟨by omega, vX12_layLeaf_51 hly hd ?_⟩
  have hw : (w4 m b 3).1 109 45 = iI (b : Nat) := by rw [w4_oth (by decide)]; exact hc
  unfold w4 at hw
  rw [hw]
  simp (disch := omega) only [forall_eq, true_and, and_true, false_and, and_false, forall_const, true_implies, implies_true, not_true_eq_false, not_false_eq_true, false_implies, if_true, if_false, ↓reduceIte, Int.toNat_natCast, Int.reduceEq, Int.reduceNe, Int.reduceLT, Int.reduceLE, Int.reduceToNat, Int.reduceAdd, Int.reduceSub, Int.reduceMul, Int.reduceNeg, Nat.reduceAdd, Nat.reduceMul, Nat.reduceSub, iI_lit, jI_lit, iI_add, iI_sub, iI_mul, iI_neg, jI_add, jI_sub, jI_mul, jI_neg, nI_i, lN_j, iI_le, iI_lt, iI_eq, jI_le, jI_lt, jI_eq, iI_in, iI_cl, iI_j, jI_i, cN, inN, wI_eq, wI_ne, wJ_1, wJ_eq, wJ_ne, wI_2, wJ_3, iI_div, iI_rem, jI_div, jI_rem, true_or, or_true, false_or, or_false, eq_self, Nat.add_zero]
  refine ⟨fun hz => ?_, fun hz => ?_⟩
  · rw [if_neg (by omega)] at hv
    rw [hv] at h
    exact h
  · rw [if_pos (by omega)] at hv
    rw [hv] at h
    exact h
/-- a crossing more -/
theorem dM.X {s : drS} {v : Nat} {b : Bool} (hC : dM m s) (m1 : sm_M) (hm1 : m1 = sm_wI (w4 m s.2.1 3) 130 s.2.1 (iI (2 * (v : Int) - 1))) : dM (sm_wI (if b then m1 else tieM (tieM m1 128 (4 * s.2.1 - 3) (4 * s.2.1)) 128 (4 * s.2.1 - 1) (4 * s.2.1 + 2)) 109 45 (iI ((s.2.1 + 1 : Nat) : Int))) (drX s v b) := by
  obtain ⟨c1, c2, c3, c4, c5, c6, c7⟩ := hC
  subst hm1
  cases b
  · have oth : ∀ a, a ≠ 109 → a ≠ 128 → a ≠ 129 → a ≠ 130 → (sm_wI (if false = true then sm_wI (w4 m s.2.1 3) 130 s.2.1 (iI (2 * (v : Int) - 1)) else tieM (tieM (sm_wI (w4 m s.2.1 3) 130 s.2.1 (iI (2 * (v : Int) - 1))) 128 (4 * s.2.1 - 3) (4 * s.2.1)) 128 (4 * s.2.1 - 1) (4 * s.2.1 + 2)) 109 45 (iI ((s.2.1 + 1 : Nat) : Int))).1 a = m.1 a := by
      intro a h1 h2 h3 h4
      rw [wI_oth h1, if_neg (by decide), tieM_oth h2, tieM_oth h2, wI_oth h4, w4_oth h3]
    refine ⟨?_, ?_, ?_, ?_, ?_, ?_, ?_⟩
    · rw [wI_eq rfl rfl]; rfl
    · rw [wI_ne (by omega), if_neg (by decide), tieM_oth (by decide), tieM_oth (by decide), wI_oth (by decide), w4_oth (by decide)]
      exact c2
    · rw [oth 131 (by decide) (by decide) (by decide) (by decide), oth 132 (by decide) (by decide) (by decide) (by decide), oth 133 (by decide) (by decide) (by decide) (by decide), oth 134 (by decide) (by decide) (by decide) (by decide)]
      exact c3
    · rw [oth 135 (by decide) (by decide) (by decide) (by decide)]
      exact c4
    · rw [wI_oth (by decide)]
      refine tieM_up (tieM_up ?_)
      rw [wI_oth (by decide), w4_oth (by decide)]
      exact c5
    · rw [wI_oth (by decide), if_neg (by decide), tieM_oth (by decide), tieM_oth (by decide), wI_oth (by decide)]
      exact w4_up c6
    · rw [wI_oth (by decide), if_neg (by decide), tieM_oth (by decide), tieM_oth (by decide)]
      refine wI_upS ?_
      rw [w4_oth (by decide)]
      exact c7
  · have oth : ∀ a, a ≠ 109 → a ≠ 128 → a ≠ 129 → a ≠ 130 → (sm_wI (if true = true then sm_wI (w4 m s.2.1 3) 130 s.2.1 (iI (2 * (v : Int) - 1)) else tieM (tieM (sm_wI (w4 m s.2.1 3) 130 s.2.1 (iI (2 * (v : Int) - 1))) 128 (4 * s.2.1 - 3) (4 * s.2.1)) 128 (4 * s.2.1 - 1) (4 * s.2.1 + 2)) 109 45 (iI ((s.2.1 + 1 : Nat) : Int))).1 a = m.1 a := by
      intro a h1 h2 h3 h4
      rw [wI_oth h1, if_pos rfl, wI_oth h4, w4_oth h3]
    refine ⟨?_, ?_, ?_, ?_, ?_, ?_, ?_⟩
    · rw [wI_eq rfl rfl]; rfl
    · rw [wI_ne (by omega), if_pos rfl, wI_oth (by decide), w4_oth (by decide)]
      exact c2
    · rw [oth 131 (by decide) (by decide) (by decide) (by decide), oth 132 (by decide) (by decide) (by decide) (by decide), oth 133 (by decide) (by decide) (by decide) (by decide), oth 134 (by decide) (by decide) (by decide) (by decide)]
      exact c3
    · rw [oth 135 (by decide) (by decide) (by decide) (by decide)]
      exact c4
    · rw [wI_oth (by decide), if_pos rfl, wI_oth (by decide), w4_oth (by decide)]
      exact c5
    · rw [wI_oth (by decide), if_pos rfl, wI_oth (by decide)]
      exact w4_up c6
    · rw [wI_oth (by decide), if_pos rfl]
      refine wI_upS ?_
      rw [w4_oth (by decide)]
      exact c7
end MDR
