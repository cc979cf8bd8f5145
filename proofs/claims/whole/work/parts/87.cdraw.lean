/-! the class draws -/
def dC (m : sm_M) (s : drS) : Prop := m.1 16 10 = iI (s.2.1 : Nat) ∧ m.1 16 13 = iI (s.2.2.1 : Nat) ∧ m.1 16 14 = iI (s.1 : Nat) ∧ (∀ k, k < 4 * s.1 → m.1 20 k = iI (s.2.2.2.1 k : Nat)) ∧ (∀ k, k < s.1 → m.1 21 k = iI (s.2.2.2.2.1 k : Nat)) ∧ (∀ p, s.2.2.2.2.2.1 p ≠ 999 → m.1 18 p = iI (s.2.2.2.2.2.1 p : Nat)) ∧ (∀ b, s.2.2.2.2.2.2.1 b ≠ 0 → m.1 17 b = iI (s.2.2.2.2.2.2.1 b : Nat)) ∧ ∀ b, s.2.2.2.2.2.2.2 b ≠ 9 → m.1 22 b = iI (s.2.2.2.2.2.2.2 b : Nat)
def dCP (a _k : Nat) : Prop := 16 ≤ a ∧ a ≤ 26
theorem wI_oth {m : sm_M} {a i b : Nat} {v : Int32} (h : b ≠ a) : (sm_wI m a i v).1 b = m.1 b := funext fun j => wI_ne (Or.inl h)
theorem wI_up {m : sm_M} {a i v N : Nat} {f : Nat → Nat} (h : ∀ k, k < N → m.1 a k = iI (f k : Nat)) : ∀ k, k < N → (sm_wI m a i (iI (v : Nat))).1 a k = iI (upN f i v k : Nat) := fun k hk => by
  rw [upN_at]
  by_cases hki : k = i
  · rw [wI_eq rfl hki, if_pos hki]
  · rw [wI_ne (Or.inr hki), if_neg hki]; exact h k hk
theorem wI_upN {m : sm_M} {a v N : Nat} {f : Nat → Nat} (h : ∀ k, k < N → m.1 a k = iI (f k : Nat)) : ∀ k, k < N + 1 → (sm_wI m a N (iI (v : Nat))).1 a k = iI (upN f N v k : Nat) := fun k hk => by
  rw [upN_at]
  by_cases hki : k = N
  · rw [wI_eq rfl hki, if_pos hki]
  · rw [wI_ne (Or.inr hki), if_neg hki]; exact h k (by omega)
theorem wI_upU {m : sm_M} {a i v u : Nat} {f : Nat → Nat} (h : ∀ p, f p ≠ u → m.1 a p = iI (f p : Nat)) : ∀ p, upN f i v p ≠ u → (sm_wI m a i (iI (v : Nat))).1 a p = iI (upN f i v p : Nat) := fun p hp => by
  rw [upN_at] at hp ⊢
  by_cases hki : p = i
  · rw [wI_eq rfl hki, if_pos hki]
  · rw [if_neg hki] at hp
    rw [wI_ne (Or.inr hki), if_neg hki]; exact h p hp
def tieM (m : sm_M) (a x y : Nat) : sm_M := sm_wI (sm_wI m a x (iI (y : Nat))) a y (iI (x : Nat))
theorem tieM_oth {m : sm_M} {a x y b : Nat} (h : b ≠ a) : (tieM m a x y).1 b = m.1 b := by rw [tieM, wI_oth h, wI_oth h]
theorem tieM_up {m : sm_M} {a x y : Nat} {f : Nat → Nat} (h : ∀ p, f p ≠ 999 → m.1 a p = iI (f p : Nat)) : ∀ p, tieN f x y p ≠ 999 → (tieM m a x y).1 a p = iI (tieN f x y p : Nat) := wI_upU (wI_upU h)
theorem tieM_fr {P : Nat → Nat → Prop} {m0 m : sm_M} {a x y : Nat} (h : fr P m0 m) (hp : ∀ k, P a k) : fr P m0 (tieM m a x y) := (h.wI (hp _)).wI (hp _)
section DRW
variable {E : sm_E} {L : sm_S → Prop} {d : Nat} {m : sm_M}
theorem c_tie {Q : sm_M → Prop} {x y : Nat} (hly : ∀ S, L S → ly S) (hd : 1 ≤ d) (hx : x < 192) (hy : y < 192) (h : Q (tieM m 18 x y)) : sm_callV E L mX2_tie d 0 0 [.ref (sm_B E + 16), .int (iI (x : Nat)), .int (iI (y : Nat))] m Q := by
  refine vX2_tie_0 hly hd ?_
  simp (disch := omega) only [forall_eq, true_and, and_true, false_and, and_false, forall_const, true_implies, implies_true, not_true_eq_false, not_false_eq_true, false_implies, if_true, if_false, ↓reduceIte, Int.toNat_natCast, Int.reduceEq, Int.reduceNe, Int.reduceLT, Int.reduceLE, Int.reduceToNat, Int.reduceAdd, Int.reduceSub, Int.reduceMul, Int.reduceNeg, Nat.reduceAdd, Nat.reduceMul, Nat.reduceSub, iI_lit, jI_lit, iI_add, iI_sub, iI_mul, iI_neg, jI_add, jI_sub, jI_mul, jI_neg, nI_i, lN_j, iI_le, iI_lt, iI_eq, jI_le, jI_lt, jI_eq, iI_in, iI_cl, iI_j, jI_i, cN, inN, wI_eq, wI_ne, wJ_1, wJ_eq, wJ_ne, wI_2, wJ_3, iI_div, iI_rem, jI_div, jI_rem, true_or, or_true, false_or, or_false, eq_self, Nat.add_zero]
  exact ⟨by omega, by omega, h⟩
theorem c_setEnds {Q : sm_M → Prop} {w x g : Nat} (hly : ∀ S, L S → ly S) (hd : 1 ≤ d) (hg : m.1 16 14 = iI (g : Nat)) (hh : g < 24) (hw : w < 48) (hx : x < 48) (h : Q (sm_wI (sm_wI (sm_wI (sm_wI m 20 (4 * g) (iI ((4 * w : Nat) : Int))) 20 (4 * g + 2) (iI ((4 * w + 2 : Nat) : Int))) 20 (4 * g + 1) (iI ((4 * x + 1 : Nat) : Int))) 20 (4 * g + 3) (iI ((4 * x + 3 : Nat) : Int)))) : sm_callV E L mX2_setEnds d 0 0 [.ref (sm_B E + 16), .int (iI (w : Nat)), .int (iI (x : Nat))] m Q := by
  refine vX2_setEnds_0 hly hd ?_
  have e0 : (4 * (g : Int) + 0).toNat = 4 * g := by omega
  have e1 : (4 * (g : Int) + 1).toNat = 4 * g + 1 := by omega
  have e2 : (4 * (g : Int) + 2).toNat = 4 * g + 2 := by omega
  have e3 : (4 * (g : Int) + 3).toNat = 4 * g + 3 := by omega
  have f0 : 4 * (w : Int) + 0 = ((4 * w : Nat) : Int) := by omega
  have f2 : 4 * (w : Int) + 2 = ((4 * w + 2 : Nat) : Int) := by omega
  have f1 : 4 * (x : Int) + 1 = ((4 * x + 1 : Nat) : Int) := by omega
  have f3 : 4 * (x : Int) + 3 = ((4 * x + 3 : Nat) : Int) := by omega
  simp (disch := omega) only [forall_eq, true_and, and_true, false_and, and_false, forall_const, true_implies, implies_true, not_true_eq_false, not_false_eq_true, false_implies, if_true, if_false, ↓reduceIte, Int.toNat_natCast, Int.reduceEq, Int.reduceNe, Int.reduceLT, Int.reduceLE, Int.reduceToNat, Int.reduceAdd, Int.reduceSub, Int.reduceMul, Int.reduceNeg, Nat.reduceAdd, Nat.reduceMul, Nat.reduceSub, iI_lit, jI_lit, iI_add, iI_sub, iI_mul, iI_neg, jI_add, jI_sub, jI_mul, jI_neg, nI_i, lN_j, iI_le, iI_lt, iI_eq, jI_le, jI_lt, jI_eq, iI_in, iI_cl, iI_j, jI_i, cN, inN, wI_eq, wI_ne, wJ_1, wJ_eq, wJ_ne, wI_2, wJ_3, iI_div, iI_rem, jI_div, jI_rem, true_or, or_true, false_or, or_false, eq_self, Nat.add_zero, hg, e0, e1, e2, e3, f0, f1, f2, f3]
  exact ⟨by omega, by omega, by omega, by omega, h⟩
theorem c_beside {Q : sm_M → Prop} {s : drS} (hly : ∀ S, L S → ly S) (hd : 2 ≤ d) (hs : 2 ≤ s.1) (hI : dI s) (hC : dC m s) (h : ∀ m', fr dCP m m' → dC m' (drSum s) → Q m') : sm_callV E L mX2_placeBeside d 0 0 [.ref (sm_B E + 16)] m Q := by
  obtain ⟨c1, c2, c3, c4, c5, c6, c7, c8⟩ := hC
  obtain ⟨g, hg⟩ : ∃ g, s.1 = g + 2 := ⟨s.1 - 2, by omega⟩
  have hb := hI.2.2.1
  have lt : ∀ k, k < 4 * s.1 → s.2.2.2.1 k < 192 := fun k hk => dD_lt (hI.end_lt hk) hI.1 hI.2.1
  have l1 := lt (4 * g + 1) (by omega)
  have l3 := lt (4 * g + 3) (by omega)
  have l4 := lt (4 * g + 4) (by omega)
  have l6 := lt (4 * g + 6) (by omega)
  have v1 := c4 (4 * g + 1) (by omega)
  have v3 := c4 (4 * g + 3) (by omega)
  have v4 := c4 (4 * g + 4) (by omega)
  have v5 := c4 (4 * g + 5) (by omega)
  have v6 := c4 (4 * g + 6) (by omega)
  have v7 := c4 (4 * g + 7) (by omega)
  have c3' : m.1 16 14 = iI ((g : Int) + 2) := by rw [c3, hg]; congr 1
  have e1 : (4 * ((g : Int) + 2 - 2) + 1).toNat = 4 * g + 1 := by omega
  have e3 : (4 * ((g : Int) + 2 - 2) + 3).toNat = 4 * g + 3 := by omega
  have e4 : (4 * ((g : Int) + 2 - 2) + 4 + 0).toNat = 4 * g + 4 := by omega
  have e5 : (4 * ((g : Int) + 2 - 2) + 4 + 1).toNat = 4 * g + 5 := by omega
  have e6 : (4 * ((g : Int) + 2 - 2) + 4 + 2).toNat = 4 * g + 6 := by omega
  have e7 : (4 * ((g : Int) + 2 - 2) + 4 + 3).toNat = 4 * g + 7 := by omega
  refine vX2_placeBeside_0 hly hd ?_
  simp (disch := omega) only [forall_eq, true_and, and_true, false_and, and_false, forall_const, true_implies, implies_true, not_true_eq_false, not_false_eq_true, false_implies, if_true, if_false, ↓reduceIte, Int.toNat_natCast, Int.reduceEq, Int.reduceNe, Int.reduceLT, Int.reduceLE, Int.reduceToNat, Int.reduceAdd, Int.reduceSub, Int.reduceMul, Int.reduceNeg, Nat.reduceAdd, Nat.reduceMul, Nat.reduceSub, iI_lit, jI_lit, iI_add, iI_sub, iI_mul, iI_neg, jI_add, jI_sub, jI_mul, jI_neg, nI_i, lN_j, iI_le, iI_lt, iI_eq, jI_le, jI_lt, jI_eq, iI_in, iI_cl, iI_j, jI_i, cN, inN, wI_eq, wI_ne, wJ_1, wJ_eq, wJ_ne, wI_2, wJ_3, iI_div, iI_rem, jI_div, jI_rem, true_or, or_true, false_or, or_false, eq_self, Nat.add_zero, c3', e1, e3, e4, e5, e6, e7, v1, v4]
  refine ⟨fun _ => ⟨by omega, by omega, c_tie hly (by omega) l1 l4 ?_⟩, fun hc => by omega⟩
  simp (disch := omega) only [forall_eq, true_and, and_true, false_and, and_false, forall_const, true_implies, implies_true, not_true_eq_false, not_false_eq_true, false_implies, if_true, if_false, ↓reduceIte, Int.toNat_natCast, Int.reduceEq, Int.reduceNe, Int.reduceLT, Int.reduceLE, Int.reduceToNat, Int.reduceAdd, Int.reduceSub, Int.reduceMul, Int.reduceNeg, Nat.reduceAdd, Nat.reduceMul, Nat.reduceSub, iI_lit, jI_lit, iI_add, iI_sub, iI_mul, iI_neg, jI_add, jI_sub, jI_mul, jI_neg, nI_i, lN_j, iI_le, iI_lt, iI_eq, jI_le, jI_lt, jI_eq, iI_in, iI_cl, iI_j, jI_i, cN, inN, wI_eq, wI_ne, wJ_1, wJ_eq, wJ_ne, wI_2, wJ_3, iI_div, iI_rem, jI_div, jI_rem, true_or, or_true, false_or, or_false, eq_self, Nat.add_zero, tieM_oth, v3, v6]
  refine ⟨by omega, by omega, c_tie hly (by omega) l3 l6 ?_⟩
  simp (disch := omega) only [forall_eq, true_and, and_true, false_and, and_false, forall_const, true_implies, implies_true, not_true_eq_false, not_false_eq_true, false_implies, if_true, if_false, ↓reduceIte, Int.toNat_natCast, Int.reduceEq, Int.reduceNe, Int.reduceLT, Int.reduceLE, Int.reduceToNat, Int.reduceAdd, Int.reduceSub, Int.reduceMul, Int.reduceNeg, Nat.reduceAdd, Nat.reduceMul, Nat.reduceSub, iI_lit, jI_lit, iI_add, iI_sub, iI_mul, iI_neg, jI_add, jI_sub, jI_mul, jI_neg, nI_i, lN_j, iI_le, iI_lt, iI_eq, jI_le, jI_lt, jI_eq, iI_in, iI_cl, iI_j, jI_i, cN, inN, wI_eq, wI_ne, wJ_1, wJ_eq, wJ_ne, wI_2, wJ_3, iI_div, iI_rem, jI_div, jI_rem, true_or, or_true, false_or, or_false, eq_self, Nat.add_zero, tieM_oth, v5, v7, c3']
  refine ⟨by omega, by omega, by omega, by omega, ?_⟩
  have eh : (g : Int) + 2 - 1 = ((g + 1 : Nat) : Int) := by omega
  rw [eh]
  have x1 : 4 * (s.1 - 2) = 4 * g := by omega
  have x2 : 4 * (s.1 - 1) = 4 * g + 4 := by omega
  have xs : drSum s = (g + 1, s.2.1, s.2.2.1, upN (upN s.2.2.2.1 (4 * g + 1) (s.2.2.2.1 (4 * g + 5))) (4 * g + 3) (s.2.2.2.1 (4 * g + 7)), s.2.2.2.2.1, tieN (tieN s.2.2.2.2.2.1 (s.2.2.2.1 (4 * g + 1)) (s.2.2.2.1 (4 * g + 4))) (s.2.2.2.1 (4 * g + 3)) (s.2.2.2.1 (4 * g + 6)), s.2.2.2.2.2.2) := by
    unfold drSum
    rw [x1, x2, show s.1 - 1 = g + 1 by omega]
  rw [xs] at h
  refine h _ ?_ ⟨?_, ?_, ?_, ?_, ?_, ?_, ?_, ?_⟩
  · exact (((tieM_fr (tieM_fr fr.rf (fun k => ⟨by decide, by decide⟩)) (fun k => ⟨by decide, by decide⟩)).wI ⟨by decide, by decide⟩).wI ⟨by decide, by decide⟩).wI ⟨by decide, by decide⟩
  · simp (disch := omega) only [forall_eq, true_and, and_true, false_and, and_false, forall_const, true_implies, implies_true, not_true_eq_false, not_false_eq_true, false_implies, if_true, if_false, ↓reduceIte, Int.toNat_natCast, Int.reduceEq, Int.reduceNe, Int.reduceLT, Int.reduceLE, Int.reduceToNat, Int.reduceAdd, Int.reduceSub, Int.reduceMul, Int.reduceNeg, Nat.reduceAdd, Nat.reduceMul, Nat.reduceSub, iI_lit, jI_lit, iI_add, iI_sub, iI_mul, iI_neg, jI_add, jI_sub, jI_mul, jI_neg, nI_i, lN_j, iI_le, iI_lt, iI_eq, jI_le, jI_lt, jI_eq, iI_in, iI_cl, iI_j, jI_i, cN, inN, wI_eq, wI_ne, wJ_1, wJ_eq, wJ_ne, wI_2, wJ_3, iI_div, iI_rem, jI_div, jI_rem, true_or, or_true, false_or, or_false, eq_self, Nat.add_zero, tieM_oth, c1]
  · simp (disch := omega) only [forall_eq, true_and, and_true, false_and, and_false, forall_const, true_implies, implies_true, not_true_eq_false, not_false_eq_true, false_implies, if_true, if_false, ↓reduceIte, Int.toNat_natCast, Int.reduceEq, Int.reduceNe, Int.reduceLT, Int.reduceLE, Int.reduceToNat, Int.reduceAdd, Int.reduceSub, Int.reduceMul, Int.reduceNeg, Nat.reduceAdd, Nat.reduceMul, Nat.reduceSub, iI_lit, jI_lit, iI_add, iI_sub, iI_mul, iI_neg, jI_add, jI_sub, jI_mul, jI_neg, nI_i, lN_j, iI_le, iI_lt, iI_eq, jI_le, jI_lt, jI_eq, iI_in, iI_cl, iI_j, jI_i, cN, inN, wI_eq, wI_ne, wJ_1, wJ_eq, wJ_ne, wI_2, wJ_3, iI_div, iI_rem, jI_div, jI_rem, true_or, or_true, false_or, or_false, eq_self, Nat.add_zero, tieM_oth, c2]
  · simp (disch := omega) only [forall_eq, true_and, and_true, false_and, and_false, forall_const, true_implies, implies_true, not_true_eq_false, not_false_eq_true, false_implies, if_true, if_false, ↓reduceIte, Int.toNat_natCast, Int.reduceEq, Int.reduceNe, Int.reduceLT, Int.reduceLE, Int.reduceToNat, Int.reduceAdd, Int.reduceSub, Int.reduceMul, Int.reduceNeg, Nat.reduceAdd, Nat.reduceMul, Nat.reduceSub, iI_lit, jI_lit, iI_add, iI_sub, iI_mul, iI_neg, jI_add, jI_sub, jI_mul, jI_neg, nI_i, lN_j, iI_le, iI_lt, iI_eq, jI_le, jI_lt, jI_eq, iI_in, iI_cl, iI_j, jI_i, cN, inN, wI_eq, wI_ne, wJ_1, wJ_eq, wJ_ne, wI_2, wJ_3, iI_div, iI_rem, jI_div, jI_rem, true_or, or_true, false_or, or_false, eq_self, Nat.add_zero]
  · rw [wI_oth (by decide)]
    refine wI_up (wI_up (fun k hk => ?_))
    rw [tieM_oth (by decide), tieM_oth (by decide)]
    have hk2 : k < 4 * (g + 1) := hk
    exact c4 k (by omega)
  · intro k hk
    have hk2 : k < g + 1 := hk
    rw [wI_oth (by decide), wI_oth (by decide), wI_oth (by decide), tieM_oth (by decide), tieM_oth (by decide)]
    exact c5 k (by omega)
  · rw [wI_oth (by decide), wI_oth (by decide), wI_oth (by decide)]
    exact tieM_up (tieM_up c6)
  · intro b hb
    rw [wI_oth (by decide), wI_oth (by decide), wI_oth (by decide), tieM_oth (by decide), tieM_oth (by decide)]
    exact c7 b hb
  · intro b hb
    rw [wI_oth (by decide), wI_oth (by decide), wI_oth (by decide), tieM_oth (by decide), tieM_oth (by decide)]
    exact c8 b hb
theorem c_below {Q : sm_M → Prop} {s : drS} (hly : ∀ S, L S → ly S) (hd : 2 ≤ d) (hs : 2 ≤ s.1) (hI : dI s) (hC : dC m s) (h : ∀ m', fr dCP m m' → dC m' (drStk s) → Q m') : sm_callV E L mX2_placeBelow d 0 0 [.ref (sm_B E + 16)] m Q := by
  obtain ⟨c1, c2, c3, c4, c5, c6, c7, c8⟩ := hC
  obtain ⟨g, hg⟩ : ∃ g, s.1 = g + 2 := ⟨s.1 - 2, by omega⟩
  have hb := hI.2.2.1
  have lt : ∀ k, k < 4 * s.1 → s.2.2.2.1 k < 192 := fun k hk => dD_lt (hI.end_lt hk) hI.1 hI.2.1
  have l1 := lt (4 * g + 2) (by omega)
  have l3 := lt (4 * g + 3) (by omega)
  have l4 := lt (4 * g + 4) (by omega)
  have l6 := lt (4 * g + 5) (by omega)
  have v1 := c4 (4 * g + 2) (by omega)
  have v3 := c4 (4 * g + 3) (by omega)
  have v4 := c4 (4 * g + 4) (by omega)
  have v5 := c4 (4 * g + 5) (by omega)
  have v6 := c4 (4 * g + 6) (by omega)
  have v7 := c4 (4 * g + 7) (by omega)
  have c3' : m.1 16 14 = iI ((g : Int) + 2) := by rw [c3, hg]; congr 1
  have e1 : (4 * ((g : Int) + 2 - 2) + 2).toNat = 4 * g + 2 := by omega
  have e3 : (4 * ((g : Int) + 2 - 2) + 3).toNat = 4 * g + 3 := by omega
  have e4 : (4 * ((g : Int) + 2 - 2) + 4 + 0).toNat = 4 * g + 4 := by omega
  have e5 : (4 * ((g : Int) + 2 - 2) + 4 + 1).toNat = 4 * g + 5 := by omega
  have e6 : (4 * ((g : Int) + 2 - 2) + 4 + 2).toNat = 4 * g + 6 := by omega
  have e7 : (4 * ((g : Int) + 2 - 2) + 4 + 3).toNat = 4 * g + 7 := by omega
  refine vX2_placeBelow_0 hly hd ?_
  simp (disch := omega) only [forall_eq, true_and, and_true, false_and, and_false, forall_const, true_implies, implies_true, not_true_eq_false, not_false_eq_true, false_implies, if_true, if_false, ↓reduceIte, Int.toNat_natCast, Int.reduceEq, Int.reduceNe, Int.reduceLT, Int.reduceLE, Int.reduceToNat, Int.reduceAdd, Int.reduceSub, Int.reduceMul, Int.reduceNeg, Nat.reduceAdd, Nat.reduceMul, Nat.reduceSub, iI_lit, jI_lit, iI_add, iI_sub, iI_mul, iI_neg, jI_add, jI_sub, jI_mul, jI_neg, nI_i, lN_j, iI_le, iI_lt, iI_eq, jI_le, jI_lt, jI_eq, iI_in, iI_cl, iI_j, jI_i, cN, inN, wI_eq, wI_ne, wJ_1, wJ_eq, wJ_ne, wI_2, wJ_3, iI_div, iI_rem, jI_div, jI_rem, true_or, or_true, false_or, or_false, eq_self, Nat.add_zero, c3', e1, e3, e4, e5, e6, e7, v1, v4]
  refine ⟨fun _ => ⟨by omega, by omega, c_tie hly (by omega) l1 l4 ?_⟩, fun hc => by omega⟩
  simp (disch := omega) only [forall_eq, true_and, and_true, false_and, and_false, forall_const, true_implies, implies_true, not_true_eq_false, not_false_eq_true, false_implies, if_true, if_false, ↓reduceIte, Int.toNat_natCast, Int.reduceEq, Int.reduceNe, Int.reduceLT, Int.reduceLE, Int.reduceToNat, Int.reduceAdd, Int.reduceSub, Int.reduceMul, Int.reduceNeg, Nat.reduceAdd, Nat.reduceMul, Nat.reduceSub, iI_lit, jI_lit, iI_add, iI_sub, iI_mul, iI_neg, jI_add, jI_sub, jI_mul, jI_neg, nI_i, lN_j, iI_le, iI_lt, iI_eq, jI_le, jI_lt, jI_eq, iI_in, iI_cl, iI_j, jI_i, cN, inN, wI_eq, wI_ne, wJ_1, wJ_eq, wJ_ne, wI_2, wJ_3, iI_div, iI_rem, jI_div, jI_rem, true_or, or_true, false_or, or_false, eq_self, Nat.add_zero, tieM_oth, v3, v5]
  refine ⟨by omega, by omega, c_tie hly (by omega) l3 l6 ?_⟩
  simp (disch := omega) only [forall_eq, true_and, and_true, false_and, and_false, forall_const, true_implies, implies_true, not_true_eq_false, not_false_eq_true, false_implies, if_true, if_false, ↓reduceIte, Int.toNat_natCast, Int.reduceEq, Int.reduceNe, Int.reduceLT, Int.reduceLE, Int.reduceToNat, Int.reduceAdd, Int.reduceSub, Int.reduceMul, Int.reduceNeg, Nat.reduceAdd, Nat.reduceMul, Nat.reduceSub, iI_lit, jI_lit, iI_add, iI_sub, iI_mul, iI_neg, jI_add, jI_sub, jI_mul, jI_neg, nI_i, lN_j, iI_le, iI_lt, iI_eq, jI_le, jI_lt, jI_eq, iI_in, iI_cl, iI_j, jI_i, cN, inN, wI_eq, wI_ne, wJ_1, wJ_eq, wJ_ne, wI_2, wJ_3, iI_div, iI_rem, jI_div, jI_rem, true_or, or_true, false_or, or_false, eq_self, Nat.add_zero, tieM_oth, v6, v7, c3']
  refine ⟨by omega, by omega, by omega, by omega, ?_⟩
  have eh : (g : Int) + 2 - 1 = ((g + 1 : Nat) : Int) := by omega
  rw [eh]
  have x1 : 4 * (s.1 - 2) = 4 * g := by omega
  have x2 : 4 * (s.1 - 1) = 4 * g + 4 := by omega
  have xs : drStk s = (g + 1, s.2.1, s.2.2.1, upN (upN s.2.2.2.1 (4 * g + 2) (s.2.2.2.1 (4 * g + 6))) (4 * g + 3) (s.2.2.2.1 (4 * g + 7)), s.2.2.2.2.1, tieN (tieN s.2.2.2.2.2.1 (s.2.2.2.1 (4 * g + 2)) (s.2.2.2.1 (4 * g + 4))) (s.2.2.2.1 (4 * g + 3)) (s.2.2.2.1 (4 * g + 5)), s.2.2.2.2.2.2) := by
    unfold drStk
    rw [x1, x2, show s.1 - 1 = g + 1 by omega]
  rw [xs] at h
  refine h _ ?_ ⟨?_, ?_, ?_, ?_, ?_, ?_, ?_, ?_⟩
  · exact (((tieM_fr (tieM_fr fr.rf (fun k => ⟨by decide, by decide⟩)) (fun k => ⟨by decide, by decide⟩)).wI ⟨by decide, by decide⟩).wI ⟨by decide, by decide⟩).wI ⟨by decide, by decide⟩
  · simp (disch := omega) only [forall_eq, true_and, and_true, false_and, and_false, forall_const, true_implies, implies_true, not_true_eq_false, not_false_eq_true, false_implies, if_true, if_false, ↓reduceIte, Int.toNat_natCast, Int.reduceEq, Int.reduceNe, Int.reduceLT, Int.reduceLE, Int.reduceToNat, Int.reduceAdd, Int.reduceSub, Int.reduceMul, Int.reduceNeg, Nat.reduceAdd, Nat.reduceMul, Nat.reduceSub, iI_lit, jI_lit, iI_add, iI_sub, iI_mul, iI_neg, jI_add, jI_sub, jI_mul, jI_neg, nI_i, lN_j, iI_le, iI_lt, iI_eq, jI_le, jI_lt, jI_eq, iI_in, iI_cl, iI_j, jI_i, cN, inN, wI_eq, wI_ne, wJ_1, wJ_eq, wJ_ne, wI_2, wJ_3, iI_div, iI_rem, jI_div, jI_rem, true_or, or_true, false_or, or_false, eq_self, Nat.add_zero, tieM_oth, c1]
  · simp (disch := omega) only [forall_eq, true_and, and_true, false_and, and_false, forall_const, true_implies, implies_true, not_true_eq_false, not_false_eq_true, false_implies, if_true, if_false, ↓reduceIte, Int.toNat_natCast, Int.reduceEq, Int.reduceNe, Int.reduceLT, Int.reduceLE, Int.reduceToNat, Int.reduceAdd, Int.reduceSub, Int.reduceMul, Int.reduceNeg, Nat.reduceAdd, Nat.reduceMul, Nat.reduceSub, iI_lit, jI_lit, iI_add, iI_sub, iI_mul, iI_neg, jI_add, jI_sub, jI_mul, jI_neg, nI_i, lN_j, iI_le, iI_lt, iI_eq, jI_le, jI_lt, jI_eq, iI_in, iI_cl, iI_j, jI_i, cN, inN, wI_eq, wI_ne, wJ_1, wJ_eq, wJ_ne, wI_2, wJ_3, iI_div, iI_rem, jI_div, jI_rem, true_or, or_true, false_or, or_false, eq_self, Nat.add_zero, tieM_oth, c2]
  · simp (disch := omega) only [forall_eq, true_and, and_true, false_and, and_false, forall_const, true_implies, implies_true, not_true_eq_false, not_false_eq_true, false_implies, if_true, if_false, ↓reduceIte, Int.toNat_natCast, Int.reduceEq, Int.reduceNe, Int.reduceLT, Int.reduceLE, Int.reduceToNat, Int.reduceAdd, Int.reduceSub, Int.reduceMul, Int.reduceNeg, Nat.reduceAdd, Nat.reduceMul, Nat.reduceSub, iI_lit, jI_lit, iI_add, iI_sub, iI_mul, iI_neg, jI_add, jI_sub, jI_mul, jI_neg, nI_i, lN_j, iI_le, iI_lt, iI_eq, jI_le, jI_lt, jI_eq, iI_in, iI_cl, iI_j, jI_i, cN, inN, wI_eq, wI_ne, wJ_1, wJ_eq, wJ_ne, wI_2, wJ_3, iI_div, iI_rem, jI_div, jI_rem, true_or, or_true, false_or, or_false, eq_self, Nat.add_zero]
  · rw [wI_oth (by decide)]
    refine wI_up (wI_up (fun k hk => ?_))
    rw [tieM_oth (by decide), tieM_oth (by decide)]
    have hk2 : k < 4 * (g + 1) := hk
    exact c4 k (by omega)
  · intro k hk
    have hk2 : k < g + 1 := hk
    rw [wI_oth (by decide), wI_oth (by decide), wI_oth (by decide), tieM_oth (by decide), tieM_oth (by decide)]
    exact c5 k (by omega)
  · rw [wI_oth (by decide), wI_oth (by decide), wI_oth (by decide)]
    exact tieM_up (tieM_up c6)
  · intro b hb
    rw [wI_oth (by decide), wI_oth (by decide), wI_oth (by decide), tieM_oth (by decide), tieM_oth (by decide)]
    exact c7 b hb
  · intro b hb
    rw [wI_oth (by decide), wI_oth (by decide), wI_oth (by decide), tieM_oth (by decide), tieM_oth (by decide)]
    exact c8 b hb
theorem c_turnEnds {Q : sm_M → Prop} {s : drS} (hly : ∀ S, L S → ly S) (hd : 1 ≤ d) (hs : 1 ≤ s.1) (hI : dI s) (hC : dC m s) (h : ∀ m', fr dCP m m' → dC m' (drTurn s) → Q m') : sm_callV E L mX2_turnEnds d 0 0 [.ref (sm_B E + 16)] m Q := by
  obtain ⟨c1, c2, c3, c4, c5, c6, c7, c8⟩ := hC
  obtain ⟨g, hg⟩ : ∃ g, s.1 = g + 1 := ⟨s.1 - 1, by omega⟩
  have hb := hI.2.2.1
  have v0 := c4 (4 * g) (by omega)
  have v1 := c4 (4 * g + 1) (by omega)
  have v2 := c4 (4 * g + 2) (by omega)
  have v3 := c4 (4 * g + 3) (by omega)
  have c3' : m.1 16 14 = iI ((g : Int) + 1) := by rw [c3, hg]; congr 1
  have e0 : (4 * ((g : Int) + 1 - 1) + 0).toNat = 4 * g := by omega
  have e1 : (4 * ((g : Int) + 1 - 1) + 1).toNat = 4 * g + 1 := by omega
  have e2 : (4 * ((g : Int) + 1 - 1) + 2).toNat = 4 * g + 2 := by omega
  have e3 : (4 * ((g : Int) + 1 - 1) + 3).toNat = 4 * g + 3 := by omega
  refine vX2_turnEnds_0 hly hd ?_
  simp (disch := omega) only [forall_eq, true_and, and_true, false_and, and_false, forall_const, true_implies, implies_true, not_true_eq_false, not_false_eq_true, false_implies, if_true, if_false, ↓reduceIte, Int.toNat_natCast, Int.reduceEq, Int.reduceNe, Int.reduceLT, Int.reduceLE, Int.reduceToNat, Int.reduceAdd, Int.reduceSub, Int.reduceMul, Int.reduceNeg, Nat.reduceAdd, Nat.reduceMul, Nat.reduceSub, iI_lit, jI_lit, iI_add, iI_sub, iI_mul, iI_neg, jI_add, jI_sub, jI_mul, jI_neg, nI_i, lN_j, iI_le, iI_lt, iI_eq, jI_le, jI_lt, jI_eq, iI_in, iI_cl, iI_j, jI_i, cN, inN, wI_eq, wI_ne, wJ_1, wJ_eq, wJ_ne, wI_2, wJ_3, iI_div, iI_rem, jI_div, jI_rem, true_or, or_true, false_or, or_false, eq_self, Nat.add_zero, c3', e0, e1, e2, e3, v0, v1, v2, v3]
  refine ⟨fun _ => ⟨by omega, by omega, by omega, by omega, by omega, by omega, by omega, by omega, ?_⟩, fun hc => by omega⟩
  have x1 : 4 * (s.1 - 1) = 4 * g := by omega
  have xs : drTurn s = (s.1, s.2.1, s.2.2.1, upN (upN (upN (upN s.2.2.2.1 (4 * g) (s.2.2.2.1 (4 * g + 1))) (4 * g + 1) (s.2.2.2.1 (4 * g + 3))) (4 * g + 3) (s.2.2.2.1 (4 * g + 2))) (4 * g + 2) (s.2.2.2.1 (4 * g)), s.2.2.2.2) := by
    unfold drTurn
    rw [x1]
  rw [xs] at h
  refine h _ ?_ ⟨?_, ?_, ?_, ?_, ?_, ?_, ?_, ?_⟩
  · exact (((fr.rf.wI ⟨by decide, by decide⟩).wI ⟨by decide, by decide⟩).wI ⟨by decide, by decide⟩).wI ⟨by decide, by decide⟩
  · simp (disch := omega) only [forall_eq, true_and, and_true, false_and, and_false, forall_const, true_implies, implies_true, not_true_eq_false, not_false_eq_true, false_implies, if_true, if_false, ↓reduceIte, Int.toNat_natCast, Int.reduceEq, Int.reduceNe, Int.reduceLT, Int.reduceLE, Int.reduceToNat, Int.reduceAdd, Int.reduceSub, Int.reduceMul, Int.reduceNeg, Nat.reduceAdd, Nat.reduceMul, Nat.reduceSub, iI_lit, jI_lit, iI_add, iI_sub, iI_mul, iI_neg, jI_add, jI_sub, jI_mul, jI_neg, nI_i, lN_j, iI_le, iI_lt, iI_eq, jI_le, jI_lt, jI_eq, iI_in, iI_cl, iI_j, jI_i, cN, inN, wI_eq, wI_ne, wJ_1, wJ_eq, wJ_ne, wI_2, wJ_3, iI_div, iI_rem, jI_div, jI_rem, true_or, or_true, false_or, or_false, eq_self, Nat.add_zero, c1]
  · simp (disch := omega) only [forall_eq, true_and, and_true, false_and, and_false, forall_const, true_implies, implies_true, not_true_eq_false, not_false_eq_true, false_implies, if_true, if_false, ↓reduceIte, Int.toNat_natCast, Int.reduceEq, Int.reduceNe, Int.reduceLT, Int.reduceLE, Int.reduceToNat, Int.reduceAdd, Int.reduceSub, Int.reduceMul, Int.reduceNeg, Nat.reduceAdd, Nat.reduceMul, Nat.reduceSub, iI_lit, jI_lit, iI_add, iI_sub, iI_mul, iI_neg, jI_add, jI_sub, jI_mul, jI_neg, nI_i, lN_j, iI_le, iI_lt, iI_eq, jI_le, jI_lt, jI_eq, iI_in, iI_cl, iI_j, jI_i, cN, inN, wI_eq, wI_ne, wJ_1, wJ_eq, wJ_ne, wI_2, wJ_3, iI_div, iI_rem, jI_div, jI_rem, true_or, or_true, false_or, or_false, eq_self, Nat.add_zero, c2]
  · simp (disch := omega) only [forall_eq, true_and, and_true, false_and, and_false, forall_const, true_implies, implies_true, not_true_eq_false, not_false_eq_true, false_implies, if_true, if_false, ↓reduceIte, Int.toNat_natCast, Int.reduceEq, Int.reduceNe, Int.reduceLT, Int.reduceLE, Int.reduceToNat, Int.reduceAdd, Int.reduceSub, Int.reduceMul, Int.reduceNeg, Nat.reduceAdd, Nat.reduceMul, Nat.reduceSub, iI_lit, jI_lit, iI_add, iI_sub, iI_mul, iI_neg, jI_add, jI_sub, jI_mul, jI_neg, nI_i, lN_j, iI_le, iI_lt, iI_eq, jI_le, jI_lt, jI_eq, iI_in, iI_cl, iI_j, jI_i, cN, inN, wI_eq, wI_ne, wJ_1, wJ_eq, wJ_ne, wI_2, wJ_3, iI_div, iI_rem, jI_div, jI_rem, true_or, or_true, false_or, or_false, eq_self, Nat.add_zero, c3]
  · exact wI_up (wI_up (wI_up (wI_up c4)))
  · intro k hk
    rw [wI_oth (by decide), wI_oth (by decide), wI_oth (by decide), wI_oth (by decide)]
    exact c5 k hk
  · intro k hk
    rw [wI_oth (by decide), wI_oth (by decide), wI_oth (by decide), wI_oth (by decide)]
    exact c6 k hk
  · intro k hk
    rw [wI_oth (by decide), wI_oth (by decide), wI_oth (by decide), wI_oth (by decide)]
    exact c7 k hk
  · intro k hk
    rw [wI_oth (by decide), wI_oth (by decide), wI_oth (by decide), wI_oth (by decide)]
    exact c8 k hk
end DRW
