/-! both draw a tangle -/
theorem dM.tie {m : sm_M} {s s' : drS} {g x1 y1 x2 y2 : Nat} {m' : sm_M} (hC : dM m s) (h1 : s'.1 = g) (h1' : g ≤ s.1) (h2 : s'.2.1 = s.2.1) (h3 : s'.2.2.1 = s.2.2.1) (h4 : ∀ k, k < g → m'.1 131 k = iI (s'.2.2.2.1 (4 * k) : Nat) ∧ m'.1 132 k = iI (s'.2.2.2.1 (4 * k + 1) : Nat) ∧ m'.1 133 k = iI (s'.2.2.2.1 (4 * k + 2) : Nat) ∧ m'.1 134 k = iI (s'.2.2.2.1 (4 * k + 3) : Nat)) (h5 : s'.2.2.2.2.1 = s.2.2.2.2.1) (h6 : s'.2.2.2.2.2.1 = tieN (tieN s.2.2.2.2.2.1 x1 y1) x2 y2) (h7 : s'.2.2.2.2.2.2 = s.2.2.2.2.2.2) (oth : ∀ a, a ≠ 131 → a ≠ 132 → a ≠ 133 → a ≠ 134 → m'.1 a = (tieM (tieM m 128 x1 y1) 128 x2 y2).1 a) : dM m' s' := by
  obtain ⟨c1, c2, c3, c4, c5, c6, c7⟩ := hC
  have o2 : ∀ a, a ≠ 128 → a ≠ 131 → a ≠ 132 → a ≠ 133 → a ≠ 134 → m'.1 a = m.1 a := fun a q0 q1 q2 q3 q4 => by rw [oth a q1 q2 q3 q4, tieM_oth q0, tieM_oth q0]
  unfold dM
  rw [h1, h2, h3, h5, h6, h7, o2 109 (by decide) (by decide) (by decide) (by decide) (by decide), o2 135 (by decide) (by decide) (by decide) (by decide) (by decide), oth 128 (by decide) (by decide) (by decide) (by decide), o2 129 (by decide) (by decide) (by decide) (by decide) (by decide), o2 130 (by decide) (by decide) (by decide) (by decide) (by decide)]
  exact ⟨c1, c2, h4, fun k hk => c4 k (by omega), tieM_up (tieM_up c5), c6, c7⟩
section LAY
variable {E : sm_E} {L : sm_S → Prop} {d : Nat}
theorem c12_turns {Q : sm_M → Prop} {m : sm_M} {s : drS} {g : Nat} (hly : ∀ S, L S → ly S) (hd : 1 ≤ d) (hg : s.1 = g + 1) (hI : dI s) (hC : dM m s) (h : ∀ m', fr dMP m m' → dM m' (drTurn s) → Q m') : sm_callV E L mX12_turns d 0 0 [.ref (sm_B E + 109), .int (iI (g : Nat))] m Q := by
  obtain ⟨c1, c2, c3, c4, c5, c6, c7⟩ := hC
  have hb := hI.2.2.1
  obtain ⟨v0, v1, v2, v3⟩ := c3 g (by omega)
  refine vX12_turns_0 hly hd ?_
  simp (disch := omega) only [forall_eq, true_and, and_true, false_and, and_false, forall_const, true_implies, implies_true, not_true_eq_false, not_false_eq_true, false_implies, if_true, if_false, ↓reduceIte, Int.toNat_natCast, Int.reduceEq, Int.reduceNe, Int.reduceLT, Int.reduceLE, Int.reduceToNat, Int.reduceAdd, Int.reduceSub, Int.reduceMul, Int.reduceNeg, Nat.reduceAdd, Nat.reduceMul, Nat.reduceSub, iI_lit, jI_lit, iI_add, iI_sub, iI_mul, iI_neg, jI_add, jI_sub, jI_mul, jI_neg, nI_i, lN_j, iI_le, iI_lt, iI_eq, jI_le, jI_lt, jI_eq, iI_in, iI_cl, iI_j, jI_i, cN, inN, wI_eq, wI_ne, wJ_1, wJ_eq, wJ_ne, wI_2, wJ_3, iI_div, iI_rem, jI_div, jI_rem, true_or, or_true, false_or, or_false, eq_self, Nat.add_zero, v0, v1, v2, v3]
  refine ⟨by omega, by omega, by omega, by omega, by omega, by omega, by omega, by omega, ?_⟩
  refine h _ ((((fr.rf.wI (Or.inr (by omega))).wI (Or.inr (by omega))).wI (Or.inr (by omega))).wI (Or.inr (by omega))) ?_
  have x1 : 4 * (s.1 - 1) = 4 * g := by omega
  have xs : drTurn s = (s.1, s.2.1, s.2.2.1, upN (upN (upN (upN s.2.2.2.1 (4 * g) (s.2.2.2.1 (4 * g + 1))) (4 * g + 1) (s.2.2.2.1 (4 * g + 3))) (4 * g + 3) (s.2.2.2.1 (4 * g + 2))) (4 * g + 2) (s.2.2.2.1 (4 * g)), s.2.2.2.2) := by
    unfold drTurn
    rw [x1]
  rw [xs]
  refine ⟨?_, ?_, fun k hk => ?_, ?_, ?_, ?_, ?_⟩
  · rw [wI_oth (by decide), wI_oth (by decide), wI_oth (by decide), wI_oth (by decide)]; exact c1
  · rw [wI_oth (by decide), wI_oth (by decide), wI_oth (by decide), wI_oth (by decide)]; exact c2
  · have hk2 : k < s.1 := hk
    show _ = iI (upN (upN (upN (upN s.2.2.2.1 (4 * g) (s.2.2.2.1 (4 * g + 1))) (4 * g + 1) (s.2.2.2.1 (4 * g + 3))) (4 * g + 3) (s.2.2.2.1 (4 * g + 2))) (4 * g + 2) (s.2.2.2.1 (4 * g)) (4 * k) : Nat) ∧ _ = iI (upN (upN (upN (upN s.2.2.2.1 (4 * g) (s.2.2.2.1 (4 * g + 1))) (4 * g + 1) (s.2.2.2.1 (4 * g + 3))) (4 * g + 3) (s.2.2.2.1 (4 * g + 2))) (4 * g + 2) (s.2.2.2.1 (4 * g)) (4 * k + 1) : Nat) ∧ _ = iI (upN (upN (upN (upN s.2.2.2.1 (4 * g) (s.2.2.2.1 (4 * g + 1))) (4 * g + 1) (s.2.2.2.1 (4 * g + 3))) (4 * g + 3) (s.2.2.2.1 (4 * g + 2))) (4 * g + 2) (s.2.2.2.1 (4 * g)) (4 * k + 2) : Nat) ∧ _ = iI (upN (upN (upN (upN s.2.2.2.1 (4 * g) (s.2.2.2.1 (4 * g + 1))) (4 * g + 1) (s.2.2.2.1 (4 * g + 3))) (4 * g + 3) (s.2.2.2.1 (4 * g + 2))) (4 * g + 2) (s.2.2.2.1 (4 * g)) (4 * k + 3) : Nat)
    by_cases hkg : k = g
    · subst hkg
      refine ⟨?_, ?_, ?_, ?_⟩
      · rw [upN_ne (by omega), upN_ne (by omega), upN_ne (by omega), upN_eq, wI_oth (by decide), wI_oth (by decide), wI_oth (by decide), wI_eq rfl rfl]
      · rw [upN_ne (by omega), upN_ne (by omega), upN_eq, wI_eq rfl rfl]
      · rw [upN_eq, wI_oth (by decide), wI_oth (by decide), wI_eq rfl rfl]
      · rw [upN_ne (by omega), upN_eq, wI_oth (by decide), wI_eq rfl rfl]
    · obtain ⟨w0, w1, w2, w3⟩ := c3 k (by omega)
      simp (disch := omega) only [upN_ne, wI_ne]
      exact ⟨w0, w1, w2, w3⟩
  · rw [wI_oth (by decide), wI_oth (by decide), wI_oth (by decide), wI_oth (by decide)]; exact c4
  · rw [wI_oth (by decide), wI_oth (by decide), wI_oth (by decide), wI_oth (by decide)]; exact c5
  · rw [wI_oth (by decide), wI_oth (by decide), wI_oth (by decide), wI_oth (by decide)]; exact c6
  · rw [wI_oth (by decide), wI_oth (by decide), wI_oth (by decide), wI_oth (by decide)]; exact c7
theorem m_flip_loop {Q : sm_M → Prop} {vs : List Value} {x1 x2 x3 x4 : Int32} {c f : Nat} {po : Nat → Nat} (hly : ∀ S, L S → ly S) (hd : 3 ≤ d) (hc : c ≤ 24) (hpo : ∀ b, b < c → po b = 0 ∨ po b = 1) (m0 : sm_M) (h : ∀ m', fr (fun a k => a = 130 ∧ f ≤ k ∧ k < c) m0 m' → (∀ b, f ≤ b → b < c → m'.1 130 b = iI (2 * ((1 - po b : Nat) : Int) - 1)) → gX12_lay_15 E L d vs x1 x2 x3 (x4 + 1) m' Q) :
    ∀ (r j : Nat) (m : sm_M), j + r = c → f ≤ j → m.1 109 45 = iI (c : Nat) → fr (fun a k => a = 130 ∧ f ≤ k ∧ k < c) m0 m → (∀ b, f ≤ b → b < j → m.1 130 b = iI (2 * ((1 - po b : Nat) : Int) - 1)) → (∀ b, j ≤ b → b < c → m.1 130 b = iI (2 * (po b : Int) - 1)) → gX12_lay_94 E L d vs x1 x2 x3 x4 (iI (j : Nat)) m Q := by
  intro r
  induction r with
  | zero =>
    intro j m hj hfj h1 hf hb1 hb2
    refine vX12_lay_94 hly hd ⟨fun _ x e => ?_, fun hc => ?_⟩
    · subst e
      exact h m hf (fun b h2 h3 => hb1 b h2 (by omega))
    · rw [h1, iI_le (by omega) (by omega) (by omega) (by omega)] at hc
      omega
  | succ r ih =>
    intro j m hj hfj h1 hf hb1 hb2
    have v := hb2 j (Nat.le_refl _) (by omega)
    have hp := hpo j (by omega)
    have u : ¬ ((c : Int) ≤ (j : Int)) := by omega
    refine vX12_lay_94 hly hd ?_
    simp (disch := omega) only [forall_eq, true_and, and_true, false_and, and_false, forall_const, true_implies, implies_true, not_true_eq_false, not_false_eq_true, false_implies, if_true, if_false, ↓reduceIte, Int.toNat_natCast, Int.reduceEq, Int.reduceNe, Int.reduceLT, Int.reduceLE, Int.reduceToNat, Int.reduceAdd, Int.reduceSub, Int.reduceMul, Int.reduceNeg, Nat.reduceAdd, Nat.reduceMul, Nat.reduceSub, iI_lit, jI_lit, iI_add, iI_sub, iI_mul, iI_neg, jI_add, jI_sub, jI_mul, jI_neg, nI_i, lN_j, iI_le, iI_lt, iI_eq, jI_le, jI_lt, jI_eq, iI_in, iI_cl, iI_j, jI_i, cN, inN, wI_eq, wI_ne, wJ_1, wJ_eq, wJ_ne, wI_2, wJ_3, iI_div, iI_rem, jI_div, jI_rem, true_or, or_true, false_or, or_false, eq_self, Nat.add_zero, h1, u, v]
    refine ⟨by omega, by omega, ?_⟩
    refine ih (j + 1) _ (by omega) (by omega) (by simp (disch := omega) only [forall_eq, true_and, and_true, false_and, and_false, forall_const, true_implies, implies_true, not_true_eq_false, not_false_eq_true, false_implies, if_true, if_false, ↓reduceIte, Int.toNat_natCast, Int.reduceEq, Int.reduceNe, Int.reduceLT, Int.reduceLE, Int.reduceToNat, Int.reduceAdd, Int.reduceSub, Int.reduceMul, Int.reduceNeg, Nat.reduceAdd, Nat.reduceMul, Nat.reduceSub, iI_lit, jI_lit, iI_add, iI_sub, iI_mul, iI_neg, jI_add, jI_sub, jI_mul, jI_neg, nI_i, lN_j, iI_le, iI_lt, iI_eq, jI_le, jI_lt, jI_eq, iI_in, iI_cl, iI_j, jI_i, cN, inN, wI_eq, wI_ne, wJ_1, wJ_eq, wJ_ne, wI_2, wJ_3, iI_div, iI_rem, jI_div, jI_rem, true_or, or_true, false_or, or_false, eq_self, Nat.add_zero, h1]) (hf.wI ⟨rfl, by omega, by omega⟩) (fun b hb3 hb4 => ?_) (fun b hb3 hb4 => ?_)
    · by_cases hbj : b = j
      · rw [wI_eq rfl hbj, hbj]
        congr 1
        omega
      · rw [wI_ne (Or.inr hbj)]; exact hb1 b hb3 (by omega)
    · rw [wI_ne (Or.inr (by omega))]; exact hb2 b (by omega) hb4
theorem m_join {Q : sm_M → Prop} {vs : List Value} {m : sm_M} {s : drS} {g i j : Nat} {z : Int} (hly : ∀ S, L S → ly S) (hd : 3 ≤ d) (hg : s.1 = g + 2) (hI : dI s) (hC : dM m s) (hz : z = 11 ∨ z = 12) (hi : i < 6) (x2 : Int32) (h : ∀ m', fr dMP m m' → dM m' (drStep s z) → gX12_lay_15 E L d vs (iI (i : Nat)) x2 (iI ((g + 1 : Nat) : Int)) (iI ((j + 1 : Nat) : Int)) m' Q) : gX12_lay_157 E L d vs (iI (i : Nat)) x2 (iI ((g + 1 : Nat) : Int)) (iI (j : Nat)) (iI (z + 9)) (m.1 (if z = 11 then 132 else 133) g) m Q := by
  have hb := hI.2.2.1
  have lt : ∀ k, k < 4 * s.1 → s.2.2.2.1 k < 192 := fun k hk => dD_lt (hI.end_lt hk) hI.1 hI.2.1
  have hC0 := hC
  obtain ⟨c1, c2, c3, c4, c5, c6, c7⟩ := hC
  obtain ⟨v0, v1, v2, v3⟩ := c3 g (by omega)
  obtain ⟨w0, w1, w2, w3⟩ := c3 (g + 1) (by omega)
  have l0 := lt (4 * (g + 1)) (by omega)
  have l1 := lt (4 * g + 1) (by omega)
  have l2 := lt (4 * g + 2) (by omega)
  have l3 := lt (4 * g + 3) (by omega)
  have l4 := lt (4 * (g + 1) + 1) (by omega)
  have l5 := lt (4 * (g + 1) + 2) (by omega)
  have e1 : (((g + 1 : Nat) : Int) - 1).toNat = g := by omega
  have ej : (j : Int) + 1 = ((j + 1 : Nat) : Int) := by omega
  have x1 : 4 * (s.1 - 2) = 4 * g := by omega
  have x2' : 4 * (s.1 - 1) = 4 * (g + 1) := by omega
  rcases hz with rfl | rfl
  · have hst : drStep s 11 = (g + 1, s.2.1, s.2.2.1, upN (upN s.2.2.2.1 (4 * g + 1) (s.2.2.2.1 (4 * (g + 1) + 1))) (4 * g + 3) (s.2.2.2.1 (4 * (g + 1) + 3)), s.2.2.2.2.1, tieN (tieN s.2.2.2.2.2.1 (s.2.2.2.1 (4 * g + 1)) (s.2.2.2.1 (4 * (g + 1)))) (s.2.2.2.1 (4 * g + 3)) (s.2.2.2.1 (4 * (g + 1) + 2)), s.2.2.2.2.2.2) := by
      show drSum s = _
      unfold drSum
      rw [x1, x2', show s.1 - 1 = g + 1 by omega]
    rw [hst] at h
    rw [if_pos rfl, v1]
    refine vX12_lay_157 hly hd ?_
    simp (disch := omega) only [forall_eq, true_and, and_true, false_and, and_false, forall_const, true_implies, implies_true, not_true_eq_false, not_false_eq_true, false_implies, if_true, if_false, ↓reduceIte, Int.toNat_natCast, Int.reduceEq, Int.reduceNe, Int.reduceLT, Int.reduceLE, Int.reduceToNat, Int.reduceAdd, Int.reduceSub, Int.reduceMul, Int.reduceNeg, Nat.reduceAdd, Nat.reduceMul, Nat.reduceSub, iI_lit, jI_lit, iI_add, iI_sub, iI_mul, iI_neg, jI_add, jI_sub, jI_mul, jI_neg, nI_i, lN_j, iI_le, iI_lt, iI_eq, jI_le, jI_lt, jI_eq, iI_in, iI_cl, iI_j, jI_i, cN, inN, wI_eq, wI_ne, wJ_1, wJ_eq, wJ_ne, wI_2, wJ_3, iI_div, iI_rem, jI_div, jI_rem, true_or, or_true, false_or, or_false, eq_self, Nat.add_zero, w0]
    refine ⟨by omega, c12_ties hly (by omega) l1 l0 ?_⟩
    simp (disch := omega) only [forall_eq, true_and, and_true, false_and, and_false, forall_const, true_implies, implies_true, not_true_eq_false, not_false_eq_true, false_implies, if_true, if_false, ↓reduceIte, Int.toNat_natCast, Int.reduceEq, Int.reduceNe, Int.reduceLT, Int.reduceLE, Int.reduceToNat, Int.reduceAdd, Int.reduceSub, Int.reduceMul, Int.reduceNeg, Nat.reduceAdd, Nat.reduceMul, Nat.reduceSub, iI_lit, jI_lit, iI_add, iI_sub, iI_mul, iI_neg, jI_add, jI_sub, jI_mul, jI_neg, nI_i, lN_j, iI_le, iI_lt, iI_eq, jI_le, jI_lt, jI_eq, iI_in, iI_cl, iI_j, jI_i, cN, inN, wI_eq, wI_ne, wJ_1, wJ_eq, wJ_ne, wI_2, wJ_3, iI_div, iI_rem, jI_div, jI_rem, true_or, or_true, false_or, or_false, eq_self, Nat.add_zero, tieM_oth, e1, v3, w2]
    refine ⟨by omega, by omega, vX12_lay_197 hly hd (c12_ties hly (by omega) l3 l5 ?_)⟩
    simp (disch := omega) only [forall_eq, true_and, and_true, false_and, and_false, forall_const, true_implies, implies_true, not_true_eq_false, not_false_eq_true, false_implies, if_true, if_false, ↓reduceIte, Int.toNat_natCast, Int.reduceEq, Int.reduceNe, Int.reduceLT, Int.reduceLE, Int.reduceToNat, Int.reduceAdd, Int.reduceSub, Int.reduceMul, Int.reduceNeg, Nat.reduceAdd, Nat.reduceMul, Nat.reduceSub, iI_lit, jI_lit, iI_add, iI_sub, iI_mul, iI_neg, jI_add, jI_sub, jI_mul, jI_neg, nI_i, lN_j, iI_le, iI_lt, iI_eq, jI_le, jI_lt, jI_eq, iI_in, iI_cl, iI_j, jI_i, cN, inN, wI_eq, wI_ne, wJ_1, wJ_eq, wJ_ne, wI_2, wJ_3, iI_div, iI_rem, jI_div, jI_rem, true_or, or_true, false_or, or_false, eq_self, Nat.add_zero, tieM_oth, e1, w1]
    refine ⟨by omega, by omega, vX12_lay_238 hly hd ?_⟩
    simp (disch := omega) only [forall_eq, true_and, and_true, false_and, and_false, forall_const, true_implies, implies_true, not_true_eq_false, not_false_eq_true, false_implies, if_true, if_false, ↓reduceIte, Int.toNat_natCast, Int.reduceEq, Int.reduceNe, Int.reduceLT, Int.reduceLE, Int.reduceToNat, Int.reduceAdd, Int.reduceSub, Int.reduceMul, Int.reduceNeg, Nat.reduceAdd, Nat.reduceMul, Nat.reduceSub, iI_lit, jI_lit, iI_add, iI_sub, iI_mul, iI_neg, jI_add, jI_sub, jI_mul, jI_neg, nI_i, lN_j, iI_le, iI_lt, iI_eq, jI_le, jI_lt, jI_eq, iI_in, iI_cl, iI_j, jI_i, cN, inN, wI_eq, wI_ne, wJ_1, wJ_eq, wJ_ne, wI_2, wJ_3, iI_div, iI_rem, jI_div, jI_rem, true_or, or_true, false_or, or_false, eq_self, Nat.add_zero, tieM_oth, e1, w3, ej]
    refine ⟨by omega, by omega, ?_⟩
    refine h _ (((tieM_fr (tieM_fr fr.rf (fun k => Or.inr (by omega))) (fun k => Or.inr (by omega))).wI (Or.inr (by omega))).wI (Or.inr (by omega))) (hC0.tie (g := g + 1) (x1 := s.2.2.2.1 (4 * g + 1)) (y1 := s.2.2.2.1 (4 * (g + 1))) (x2 := s.2.2.2.1 (4 * g + 3)) (y2 := s.2.2.2.1 (4 * (g + 1) + 2)) rfl (by omega) rfl rfl (fun k hk => ?_) rfl rfl rfl (fun a h1 h2 h3 h4 => ?_))
    · show _ = iI (upN (upN s.2.2.2.1 (4 * g + 1) (s.2.2.2.1 (4 * (g + 1) + 1))) (4 * g + 3) (s.2.2.2.1 (4 * (g + 1) + 3)) (4 * k) : Nat) ∧ _ = iI (upN (upN s.2.2.2.1 (4 * g + 1) (s.2.2.2.1 (4 * (g + 1) + 1))) (4 * g + 3) (s.2.2.2.1 (4 * (g + 1) + 3)) (4 * k + 1) : Nat) ∧ _ = iI (upN (upN s.2.2.2.1 (4 * g + 1) (s.2.2.2.1 (4 * (g + 1) + 1))) (4 * g + 3) (s.2.2.2.1 (4 * (g + 1) + 3)) (4 * k + 2) : Nat) ∧ _ = iI (upN (upN s.2.2.2.1 (4 * g + 1) (s.2.2.2.1 (4 * (g + 1) + 1))) (4 * g + 3) (s.2.2.2.1 (4 * (g + 1) + 3)) (4 * k + 3) : Nat)
      by_cases hkg : k = g
      · subst hkg
        refine ⟨?_, ?_, ?_, ?_⟩
        · rw [upN_ne (by omega), upN_ne (by omega), wI_oth (by decide), wI_oth (by decide), tieM_oth (by decide), tieM_oth (by decide)]; exact v0
        · rw [upN_ne (by omega), upN_eq, wI_oth (by decide), wI_eq rfl rfl]
        · rw [upN_ne (by omega), upN_ne (by omega), wI_oth (by decide), wI_oth (by decide), tieM_oth (by decide), tieM_oth (by decide)]; exact v2
        · rw [upN_eq, wI_eq rfl rfl]
      · obtain ⟨u0, u1, u2, u3⟩ := c3 k (by omega)
        simp (disch := omega) only [upN_ne, wI_ne, tieM_oth]
        exact ⟨u0, u1, u2, u3⟩
    · rw [wI_oth h4, wI_oth h2]
  · have hst : drStep s 12 = (g + 1, s.2.1, s.2.2.1, upN (upN s.2.2.2.1 (4 * g + 2) (s.2.2.2.1 (4 * (g + 1) + 2))) (4 * g + 3) (s.2.2.2.1 (4 * (g + 1) + 3)), s.2.2.2.2.1, tieN (tieN s.2.2.2.2.2.1 (s.2.2.2.1 (4 * g + 2)) (s.2.2.2.1 (4 * (g + 1)))) (s.2.2.2.1 (4 * g + 3)) (s.2.2.2.1 (4 * (g + 1) + 1)), s.2.2.2.2.2.2) := by
      show drStk s = _
      unfold drStk
      rw [x1, x2', show s.1 - 1 = g + 1 by omega]
    rw [hst] at h
    rw [if_neg (by decide), v2]
    refine vX12_lay_157 hly hd ?_
    simp (disch := omega) only [forall_eq, true_and, and_true, false_and, and_false, forall_const, true_implies, implies_true, not_true_eq_false, not_false_eq_true, false_implies, if_true, if_false, ↓reduceIte, Int.toNat_natCast, Int.reduceEq, Int.reduceNe, Int.reduceLT, Int.reduceLE, Int.reduceToNat, Int.reduceAdd, Int.reduceSub, Int.reduceMul, Int.reduceNeg, Nat.reduceAdd, Nat.reduceMul, Nat.reduceSub, iI_lit, jI_lit, iI_add, iI_sub, iI_mul, iI_neg, jI_add, jI_sub, jI_mul, jI_neg, nI_i, lN_j, iI_le, iI_lt, iI_eq, jI_le, jI_lt, jI_eq, iI_in, iI_cl, iI_j, jI_i, cN, inN, wI_eq, wI_ne, wJ_1, wJ_eq, wJ_ne, wI_2, wJ_3, iI_div, iI_rem, jI_div, jI_rem, true_or, or_true, false_or, or_false, eq_self, Nat.add_zero, w0]
    refine ⟨by omega, c12_ties hly (by omega) l2 l0 ?_⟩
    simp (disch := omega) only [forall_eq, true_and, and_true, false_and, and_false, forall_const, true_implies, implies_true, not_true_eq_false, not_false_eq_true, false_implies, if_true, if_false, ↓reduceIte, Int.toNat_natCast, Int.reduceEq, Int.reduceNe, Int.reduceLT, Int.reduceLE, Int.reduceToNat, Int.reduceAdd, Int.reduceSub, Int.reduceMul, Int.reduceNeg, Nat.reduceAdd, Nat.reduceMul, Nat.reduceSub, iI_lit, jI_lit, iI_add, iI_sub, iI_mul, iI_neg, jI_add, jI_sub, jI_mul, jI_neg, nI_i, lN_j, iI_le, iI_lt, iI_eq, jI_le, jI_lt, jI_eq, iI_in, iI_cl, iI_j, jI_i, cN, inN, wI_eq, wI_ne, wJ_1, wJ_eq, wJ_ne, wI_2, wJ_3, iI_div, iI_rem, jI_div, jI_rem, true_or, or_true, false_or, or_false, eq_self, Nat.add_zero, tieM_oth, e1, v3, w1]
    refine ⟨by omega, by omega, vX12_lay_197 hly hd (c12_ties hly (by omega) l3 l4 ?_)⟩
    simp (disch := omega) only [forall_eq, true_and, and_true, false_and, and_false, forall_const, true_implies, implies_true, not_true_eq_false, not_false_eq_true, false_implies, if_true, if_false, ↓reduceIte, Int.toNat_natCast, Int.reduceEq, Int.reduceNe, Int.reduceLT, Int.reduceLE, Int.reduceToNat, Int.reduceAdd, Int.reduceSub, Int.reduceMul, Int.reduceNeg, Nat.reduceAdd, Nat.reduceMul, Nat.reduceSub, iI_lit, jI_lit, iI_add, iI_sub, iI_mul, iI_neg, jI_add, jI_sub, jI_mul, jI_neg, nI_i, lN_j, iI_le, iI_lt, iI_eq, jI_le, jI_lt, jI_eq, iI_in, iI_cl, iI_j, jI_i, cN, inN, wI_eq, wI_ne, wJ_1, wJ_eq, wJ_ne, wI_2, wJ_3, iI_div, iI_rem, jI_div, jI_rem, true_or, or_true, false_or, or_false, eq_self, Nat.add_zero, tieM_oth, e1, w2]
    refine ⟨by omega, by omega, vX12_lay_238 hly hd ?_⟩
    simp (disch := omega) only [forall_eq, true_and, and_true, false_and, and_false, forall_const, true_implies, implies_true, not_true_eq_false, not_false_eq_true, false_implies, if_true, if_false, ↓reduceIte, Int.toNat_natCast, Int.reduceEq, Int.reduceNe, Int.reduceLT, Int.reduceLE, Int.reduceToNat, Int.reduceAdd, Int.reduceSub, Int.reduceMul, Int.reduceNeg, Nat.reduceAdd, Nat.reduceMul, Nat.reduceSub, iI_lit, jI_lit, iI_add, iI_sub, iI_mul, iI_neg, jI_add, jI_sub, jI_mul, jI_neg, nI_i, lN_j, iI_le, iI_lt, iI_eq, jI_le, jI_lt, jI_eq, iI_in, iI_cl, iI_j, jI_i, cN, inN, wI_eq, wI_ne, wJ_1, wJ_eq, wJ_ne, wI_2, wJ_3, iI_div, iI_rem, jI_div, jI_rem, true_or, or_true, false_or, or_false, eq_self, Nat.add_zero, tieM_oth, e1, w3, ej]
    refine ⟨by omega, by omega, ?_⟩
    refine h _ (((tieM_fr (tieM_fr fr.rf (fun k => Or.inr (by omega))) (fun k => Or.inr (by omega))).wI (Or.inr (by omega))).wI (Or.inr (by omega))) (hC0.tie (g := g + 1) (x1 := s.2.2.2.1 (4 * g + 2)) (y1 := s.2.2.2.1 (4 * (g + 1))) (x2 := s.2.2.2.1 (4 * g + 3)) (y2 := s.2.2.2.1 (4 * (g + 1) + 1)) rfl (by omega) rfl rfl (fun k hk => ?_) rfl rfl rfl (fun a h1 h2 h3 h4 => ?_))
    · show _ = iI (upN (upN s.2.2.2.1 (4 * g + 2) (s.2.2.2.1 (4 * (g + 1) + 2))) (4 * g + 3) (s.2.2.2.1 (4 * (g + 1) + 3)) (4 * k) : Nat) ∧ _ = iI (upN (upN s.2.2.2.1 (4 * g + 2) (s.2.2.2.1 (4 * (g + 1) + 2))) (4 * g + 3) (s.2.2.2.1 (4 * (g + 1) + 3)) (4 * k + 1) : Nat) ∧ _ = iI (upN (upN s.2.2.2.1 (4 * g + 2) (s.2.2.2.1 (4 * (g + 1) + 2))) (4 * g + 3) (s.2.2.2.1 (4 * (g + 1) + 3)) (4 * k + 2) : Nat) ∧ _ = iI (upN (upN s.2.2.2.1 (4 * g + 2) (s.2.2.2.1 (4 * (g + 1) + 2))) (4 * g + 3) (s.2.2.2.1 (4 * (g + 1) + 3)) (4 * k + 3) : Nat)
      by_cases hkg : k = g
      · subst hkg
        refine ⟨?_, ?_, ?_, ?_⟩
        · rw [upN_ne (by omega), upN_ne (by omega), wI_oth (by decide), wI_oth (by decide), tieM_oth (by decide), tieM_oth (by decide)]; exact v0
        · rw [upN_ne (by omega), upN_ne (by omega), wI_oth (by decide), wI_oth (by decide), tieM_oth (by decide), tieM_oth (by decide)]; exact v1
        · rw [upN_ne (by omega), upN_eq, wI_oth (by decide), wI_eq rfl rfl]
        · rw [upN_eq, wI_eq rfl rfl]
      · obtain ⟨u0, u1, u2, u3⟩ := c3 k (by omega)
        simp (disch := omega) only [upN_ne, wI_ne, tieM_oth]
        exact ⟨u0, u1, u2, u3⟩
    · rw [wI_oth h4, wI_oth h3]
end LAY
