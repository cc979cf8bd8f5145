/-! the class draws: a leaf, a part, all -/
section DRY
variable {E : sm_E} {L : sm_S → Prop} {d : Nat}
theorem drF_f {m : sm_M} {s : drS} (hC : dC m s) : ∀ k, k < s.1 + 1 → (sm_wI m 21 s.1 (iI (s.2.1 : Nat))).1 21 k = iI ((drF s).2.2.2.2.1 k : Nat) := wI_upN hC.2.2.2.2.1
theorem c_leaf_end {Q : sm_M → Prop} {vs : List Value} {m0 m : sm_M} {s : drS} {w : Nat} (hly : ∀ S, L S → ly S) (hd : 2 ≤ d) (hC : dC m s) (hf : fr dCP m0 m) (h3 : ∀ k, k < s.1 + 1 → m.1 21 k = iI (s.2.2.2.2.1 k : Nat)) (hs : s.1 < 24) (hw : w < s.2.1) (hc : s.2.1 ≤ 24) (h : ∀ m', fr dCP m0 m' → dC m' (drE s w) → Q m') : gX2_placeLeaf_203 E L d vs (iI (w : Nat)) m Q := by
  obtain ⟨x, hx⟩ : ∃ x, s.2.1 = x + 1 := ⟨s.2.1 - 1, by omega⟩
  have c1 : m.1 16 10 = iI ((x : Int) + 1) := by rw [hC.1, hx]; congr 1
  have e1 : (x : Int) + 1 - 1 = (x : Int) := by omega
  refine vX2_placeLeaf_203 hly hd ?_
  simp (disch := omega) only [forall_eq, true_and, and_true, false_and, and_false, forall_const, true_implies, implies_true, not_true_eq_false, not_false_eq_true, false_implies, if_true, if_false, ↓reduceIte, Int.toNat_natCast, Int.reduceEq, Int.reduceNe, Int.reduceLT, Int.reduceLE, Int.reduceToNat, Int.reduceAdd, Int.reduceSub, Int.reduceMul, Int.reduceNeg, Nat.reduceAdd, Nat.reduceMul, Nat.reduceSub, iI_lit, jI_lit, iI_add, iI_sub, iI_mul, iI_neg, jI_add, jI_sub, jI_mul, jI_neg, nI_i, lN_j, iI_le, iI_lt, iI_eq, jI_le, jI_lt, jI_eq, iI_in, iI_cl, iI_j, jI_i, cN, inN, wI_eq, wI_ne, wJ_1, wJ_eq, wJ_ne, wI_2, wJ_3, iI_div, iI_rem, jI_div, jI_rem, true_or, or_true, false_or, or_false, eq_self, Nat.add_zero, c1, e1]
  refine c_setEnds hly (by omega) hC.2.2.1 hs (by omega) (by omega) ?_
  simp (disch := omega) only [forall_eq, true_and, and_true, false_and, and_false, forall_const, true_implies, implies_true, not_true_eq_false, not_false_eq_true, false_implies, if_true, if_false, ↓reduceIte, Int.toNat_natCast, Int.reduceEq, Int.reduceNe, Int.reduceLT, Int.reduceLE, Int.reduceToNat, Int.reduceAdd, Int.reduceSub, Int.reduceMul, Int.reduceNeg, Nat.reduceAdd, Nat.reduceMul, Nat.reduceSub, iI_lit, jI_lit, iI_add, iI_sub, iI_mul, iI_neg, jI_add, jI_sub, jI_mul, jI_neg, nI_i, lN_j, iI_le, iI_lt, iI_eq, jI_le, jI_lt, jI_eq, iI_in, iI_cl, iI_j, jI_i, cN, inN, wI_eq, wI_ne, wJ_1, wJ_eq, wJ_ne, wI_2, wJ_3, iI_div, iI_rem, jI_div, jI_rem, true_or, or_true, false_or, or_false, eq_self, Nat.add_zero, hC.2.2.1]
  refine h _ (((((hf.wI ⟨by decide, by decide⟩).wI ⟨by decide, by decide⟩).wI ⟨by decide, by decide⟩).wI ⟨by decide, by decide⟩).wI ⟨by decide, by decide⟩) (hC.En (w := w) (x := x) rfl ?_ h3 rfl rfl rfl ?_)
  · show endN s.2.2.2.1 s.1 w (s.2.1 - 1) = _
    rw [hx]
    rfl
  · rfl
theorem c_leaf_loop {Q : sm_M → Prop} {vs : List Value} {z : Int} {v w : Nat} {s0 : drS} (hly : ∀ S, L S → ly S) (hd : 2 ≤ d) (hz1 : -9 ≤ z) (hz2 : z ≤ 9) (hz0 : z ≠ 0) (hv : v = if 0 < z then 1 else 0) (hs : s0.1 < 24) (hw : w = s0.2.1) (hc : s0.2.1 + z.natAbs ≤ 24) (m0 : sm_M) (h : ∀ m', fr dCP m0 m' → dC m' (drE (drXs s0 v z.natAbs) w) → Q m') :
    ∀ (r j : Nat) (m : sm_M), j + r = z.natAbs → fr dCP m0 m → dC m (drXs s0 v j) → (∀ k, k < s0.1 + 1 → m.1 21 k = iI (s0.2.2.2.2.1 k : Nat)) → gX2_placeLeaf_94 E L d vs (iI z) (iI (w : Nat)) (iI (j : Nat)) m Q := by
  intro r
  induction r with
  | zero =>
    intro j m hj hf hC h3
    have hjz : j = z.natAbs := by omega
    subst hjz
    obtain ⟨x1, x2, x3, x4, x5⟩ := drXs_h s0 v z.natAbs
    refine vX2_placeLeaf_94 hly hd (c_abs (by omega) (by omega) (by omega) ⟨fun _ => ?_, fun hc => ?_⟩)
    · exact c_leaf_end hly hd hC hf (by rw [x1, x5]; exact h3) (by omega) (by omega) (by omega) h
    · rw [iI_le (by omega) (by omega) (by omega) (by omega)] at hc
      omega
  | succ r ih =>
    intro j m hj hf hC h3
    obtain ⟨x1, x2, x3, x4, x5⟩ := drXs_h s0 v j
    have c1 := hC.1
    rw [x2] at c1
    have u1 : ¬ ((z.natAbs : Int) ≤ (j : Int)) := by omega
    have u2 : ¬ ((24 : Int) ≤ ((s0.2.1 + j : Nat) : Int)) := by omega
    refine vX2_placeLeaf_94 hly hd (c_abs (by omega) (by omega) (by omega) ?_)
    simp (disch := omega) only [forall_eq, true_and, and_true, false_and, and_false, forall_const, true_implies, implies_true, not_true_eq_false, not_false_eq_true, false_implies, if_true, if_false, ↓reduceIte, Int.toNat_natCast, Int.reduceEq, Int.reduceNe, Int.reduceLT, Int.reduceLE, Int.reduceToNat, Int.reduceAdd, Int.reduceSub, Int.reduceMul, Int.reduceNeg, Nat.reduceAdd, Nat.reduceMul, Nat.reduceSub, iI_lit, jI_lit, iI_add, iI_sub, iI_mul, iI_neg, jI_add, jI_sub, jI_mul, jI_neg, nI_i, lN_j, iI_le, iI_lt, iI_eq, jI_le, jI_lt, jI_eq, iI_in, iI_cl, iI_j, jI_i, cN, inN, wI_eq, wI_ne, wJ_1, wJ_eq, wJ_ne, wI_2, wJ_3, iI_div, iI_rem, jI_div, jI_rem, true_or, or_true, false_or, or_false, eq_self, Nat.add_zero, c1, u1, u2]
    have ej : (j : Int) + 1 = ((j + 1 : Nat) : Int) := by omega
    have ec : ((s0.2.1 + j : Nat) : Int) + 1 = ((s0.2.1 + j + 1 : Nat) : Int) := by omega
    have go : gX2_placeLeaf_138 E L d vs (iI z) (iI (w : Nat)) (iI (j : Nat)) (iI ((s0.2.1 + j : Nat) : Int)) (iI (v : Nat)) (sm_wI m 17 (s0.2.1 + j) (iI 3)) Q := by
      have hX := hC.X (v := v) (b := (j == 0)) (fun hb => by
        have : j ≠ 0 := by intro q; rw [q] at hb; exact absurd hb (by decide)
        rw [x2]; omega) _ rfl
      rw [x2] at hX
      have hv2 : v = 0 ∨ v = 1 := by rw [hv]; split <;> omega
      have e3 : iI ((3 : Nat) : Int) = iI 3 := rfl
      rw [e3] at hX
      refine vX2_placeLeaf_138 hly hd ?_
      have c1w : (sm_wI (sm_wI m 17 (s0.2.1 + j) (iI 3)) 22 (s0.2.1 + j) (iI (v : Nat))).1 16 10 = iI ((s0.2.1 + j : Nat) : Int) := by simp (disch := omega) only [forall_eq, true_and, and_true, false_and, and_false, forall_const, true_implies, implies_true, not_true_eq_false, not_false_eq_true, false_implies, if_true, if_false, ↓reduceIte, Int.toNat_natCast, Int.reduceEq, Int.reduceNe, Int.reduceLT, Int.reduceLE, Int.reduceToNat, Int.reduceAdd, Int.reduceSub, Int.reduceMul, Int.reduceNeg, Nat.reduceAdd, Nat.reduceMul, Nat.reduceSub, iI_lit, jI_lit, iI_add, iI_sub, iI_mul, iI_neg, jI_add, jI_sub, jI_mul, jI_neg, nI_i, lN_j, iI_le, iI_lt, iI_eq, jI_le, jI_lt, jI_eq, iI_in, iI_cl, iI_j, jI_i, cN, inN, wI_eq, wI_ne, wJ_1, wJ_eq, wJ_ne, wI_2, wJ_3, iI_div, iI_rem, jI_div, jI_rem, true_or, or_true, false_or, or_false, eq_self, Nat.add_zero, c1]
      refine ⟨by simp (disch := omega) only [forall_eq, true_and, and_true, false_and, and_false, forall_const, true_implies, implies_true, not_true_eq_false, not_false_eq_true, false_implies, if_true, if_false, ↓reduceIte, Int.toNat_natCast, Int.reduceEq, Int.reduceNe, Int.reduceLT, Int.reduceLE, Int.reduceToNat, Int.reduceAdd, Int.reduceSub, Int.reduceMul, Int.reduceNeg, Nat.reduceAdd, Nat.reduceMul, Nat.reduceSub, iI_lit, jI_lit, iI_add, iI_sub, iI_mul, iI_neg, jI_add, jI_sub, jI_mul, jI_neg, nI_i, lN_j, iI_le, iI_lt, iI_eq, jI_le, jI_lt, jI_eq, iI_in, iI_cl, iI_j, jI_i, cN, inN, wI_eq, wI_ne, wJ_1, wJ_eq, wJ_ne, wI_2, wJ_3, iI_div, iI_rem, jI_div, jI_rem, true_or, or_true, false_or, or_false, eq_self, Nat.add_zero]; omega, ?_, fun m1 hm1 => ?_⟩
      · rcases hv2 with q | q <;> rw [q]
        · exact Or.inl rfl
        · exact Or.inr rfl
      · rw [cN (by omega)] at hm1
        rw [← hm1] at c1w
        have f1 : fr dCP m0 m1 := by rw [hm1]; exact (hf.wI ⟨by decide, by decide⟩).wI ⟨by decide, by decide⟩
        have h31 : ∀ k, k < s0.1 + 1 → m1.1 21 k = iI (s0.2.2.2.2.1 k : Nat) := fun k hk => by
          rw [hm1, wI_oth (by decide), wI_oth (by decide)]; exact h3 k hk
        rw [← hm1] at hX
        by_cases j0 : j = 0
        · subst j0
          simp (disch := omega) only [forall_eq, true_and, and_true, false_and, and_false, forall_const, true_implies, implies_true, not_true_eq_false, not_false_eq_true, false_implies, if_true, if_false, ↓reduceIte, Int.toNat_natCast, Int.reduceEq, Int.reduceNe, Int.reduceLT, Int.reduceLE, Int.reduceToNat, Int.reduceAdd, Int.reduceSub, Int.reduceMul, Int.reduceNeg, Nat.reduceAdd, Nat.reduceMul, Nat.reduceSub, iI_lit, jI_lit, iI_add, iI_sub, iI_mul, iI_neg, jI_add, jI_sub, jI_mul, jI_neg, nI_i, lN_j, iI_le, iI_lt, iI_eq, jI_le, jI_lt, jI_eq, iI_in, iI_cl, iI_j, jI_i, cN, inN, wI_eq, wI_ne, wJ_1, wJ_eq, wJ_ne, wI_2, wJ_3, iI_div, iI_rem, jI_div, jI_rem, true_or, or_true, false_or, or_false, eq_self, Nat.add_zero, c1w, ec]
          refine ⟨fun _ => ?_, fun hc => absurd (Int.le_refl _) hc⟩
          refine ih 1 _ (by omega) (f1.wI ⟨by decide, by decide⟩) hX ?_
          intro k hk
          rw [wI_oth (by decide)]; exact h31 k hk
        · have u3 : ¬ ((j : Int) ≤ 0) := by omega
          have t1 : 4 * ((s0.2.1 + j : Nat) : Int) - 4 + 1 = ((4 * (s0.2.1 + j) - 3 : Nat) : Int) := by omega
          have t2 : 4 * ((s0.2.1 + j : Nat) : Int) + 0 = ((4 * (s0.2.1 + j) : Nat) : Int) := by omega
          have t3 : 4 * ((s0.2.1 + j : Nat) : Int) - 4 + 3 = ((4 * (s0.2.1 + j) - 1 : Nat) : Int) := by omega
          have t4 : 4 * ((s0.2.1 + j : Nat) : Int) + 2 = ((4 * (s0.2.1 + j) + 2 : Nat) : Int) := by omega
          simp (disch := omega) only [forall_eq, true_and, and_true, false_and, and_false, forall_const, true_implies, implies_true, not_true_eq_false, not_false_eq_true, false_implies, if_true, if_false, ↓reduceIte, Int.toNat_natCast, Int.reduceEq, Int.reduceNe, Int.reduceLT, Int.reduceLE, Int.reduceToNat, Int.reduceAdd, Int.reduceSub, Int.reduceMul, Int.reduceNeg, Nat.reduceAdd, Nat.reduceMul, Nat.reduceSub, iI_lit, jI_lit, iI_add, iI_sub, iI_mul, iI_neg, jI_add, jI_sub, jI_mul, jI_neg, nI_i, lN_j, iI_le, iI_lt, iI_eq, jI_le, jI_lt, jI_eq, iI_in, iI_cl, iI_j, jI_i, cN, inN, wI_eq, wI_ne, wJ_1, wJ_eq, wJ_ne, wI_2, wJ_3, iI_div, iI_rem, jI_div, jI_rem, true_or, or_true, false_or, or_false, eq_self, Nat.add_zero, u3, c1w, t1, t2]
          refine c_tie hly (by omega) (by omega) (by omega) ?_
          simp (disch := omega) only [forall_eq, true_and, and_true, false_and, and_false, forall_const, true_implies, implies_true, not_true_eq_false, not_false_eq_true, false_implies, if_true, if_false, ↓reduceIte, Int.toNat_natCast, Int.reduceEq, Int.reduceNe, Int.reduceLT, Int.reduceLE, Int.reduceToNat, Int.reduceAdd, Int.reduceSub, Int.reduceMul, Int.reduceNeg, Nat.reduceAdd, Nat.reduceMul, Nat.reduceSub, iI_lit, jI_lit, iI_add, iI_sub, iI_mul, iI_neg, jI_add, jI_sub, jI_mul, jI_neg, nI_i, lN_j, iI_le, iI_lt, iI_eq, jI_le, jI_lt, jI_eq, iI_in, iI_cl, iI_j, jI_i, cN, inN, wI_eq, wI_ne, wJ_1, wJ_eq, wJ_ne, wI_2, wJ_3, iI_div, iI_rem, jI_div, jI_rem, true_or, or_true, false_or, or_false, eq_self, Nat.add_zero, tieM_oth, c1w, t3, t4]
          refine c_tie hly (by omega) (by omega) (by omega) ?_
          simp (disch := omega) only [forall_eq, true_and, and_true, false_and, and_false, forall_const, true_implies, implies_true, not_true_eq_false, not_false_eq_true, false_implies, if_true, if_false, ↓reduceIte, Int.toNat_natCast, Int.reduceEq, Int.reduceNe, Int.reduceLT, Int.reduceLE, Int.reduceToNat, Int.reduceAdd, Int.reduceSub, Int.reduceMul, Int.reduceNeg, Nat.reduceAdd, Nat.reduceMul, Nat.reduceSub, iI_lit, jI_lit, iI_add, iI_sub, iI_mul, iI_neg, jI_add, jI_sub, jI_mul, jI_neg, nI_i, lN_j, iI_le, iI_lt, iI_eq, jI_le, jI_lt, jI_eq, iI_in, iI_cl, iI_j, jI_i, cN, inN, wI_eq, wI_ne, wJ_1, wJ_eq, wJ_ne, wI_2, wJ_3, iI_div, iI_rem, jI_div, jI_rem, true_or, or_true, false_or, or_false, eq_self, Nat.add_zero, tieM_oth, c1w, ec, ej]
          have hj0 : (j == 0) = false := by simp [j0]
          rw [hj0] at hX
          refine ih (j + 1) _ (by omega) ((tieM_fr (tieM_fr f1 (fun k => ⟨by decide, by decide⟩)) (fun k => ⟨by decide, by decide⟩)).wI ⟨by decide, by decide⟩) ?_ ?_
          · have hs2 : drXs s0 v (j + 1) = drX (drXs s0 v j) v (j == 0) := rfl
            rw [hs2, hj0]
            exact hX
          · intro k hk
            rw [wI_oth (by decide), tieM_oth (by decide), tieM_oth (by decide)]; exact h31 k hk
    refine ⟨by omega, fun hz => ?_, fun hz => ?_⟩
    · rw [if_neg (by omega)] at hv
      rw [hv] at go
      exact go
    · rw [if_pos (by omega)] at hv
      rw [hv] at go
      exact go
theorem c_leaf_bare {Q : sm_M → Prop} {vs : List Value} {m : sm_M} {s : drS} {v : Nat} (hly : ∀ S, L S → ly S) (hd : 2 ≤ d) (hC : dC m s) (hs : s.1 < 24) (hl : s.2.2.1 < 24) (h3 : ∀ k, k < s.1 + 1 → m.1 21 k = iI (s.2.2.2.2.1 k : Nat)) (h : ∀ m', fr dCP m m' → dC m' (drB s v) → Q m') : gX2_placeLeaf_67 E L d vs (iI ((24 + s.2.2.1 : Nat) : Int)) (iI ((24 + s.2.2.1 : Nat) : Int)) (iI (v : Nat)) m Q := by
  obtain ⟨c1, c2, c3, c4, c5, c6, c7, c8⟩ := hC
  refine vX2_placeLeaf_67 hly hd ?_
  simp (disch := omega) only [forall_eq, true_and, and_true, false_and, and_false, forall_const, true_implies, implies_true, not_true_eq_false, not_false_eq_true, false_implies, if_true, if_false, ↓reduceIte, Int.toNat_natCast, Int.reduceEq, Int.reduceNe, Int.reduceLT, Int.reduceLE, Int.reduceToNat, Int.reduceAdd, Int.reduceSub, Int.reduceMul, Int.reduceNeg, Nat.reduceAdd, Nat.reduceMul, Nat.reduceSub, iI_lit, jI_lit, iI_add, iI_sub, iI_mul, iI_neg, jI_add, jI_sub, jI_mul, jI_neg, nI_i, lN_j, iI_le, iI_lt, iI_eq, jI_le, jI_lt, jI_eq, iI_in, iI_cl, iI_j, jI_i, cN, inN, wI_eq, wI_ne, wJ_1, wJ_eq, wJ_ne, wI_2, wJ_3, iI_div, iI_rem, jI_div, jI_rem, true_or, or_true, false_or, or_false, eq_self, Nat.add_zero]
  refine ⟨by omega, c_setEnds hly (by omega) (g := s.1) (by simp (disch := omega) only [forall_eq, true_and, and_true, false_and, and_false, forall_const, true_implies, implies_true, not_true_eq_false, not_false_eq_true, false_implies, if_true, if_false, ↓reduceIte, Int.toNat_natCast, Int.reduceEq, Int.reduceNe, Int.reduceLT, Int.reduceLE, Int.reduceToNat, Int.reduceAdd, Int.reduceSub, Int.reduceMul, Int.reduceNeg, Nat.reduceAdd, Nat.reduceMul, Nat.reduceSub, iI_lit, jI_lit, iI_add, iI_sub, iI_mul, iI_neg, jI_add, jI_sub, jI_mul, jI_neg, nI_i, lN_j, iI_le, iI_lt, iI_eq, jI_le, jI_lt, jI_eq, iI_in, iI_cl, iI_j, jI_i, cN, inN, wI_eq, wI_ne, wJ_1, wJ_eq, wJ_ne, wI_2, wJ_3, iI_div, iI_rem, jI_div, jI_rem, true_or, or_true, false_or, or_false, eq_self, Nat.add_zero, c3]) hs (by omega) (by omega) ?_⟩
  simp (disch := omega) only [forall_eq, true_and, and_true, false_and, and_false, forall_const, true_implies, implies_true, not_true_eq_false, not_false_eq_true, false_implies, if_true, if_false, ↓reduceIte, Int.toNat_natCast, Int.reduceEq, Int.reduceNe, Int.reduceLT, Int.reduceLE, Int.reduceToNat, Int.reduceAdd, Int.reduceSub, Int.reduceMul, Int.reduceNeg, Nat.reduceAdd, Nat.reduceMul, Nat.reduceSub, iI_lit, jI_lit, iI_add, iI_sub, iI_mul, iI_neg, jI_add, jI_sub, jI_mul, jI_neg, nI_i, lN_j, iI_le, iI_lt, iI_eq, jI_le, jI_lt, jI_eq, iI_in, iI_cl, iI_j, jI_i, cN, inN, wI_eq, wI_ne, wJ_1, wJ_eq, wJ_ne, wI_2, wJ_3, iI_div, iI_rem, jI_div, jI_rem, true_or, or_true, false_or, or_false, eq_self, Nat.add_zero, c2, c3]
  refine h _ (((((((fr.rf.wI ⟨by decide, by decide⟩).wI ⟨by decide, by decide⟩).wI ⟨by decide, by decide⟩).wI ⟨by decide, by decide⟩).wI ⟨by decide, by decide⟩).wI ⟨by decide, by decide⟩).wI ⟨by decide, by decide⟩) ?_
  refine ⟨?_, ?_, ?_, ?_, ?_, ?_, ?_, ?_⟩
  · simp (disch := omega) only [forall_eq, true_and, and_true, false_and, and_false, forall_const, true_implies, implies_true, not_true_eq_false, not_false_eq_true, false_implies, if_true, if_false, ↓reduceIte, Int.toNat_natCast, Int.reduceEq, Int.reduceNe, Int.reduceLT, Int.reduceLE, Int.reduceToNat, Int.reduceAdd, Int.reduceSub, Int.reduceMul, Int.reduceNeg, Nat.reduceAdd, Nat.reduceMul, Nat.reduceSub, iI_lit, jI_lit, iI_add, iI_sub, iI_mul, iI_neg, jI_add, jI_sub, jI_mul, jI_neg, nI_i, lN_j, iI_le, iI_lt, iI_eq, jI_le, jI_lt, jI_eq, iI_in, iI_cl, iI_j, jI_i, cN, inN, wI_eq, wI_ne, wJ_1, wJ_eq, wJ_ne, wI_2, wJ_3, iI_div, iI_rem, jI_div, jI_rem, true_or, or_true, false_or, or_false, eq_self, Nat.add_zero]
    exact c1
  · simp (disch := omega) only [forall_eq, true_and, and_true, false_and, and_false, forall_const, true_implies, implies_true, not_true_eq_false, not_false_eq_true, false_implies, if_true, if_false, ↓reduceIte, Int.toNat_natCast, Int.reduceEq, Int.reduceNe, Int.reduceLT, Int.reduceLE, Int.reduceToNat, Int.reduceAdd, Int.reduceSub, Int.reduceMul, Int.reduceNeg, Nat.reduceAdd, Nat.reduceMul, Nat.reduceSub, iI_lit, jI_lit, iI_add, iI_sub, iI_mul, iI_neg, jI_add, jI_sub, jI_mul, jI_neg, nI_i, lN_j, iI_le, iI_lt, iI_eq, jI_le, jI_lt, jI_eq, iI_in, iI_cl, iI_j, jI_i, cN, inN, wI_eq, wI_ne, wJ_1, wJ_eq, wJ_ne, wI_2, wJ_3, iI_div, iI_rem, jI_div, jI_rem, true_or, or_true, false_or, or_false, eq_self, Nat.add_zero]
    rfl
  · simp (disch := omega) only [forall_eq, true_and, and_true, false_and, and_false, forall_const, true_implies, implies_true, not_true_eq_false, not_false_eq_true, false_implies, if_true, if_false, ↓reduceIte, Int.toNat_natCast, Int.reduceEq, Int.reduceNe, Int.reduceLT, Int.reduceLE, Int.reduceToNat, Int.reduceAdd, Int.reduceSub, Int.reduceMul, Int.reduceNeg, Nat.reduceAdd, Nat.reduceMul, Nat.reduceSub, iI_lit, jI_lit, iI_add, iI_sub, iI_mul, iI_neg, jI_add, jI_sub, jI_mul, jI_neg, nI_i, lN_j, iI_le, iI_lt, iI_eq, jI_le, jI_lt, jI_eq, iI_in, iI_cl, iI_j, jI_i, cN, inN, wI_eq, wI_ne, wJ_1, wJ_eq, wJ_ne, wI_2, wJ_3, iI_div, iI_rem, jI_div, jI_rem, true_or, or_true, false_or, or_false, eq_self, Nat.add_zero]
    rfl
  · rw [wI_oth (by decide), wI_oth (by decide)]
    intro k hk
    show _ = iI (endN s.2.2.2.1 s.1 (24 + s.2.2.1) (24 + s.2.2.1) k : Nat)
    have hk0 : k < 4 * (s.1 + 1) := hk
    by_cases h1 : k < 4 * s.1
    · rw [endN_lt h1, wI_ne (by omega), wI_ne (by omega), wI_ne (by omega), wI_ne (by omega), wI_oth (by decide)]
      exact c4 k h1
    · have h2 : k = 4 * s.1 ∨ k = 4 * s.1 + 1 ∨ k = 4 * s.1 + 2 ∨ k = 4 * s.1 + 3 := by omega
      rcases h2 with rfl | rfl | rfl | rfl
      · rw [endN_0, wI_ne (by omega), wI_ne (by omega), wI_ne (by omega), wI_eq rfl rfl]
      · rw [endN_1, wI_ne (by omega), wI_eq rfl rfl]
      · rw [endN_2, wI_ne (by omega), wI_ne (by omega), wI_eq rfl rfl]
      · rw [endN_3, wI_eq rfl rfl]
  · intro k hk
    rw [wI_oth (by decide), wI_oth (by decide), wI_oth (by decide), wI_oth (by decide), wI_oth (by decide), wI_oth (by decide), wI_oth (by decide)]
    exact h3 k hk
  · rw [wI_oth (by decide), wI_oth (by decide), wI_oth (by decide), wI_oth (by decide), wI_oth (by decide), wI_oth (by decide), wI_oth (by decide)]
    exact c6
  · rw [wI_oth (by decide), wI_oth (by decide), wI_oth (by decide), wI_oth (by decide), wI_oth (by decide), wI_oth (by decide)]
    exact wI_upU c7
  · rw [wI_oth (by decide), wI_oth (by decide), wI_oth (by decide), wI_oth (by decide), wI_oth (by decide), wI_oth (by decide), wI_oth (by decide)]
    exact c8
theorem c_placeLeaf {Q : sm_M → Prop} {m : sm_M} {s : drS} {z : Int} (hly : ∀ S, L S → ly S) (hd : 2 ≤ d) (hC : dC m s) (hz1 : -9 ≤ z) (hz2 : z ≤ 10) (hs : s.1 < 24) (hl : s.2.2.1 < 24) (hc : s.2.1 + (if z < 10 then z.natAbs else 0) ≤ 24) (h : ∀ m', fr dCP m m' → dC m' (drLeaf s z) → Q m') : sm_callV E L mX2_placeLeaf d 0 0 [.ref (sm_B E + 16), .int (iI z)] m Q := by
  have hF := hC.F
  have h3 := drF_f hC
  have f1 : fr dCP m (sm_wI m 21 s.1 (iI (s.2.1 : Nat))) := fr.rf.wI ⟨by decide, by decide⟩
  have u1 : ¬ ((24 : Int) ≤ (s.1 : Int)) := by omega
  have u2 : ((s.2.2.1 : Nat) : Int) < 24 := by omega
  have u3 : ((24 : Nat) : Int) = 24 := rfl
  refine vX2_placeLeaf_0 hly hd ?_
  simp (disch := omega) only [forall_eq, true_and, and_true, false_and, and_false, forall_const, true_implies, implies_true, not_true_eq_false, not_false_eq_true, false_implies, if_true, if_false, ↓reduceIte, Int.toNat_natCast, Int.reduceEq, Int.reduceNe, Int.reduceLT, Int.reduceLE, Int.reduceToNat, Int.reduceAdd, Int.reduceSub, Int.reduceMul, Int.reduceNeg, Nat.reduceAdd, Nat.reduceMul, Nat.reduceSub, iI_lit, jI_lit, iI_add, iI_sub, iI_mul, iI_neg, jI_add, jI_sub, jI_mul, jI_neg, nI_i, lN_j, iI_le, iI_lt, iI_eq, jI_le, jI_lt, jI_eq, iI_in, iI_cl, iI_j, jI_i, cN, inN, wI_eq, wI_ne, wJ_1, wJ_eq, wJ_ne, wI_2, wJ_3, iI_div, iI_rem, jI_div, jI_rem, true_or, or_true, false_or, or_false, eq_self, Nat.add_zero, hC.1, hC.2.1, hC.2.2.1, u3, u1, u2]
  have e24 : (24 : Int) + ((s.2.2.1 : Nat) : Int) = ((24 + s.2.2.1 : Nat) : Int) := by omega
  refine ⟨by omega, fun z0 => ?_, fun z0 => ⟨fun z10 => ?_, fun z10 => ?_⟩⟩
  · subst z0
    refine vX2_placeLeaf_45 hly hd ?_
    simp (disch := omega) only [forall_eq, true_and, and_true, false_and, and_false, forall_const, true_implies, implies_true, not_true_eq_false, not_false_eq_true, false_implies, if_true, if_false, ↓reduceIte, Int.toNat_natCast, Int.reduceEq, Int.reduceNe, Int.reduceLT, Int.reduceLE, Int.reduceToNat, Int.reduceAdd, Int.reduceSub, Int.reduceMul, Int.reduceNeg, Nat.reduceAdd, Nat.reduceMul, Nat.reduceSub, iI_lit, jI_lit, iI_add, iI_sub, iI_mul, iI_neg, jI_add, jI_sub, jI_mul, jI_neg, nI_i, lN_j, iI_le, iI_lt, iI_eq, jI_le, jI_lt, jI_eq, iI_in, iI_cl, iI_j, jI_i, cN, inN, wI_eq, wI_ne, wJ_1, wJ_eq, wJ_ne, wI_2, wJ_3, iI_div, iI_rem, jI_div, jI_rem, true_or, or_true, false_or, or_false, eq_self, Nat.add_zero, hC.2.1, e24]
    exact c_leaf_bare (s := drF s) (v := 1) hly hd hF hs hl h3 (fun m' g1 g2 => h m' (f1.tr g1) g2)
  · refine c_leaf_loop (z := z) (v := if 0 < z then 1 else 0) (w := s.2.1) (s0 := drF s) hly hd hz1 (by omega) z0 rfl hs rfl (by rw [if_pos (by omega)] at hc; exact hc) m (fun m' g1 g2 => h m' g1 ?_) z.natAbs 0 _ (by omega) f1 hF h3
    unfold drLeaf
    rw [if_neg z0, if_neg z10]
    exact g2
  · subst z10
    refine vX2_placeLeaf_45 hly hd ?_
    simp (disch := omega) only [forall_eq, true_and, and_true, false_and, and_false, forall_const, true_implies, implies_true, not_true_eq_false, not_false_eq_true, false_implies, if_true, if_false, ↓reduceIte, Int.toNat_natCast, Int.reduceEq, Int.reduceNe, Int.reduceLT, Int.reduceLE, Int.reduceToNat, Int.reduceAdd, Int.reduceSub, Int.reduceMul, Int.reduceNeg, Nat.reduceAdd, Nat.reduceMul, Nat.reduceSub, iI_lit, jI_lit, iI_add, iI_sub, iI_mul, iI_neg, jI_add, jI_sub, jI_mul, jI_neg, nI_i, lN_j, iI_le, iI_lt, iI_eq, jI_le, jI_lt, jI_eq, iI_in, iI_cl, iI_j, jI_i, cN, inN, wI_eq, wI_ne, wJ_1, wJ_eq, wJ_ne, wI_2, wJ_3, iI_div, iI_rem, jI_div, jI_rem, true_or, or_true, false_or, or_false, eq_self, Nat.add_zero, hC.2.1, e24]
    exact c_leaf_bare (s := drF s) (v := 2) hly hd hF hs hl h3 (fun m' g1 g2 => h m' (f1.tr g1) g2)
theorem c_place {Q : sm_M → Prop} {m : sm_M} {s : drS} {z : Int} (hly : ∀ S, L S → ly S) (hd : 3 ≤ d) (hI : dI s) (hC : dC m s) (hz1 : -9 ≤ z) (hz2 : z ≤ 14) (k1 : 10 < z → 1 ≤ s.1) (k2 : 10 < z → z < 13 → 2 ≤ s.1) (hs : z ≤ 10 → s.1 < 24 ∧ s.2.2.1 < 24 ∧ s.2.1 + (if z < 10 then z.natAbs else 0) ≤ 24) (h : ∀ m', fr dCP m m' → dC m' (drStep s z) → Q m') : sm_callV E L mX2_place d 0 0 [.ref (sm_B E + 16), .int (iI z)] m Q := by
  unfold drStep at h
  refine vX2_place_0 hly hd ?_
  simp (disch := omega) only [forall_eq, true_and, and_true, false_and, and_false, forall_const, true_implies, implies_true, not_true_eq_false, not_false_eq_true, false_implies, if_true, if_false, ↓reduceIte, Int.toNat_natCast, Int.reduceEq, Int.reduceNe, Int.reduceLT, Int.reduceLE, Int.reduceToNat, Int.reduceAdd, Int.reduceSub, Int.reduceMul, Int.reduceNeg, Nat.reduceAdd, Nat.reduceMul, Nat.reduceSub, iI_lit, jI_lit, iI_add, iI_sub, iI_mul, iI_neg, jI_add, jI_sub, jI_mul, jI_neg, nI_i, lN_j, iI_le, iI_lt, iI_eq, jI_le, jI_lt, jI_eq, iI_in, iI_cl, iI_j, jI_i, cN, inN, wI_eq, wI_ne, wJ_1, wJ_eq, wJ_ne, wI_2, wJ_3, iI_div, iI_rem, jI_div, jI_rem, true_or, or_true, false_or, or_false, eq_self, Nat.add_zero]
  refine ⟨fun hz => ?_, fun hz => ?_⟩
  · rw [if_neg (by omega)] at h
    refine ⟨fun h11 => ?_, fun h11 => ?_⟩
    · rw [if_neg h11] at h
      refine ⟨fun h12 => ?_, fun h12 => ?_⟩
      · rw [if_neg h12] at h
        refine ⟨fun h13 => ?_, fun h13 => ?_⟩
        · rw [if_neg h13] at h
          exact c_flip hly (by omega) (k1 hz) hI hC h
        · rw [if_pos h13] at h
          exact c_turnEnds hly (by omega) (k1 hz) hI hC h
      · rw [if_pos h12] at h
        exact c_below hly (by omega) (k2 hz (by omega)) hI hC h
    · rw [if_pos h11] at h
      exact c_beside hly (by omega) (k2 hz (by omega)) hI hC h
  · rw [if_pos (by omega)] at h
    obtain ⟨p1, p2, p3⟩ := hs (by omega)
    exact c_placeLeaf hly (by omega) hC hz1 (by omega) p1 p2 p3 h
end DRY
