/-! the reference draws: a leaf -/
theorem upN_self {f : Nat → Nat} {k : Nat} : upN f k (f k) = f := funext fun j => by
  rw [upN_at]
  split
  · rename_i h; rw [h]
  · rfl
/-- the ends of a leaf -/
theorem dM.En {m m' : sm_M} {s s' : drS} {w x : Nat} (hC : dM m s) (h1 : s'.1 = s.1 + 1) (h2 : s'.2.2.2.1 = endN s.2.2.2.1 s.1 w x) (h3 : ∀ k, k < s.1 + 1 → m.1 135 k = iI (s.2.2.2.2.1 k : Nat)) (h4 : s'.2.1 = s.2.1) (h5 : s'.2.2.1 = s.2.2.1) (h6 : s'.2.2.2.2 = s.2.2.2.2) (hm : m' = sm_wI (sm_wI (sm_wI (sm_wI m 131 s.1 (iI ((4 * w : Nat) : Int))) 133 s.1 (iI ((4 * w + 2 : Nat) : Int))) 132 s.1 (iI ((4 * x + 1 : Nat) : Int))) 134 s.1 (iI ((4 * x + 3 : Nat) : Int))) : dM m' s' := by
  obtain ⟨c1, c2, c3, c4, c5, c6, c7⟩ := hC
  have oth : ∀ a, a ≠ 131 → a ≠ 132 → a ≠ 133 → a ≠ 134 → m'.1 a = m.1 a := by
    intro a h1 h2 h3 h4
    rw [hm, wI_oth h4, wI_oth h2, wI_oth h3, wI_oth h1]
  unfold dM
  rw [h1, h2, h4, h5, h6, oth 109 (by decide) (by decide) (by decide) (by decide), oth 135 (by decide) (by decide) (by decide) (by decide), oth 128 (by decide) (by decide) (by decide) (by decide), oth 129 (by decide) (by decide) (by decide) (by decide), oth 130 (by decide) (by decide) (by decide) (by decide)]
  refine ⟨c1, c2, fun k hk => ?_, h3, c5, c6, c7⟩
  subst hm
  by_cases hks : k = s.1
  · subst hks
    rw [endN_0, endN_1, endN_2, endN_3]
    refine ⟨?_, ?_, ?_, ?_⟩
    · rw [wI_oth (by decide), wI_oth (by decide), wI_oth (by decide), wI_eq rfl rfl]
    · rw [wI_oth (by decide), wI_eq rfl rfl]
    · rw [wI_oth (by decide), wI_oth (by decide), wI_eq rfl rfl]
    · rw [wI_eq rfl rfl]
  · obtain ⟨p1, p2, p3, p4⟩ := c3 k (by omega)
    rw [endN_lt (by omega), endN_lt (by omega), endN_lt (by omega), endN_lt (by omega)]
    refine ⟨?_, ?_, ?_, ?_⟩
    · rw [wI_oth (by decide), wI_oth (by decide), wI_oth (by decide), wI_ne (Or.inr hks)]; exact p1
    · rw [wI_oth (by decide), wI_ne (Or.inr hks), wI_oth (by decide), wI_oth (by decide)]; exact p2
    · rw [wI_oth (by decide), wI_oth (by decide), wI_ne (Or.inr hks), wI_oth (by decide)]; exact p3
    · rw [wI_ne (Or.inr hks), wI_oth (by decide), wI_oth (by decide), wI_oth (by decide)]; exact p4
theorem dM.F {m : sm_M} {s : drS} (hC : dM m s) : dM (sm_wI m 135 s.1 (iI (s.2.1 : Nat))) (drF s) := by
  obtain ⟨c1, c2, c3, c4, c5, c6, c7⟩ := hC
  refine ⟨?_, ?_, ?_, ?_, ?_, ?_, ?_⟩
  · rw [wI_oth (by decide)]; exact c1
  · rw [wI_oth (by decide)]; exact c2
  · rw [wI_oth (by decide), wI_oth (by decide), wI_oth (by decide), wI_oth (by decide)]; exact c3
  · exact wI_up c4
  · rw [wI_oth (by decide)]; exact c5
  · rw [wI_oth (by decide)]; exact c6
  · rw [wI_oth (by decide)]; exact c7
section MDS
variable {E : sm_E} {L : sm_S → Prop} {d : Nat}
theorem m_leaf_loop {Q : sm_M → Prop} {vs : List Value} {z : Int} {v : Nat} {s0 : drS} (hly : ∀ S, L S → ly S) (hd : 2 ≤ d) (hz1 : -9 ≤ z) (hz2 : z ≤ 9) (hz0 : z ≠ 0) (hv : v = if 0 < z then 1 else 0) (hs : s0.1 < 24) (hc : s0.2.1 + z.natAbs ≤ 24) (hf0 : s0.2.2.2.2.1 s0.1 = s0.2.1) (m0 : sm_M) (h : ∀ m', fr dMP m0 m' → dM m' (drE (drXs s0 v z.natAbs) s0.2.1) → Q m') :
    ∀ (r j : Nat) (m : sm_M), j + r = z.natAbs → fr dMP m0 m → dM m (drXs s0 v j) → (∀ k, k < s0.1 + 1 → m.1 135 k = iI (s0.2.2.2.2.1 k : Nat)) → gX12_layLeaf_34 E L d vs (iI z) (iI (s0.1 : Nat)) (iI (z.natAbs : Nat)) (iI (j : Nat)) m Q := by
  intro r
  induction r with
  | zero =>
    intro j m hj hf hC h3
    have hjz : j = z.natAbs := by omega
    subst hjz
    obtain ⟨x1, x2, x3, x4, x5⟩ := drXs_h s0 v z.natAbs
    obtain ⟨x, hx⟩ : ∃ x, s0.2.1 + z.natAbs = x + 1 := ⟨s0.2.1 + z.natAbs - 1, by omega⟩
    have c1 := hC.1
    rw [x2, hx] at c1
    have c1' : m.1 109 45 = iI ((x : Int) + 1) := c1
    have v3 := h3 s0.1 (by omega)
    rw [hf0] at v3
    have u1 : (z.natAbs : Int) ≠ 0 := by omega
    have e1 : 4 * ((x : Int) + 1 - 1) = ((4 * x : Nat) : Int) := by omega
    have e2 : 4 * ((s0.2.1 : Nat) : Int) = ((4 * s0.2.1 : Nat) : Int) := by omega
    refine vX12_layLeaf_34 hly hd ?_
    simp (disch := omega) only [forall_eq, true_and, and_true, false_and, and_false, forall_const, true_implies, implies_true, not_true_eq_false, not_false_eq_true, false_implies, if_true, if_false, ↓reduceIte, Int.toNat_natCast, Int.reduceEq, Int.reduceNe, Int.reduceLT, Int.reduceLE, Int.reduceToNat, Int.reduceAdd, Int.reduceSub, Int.reduceMul, Int.reduceNeg, Nat.reduceAdd, Nat.reduceMul, Nat.reduceSub, iI_lit, jI_lit, iI_add, iI_sub, iI_mul, iI_neg, jI_add, jI_sub, jI_mul, jI_neg, nI_i, lN_j, iI_le, iI_lt, iI_eq, jI_le, jI_lt, jI_eq, iI_in, iI_cl, iI_j, jI_i, cN, inN, wI_eq, wI_ne, wJ_1, wJ_eq, wJ_ne, wI_2, wJ_3, iI_div, iI_rem, jI_div, jI_rem, true_or, or_true, false_or, or_false, eq_self, Nat.add_zero, v3, c1', e1, e2, u1, Int.le_refl]
    refine ⟨by omega, ?_⟩
    refine m_236 hly hd (by omega) (by omega) (by omega) ?_
    refine h _ ((((hf.wI (Or.inr (by omega))).wI (Or.inr (by omega))).wI (Or.inr (by omega))).wI (Or.inr (by omega))) (hC.En (w := s0.2.1) (x := x) rfl ?_ (by rw [x1, x5]; exact h3) rfl rfl rfl (by rw [x1]))
    show endN (drXs s0 v z.natAbs).2.2.2.1 (drXs s0 v z.natAbs).1 s0.2.1 ((drXs s0 v z.natAbs).2.1 - 1) = _
    rw [x2, hx]
    rfl
  | succ r ih =>
    intro j m hj hf hC h3
    obtain ⟨x1, x2, x3, x4, x5⟩ := drXs_h s0 v j
    have c1 := hC.1
    rw [x2] at c1
    have u1 : ¬ ((z.natAbs : Int) ≤ (j : Int)) := by omega
    have e2 : 4 * ((s0.2.1 + j : Nat) : Int) = ((4 * (s0.2.1 + j) : Nat) : Int) := by omega
    have ej : (j : Int) + 1 = ((j + 1 : Nat) : Int) := by omega
    have ec : ((s0.2.1 + j : Nat) : Int) + 1 = ((s0.2.1 + j + 1 : Nat) : Int) := by omega
    refine vX12_layLeaf_34 hly hd ?_
    simp (disch := omega) only [forall_eq, true_and, and_true, false_and, and_false, forall_const, true_implies, implies_true, not_true_eq_false, not_false_eq_true, false_implies, if_true, if_false, ↓reduceIte, Int.toNat_natCast, Int.reduceEq, Int.reduceNe, Int.reduceLT, Int.reduceLE, Int.reduceToNat, Int.reduceAdd, Int.reduceSub, Int.reduceMul, Int.reduceNeg, Nat.reduceAdd, Nat.reduceMul, Nat.reduceSub, iI_lit, jI_lit, iI_add, iI_sub, iI_mul, iI_neg, jI_add, jI_sub, jI_mul, jI_neg, nI_i, lN_j, iI_le, iI_lt, iI_eq, jI_le, jI_lt, jI_eq, iI_in, iI_cl, iI_j, jI_i, cN, inN, wI_eq, wI_ne, wJ_1, wJ_eq, wJ_ne, wI_2, wJ_3, iI_div, iI_rem, jI_div, jI_rem, true_or, or_true, false_or, or_false, eq_self, Nat.add_zero, c1, u1, e2]
    refine m_51 (v := v) (n := 0) hly hd (by omega) hz1 hz2 hv c1 ?_
    have hX := hC.X (v := v) (b := (j == 0)) _ rfl
    rw [x2] at hX
    refine vX12_layLeaf_97 hly hd ⟨by simp (disch := omega) only [forall_eq, true_and, and_true, false_and, and_false, forall_const, true_implies, implies_true, not_true_eq_false, not_false_eq_true, false_implies, if_true, if_false, ↓reduceIte, Int.toNat_natCast, Int.reduceEq, Int.reduceNe, Int.reduceLT, Int.reduceLE, Int.reduceToNat, Int.reduceAdd, Int.reduceSub, Int.reduceMul, Int.reduceNeg, Nat.reduceAdd, Nat.reduceMul, Nat.reduceSub, iI_lit, jI_lit, iI_add, iI_sub, iI_mul, iI_neg, jI_add, jI_sub, jI_mul, jI_neg, nI_i, lN_j, iI_le, iI_lt, iI_eq, jI_le, jI_lt, jI_eq, iI_in, iI_cl, iI_j, jI_i, cN, inN, wI_eq, wI_ne, wJ_1, wJ_eq, wJ_ne, wI_2, wJ_3, iI_div, iI_rem, jI_div, jI_rem, true_or, or_true, false_or, or_false, eq_self, Nat.add_zero]; omega, fun m1 hm1 => ?_⟩
    rw [cN (by omega)] at hm1
    have c1w : m1.1 109 45 = iI ((s0.2.1 + j : Nat) : Int) := by rw [hm1, wI_oth (by decide), w4_oth (by decide)]; exact c1
    have f1 : fr dMP m0 m1 := by rw [hm1]; exact (w4_fr hf).wI (Or.inr (by omega))
    have h31 : ∀ k, k < s0.1 + 1 → m1.1 135 k = iI (s0.2.2.2.2.1 k : Nat) := fun k hk => by
      rw [hm1, wI_oth (by decide), w4_oth (by decide)]; exact h3 k hk
    rw [← hm1] at hX
    by_cases j0 : j = 0
    · subst j0
      simp (disch := omega) only [forall_eq, true_and, and_true, false_and, and_false, forall_const, true_implies, implies_true, not_true_eq_false, not_false_eq_true, false_implies, if_true, if_false, ↓reduceIte, Int.toNat_natCast, Int.reduceEq, Int.reduceNe, Int.reduceLT, Int.reduceLE, Int.reduceToNat, Int.reduceAdd, Int.reduceSub, Int.reduceMul, Int.reduceNeg, Nat.reduceAdd, Nat.reduceMul, Nat.reduceSub, iI_lit, jI_lit, iI_add, iI_sub, iI_mul, iI_neg, jI_add, jI_sub, jI_mul, jI_neg, nI_i, lN_j, iI_le, iI_lt, iI_eq, jI_le, jI_lt, jI_eq, iI_in, iI_cl, iI_j, jI_i, cN, inN, wI_eq, wI_ne, wJ_1, wJ_eq, wJ_ne, wI_2, wJ_3, iI_div, iI_rem, jI_div, jI_rem, true_or, or_true, false_or, or_false, eq_self, Nat.add_zero, c1w, ec]
      refine ⟨fun _ => ?_, fun hc => absurd (Int.le_refl _) hc⟩
      refine ih 1 _ (by omega) (f1.wI (Or.inl ⟨rfl, by decide⟩)) hX ?_
      intro k hk
      rw [wI_oth (by decide)]; exact h31 k hk
    · have u3 : ¬ ((j : Int) ≤ 0) := by omega
      have t1 : ((4 * (s0.2.1 + j) : Nat) : Int) - 3 = ((4 * (s0.2.1 + j) - 3 : Nat) : Int) := by omega
      have t3 : ((4 * (s0.2.1 + j) : Nat) : Int) - 1 = ((4 * (s0.2.1 + j) - 1 : Nat) : Int) := by omega
      have t4 : ((4 * (s0.2.1 + j) : Nat) : Int) + 2 = ((4 * (s0.2.1 + j) + 2 : Nat) : Int) := by omega
      simp (disch := omega) only [forall_eq, true_and, and_true, false_and, and_false, forall_const, true_implies, implies_true, not_true_eq_false, not_false_eq_true, false_implies, if_true, if_false, ↓reduceIte, Int.toNat_natCast, Int.reduceEq, Int.reduceNe, Int.reduceLT, Int.reduceLE, Int.reduceToNat, Int.reduceAdd, Int.reduceSub, Int.reduceMul, Int.reduceNeg, Nat.reduceAdd, Nat.reduceMul, Nat.reduceSub, iI_lit, jI_lit, iI_add, iI_sub, iI_mul, iI_neg, jI_add, jI_sub, jI_mul, jI_neg, nI_i, lN_j, iI_le, iI_lt, iI_eq, jI_le, jI_lt, jI_eq, iI_in, iI_cl, iI_j, jI_i, cN, inN, wI_eq, wI_ne, wJ_1, wJ_eq, wJ_ne, wI_2, wJ_3, iI_div, iI_rem, jI_div, jI_rem, true_or, or_true, false_or, or_false, eq_self, Nat.add_zero, u3, t1, t3, t4]
      refine c12_ties hly (by omega) (by omega) (by omega) ?_
      refine c12_ties hly (by omega) (by omega) (by omega) ?_
      simp (disch := omega) only [forall_eq, true_and, and_true, false_and, and_false, forall_const, true_implies, implies_true, not_true_eq_false, not_false_eq_true, false_implies, if_true, if_false, ↓reduceIte, Int.toNat_natCast, Int.reduceEq, Int.reduceNe, Int.reduceLT, Int.reduceLE, Int.reduceToNat, Int.reduceAdd, Int.reduceSub, Int.reduceMul, Int.reduceNeg, Nat.reduceAdd, Nat.reduceMul, Nat.reduceSub, iI_lit, jI_lit, iI_add, iI_sub, iI_mul, iI_neg, jI_add, jI_sub, jI_mul, jI_neg, nI_i, lN_j, iI_le, iI_lt, iI_eq, jI_le, jI_lt, jI_eq, iI_in, iI_cl, iI_j, jI_i, cN, inN, wI_eq, wI_ne, wJ_1, wJ_eq, wJ_ne, wI_2, wJ_3, iI_div, iI_rem, jI_div, jI_rem, true_or, or_true, false_or, or_false, eq_self, Nat.add_zero, tieM_oth, c1w, ec, ej]
      have hj0 : (j == 0) = false := by simp [j0]
      rw [hj0] at hX
      refine ih (j + 1) _ (by omega) ((tieM_fr (tieM_fr f1 (fun k => Or.inr (by omega))) (fun k => Or.inr (by omega))).wI (Or.inl ⟨rfl, by decide⟩)) ?_ ?_
      · have hs2 : drXs s0 v (j + 1) = drX (drXs s0 v j) v (j == 0) := rfl
        rw [hs2, hj0]
        exact hX
      · intro k hk
        rw [wI_oth (by decide), tieM_oth (by decide), tieM_oth (by decide)]; exact h31 k hk
theorem m_bare {Q : sm_M → Prop} {vs : List Value} {m : sm_M} {s : drS} {v : Nat} (hly : ∀ S, L S → ly S) (hd : 2 ≤ d) (hC : dM m s) (hs : s.1 < 24) (hl : s.2.2.1 < 24) (hv : v < 4) (h3 : ∀ k, k < s.1 + 1 → m.1 135 k = iI (s.2.2.2.2.1 k : Nat)) (h : ∀ m', fr dMP m m' → dM m' (drB s v) → Q m') : gX12_layLeaf_206 E L d vs (iI (s.1 : Nat)) (iI ((4 * (24 + s.2.2.1) : Nat) : Int)) (iI ((4 * (24 + s.2.2.1) : Nat) : Int)) (iI (v : Nat)) (iI 0) (sm_wI m 109 46 (iI ((s.2.2.1 + 1 : Nat) : Int))) Q := by
  obtain ⟨c1, c2, c3, c4, c5, c6, c7⟩ := hC
  refine m_206 hly hd (by omega) hv (m_236 hly hd (by omega) (by omega) (by omega) ?_)
  refine h _ (((((w4_fr (fr.rf.wI (Or.inl ⟨rfl, by decide⟩))).wI (Or.inr (by omega))).wI (Or.inr (by omega))).wI (Or.inr (by omega))).wI (Or.inr (by omega))) ?_
  refine dM.En (s := (s.1, s.2.1, s.2.2.1 + 1, s.2.2.2.1, s.2.2.2.2.1, s.2.2.2.2.2.1, upN s.2.2.2.2.2.2.1 (24 + s.2.2.1) v, s.2.2.2.2.2.2.2)) (w := 24 + s.2.2.1) (x := 24 + s.2.2.1) ?_ rfl rfl ?_ rfl rfl rfl rfl
  · refine ⟨?_, ?_, ?_, ?_, ?_, ?_, ?_⟩
    · rw [w4_oth (by decide), wI_ne (by omega)]; exact c1
    · rw [w4_oth (by decide), wI_eq rfl rfl]
    · rw [w4_oth (by decide), w4_oth (by decide), w4_oth (by decide), w4_oth (by decide), wI_oth (by decide), wI_oth (by decide), wI_oth (by decide), wI_oth (by decide)]; exact c3
    · rw [w4_oth (by decide), wI_oth (by decide)]; exact c4
    · rw [w4_oth (by decide), wI_oth (by decide)]; exact c5
    · refine w4_up ?_
      rw [wI_oth (by decide)]; exact c6
    · rw [w4_oth (by decide), wI_oth (by decide)]; exact c7
  · intro k hk
    rw [w4_oth (by decide), wI_oth (by decide)]; exact h3 k hk
theorem c12_layLeaf {Q : sm_M → Prop} {m : sm_M} {s : drS} {z : Int} (hly : ∀ S, L S → ly S) (hd : 2 ≤ d) (hC : dM m s) (hz1 : -9 ≤ z) (hz2 : z ≤ 10) (hs : s.1 < 24) (hl : s.2.2.1 < 24) (hc : s.2.1 + (if z < 10 then z.natAbs else 0) ≤ 24) (h : ∀ m', fr dMP m m' → dM m' (drLeaf s z) → Q m') : sm_callV E L mX12_layLeaf d 0 0 [.ref (sm_B E + 109), .int (iI z), .int (iI (s.1 : Nat))] m Q := by
  have hF := hC.F
  have h3 : ∀ k, k < s.1 + 1 → (sm_wI m 135 s.1 (iI (s.2.1 : Nat))).1 135 k = iI ((drF s).2.2.2.2.1 k : Nat) := wI_upN hC.2.2.2.1
  have f1 : fr dMP m (sm_wI m 135 s.1 (iI (s.2.1 : Nat))) := fr.rf.wI (Or.inr (by omega))
  have bare : ∀ v : Nat, v < 4 → drLeaf s z = drB (drF s) v → (z = 10 ↔ v = 2) → (v = 1 ∨ v = 2) → gX12_layLeaf_34 E L d [.ref (sm_B E + 109), .int (iI z), .int (iI (s.1 : Nat))] (iI z) (iI (s.1 : Nat)) (iI 0) (iI 0) (sm_wI m 135 s.1 (iI (s.2.1 : Nat))) Q := by
    intro v hv he hz hv2
    have v3 : (sm_wI m 135 s.1 (iI (s.2.1 : Nat))).1 135 s.1 = iI (s.2.1 : Nat) := wI_eq rfl rfl
    have e1 : 96 + 4 * ((s.2.2.1 : Nat) : Int) = ((4 * (24 + s.2.2.1) : Nat) : Int) := by omega
    have e2 : ((s.2.2.1 : Nat) : Int) + 1 = ((s.2.2.1 + 1 : Nat) : Int) := by omega
    refine vX12_layLeaf_34 hly hd ?_
    simp (disch := omega) only [forall_eq, true_and, and_true, false_and, and_false, forall_const, true_implies, implies_true, not_true_eq_false, not_false_eq_true, false_implies, if_true, if_false, ↓reduceIte, Int.toNat_natCast, Int.reduceEq, Int.reduceNe, Int.reduceLT, Int.reduceLE, Int.reduceToNat, Int.reduceAdd, Int.reduceSub, Int.reduceMul, Int.reduceNeg, Nat.reduceAdd, Nat.reduceMul, Nat.reduceSub, iI_lit, jI_lit, iI_add, iI_sub, iI_mul, iI_neg, jI_add, jI_sub, jI_mul, jI_neg, nI_i, lN_j, iI_le, iI_lt, iI_eq, jI_le, jI_lt, jI_eq, iI_in, iI_cl, iI_j, jI_i, cN, inN, wI_eq, wI_ne, wJ_1, wJ_eq, wJ_ne, wI_2, wJ_3, iI_div, iI_rem, jI_div, jI_rem, true_or, or_true, false_or, or_false, eq_self, Nat.add_zero, v3, hC.1, hC.2.1, e1, e2, Int.le_refl]
    refine ⟨by omega, fun hz10 => ?_, fun hz10 => ?_⟩
    · have := m_bare (E := E) (s := drF s) (v := 1) (vs := [.ref (sm_B E + 109), .int (iI z), .int (iI (s.1 : Nat))]) (Q := Q) hly hd hF hs hl (by omega) h3 (fun m' g1 g2 => h m' (f1.tr g1) (by rw [he, show v = 1 by omega]; exact g2))
      exact this
    · have := m_bare (E := E) (s := drF s) (v := 2) (vs := [.ref (sm_B E + 109), .int (iI z), .int (iI (s.1 : Nat))]) (Q := Q) hly hd hF hs hl (by omega) h3 (fun m' g1 g2 => h m' (f1.tr g1) (by rw [he, show v = 2 by omega]; exact g2))
      exact this
  refine vX12_layLeaf_0 hly hd ?_
  simp (disch := omega) only [forall_eq, true_and, and_true, false_and, and_false, forall_const, true_implies, implies_true, not_true_eq_false, not_false_eq_true, false_implies, if_true, if_false, ↓reduceIte, Int.toNat_natCast, Int.reduceEq, Int.reduceNe, Int.reduceLT, Int.reduceLE, Int.reduceToNat, Int.reduceAdd, Int.reduceSub, Int.reduceMul, Int.reduceNeg, Nat.reduceAdd, Nat.reduceMul, Nat.reduceSub, iI_lit, jI_lit, iI_add, iI_sub, iI_mul, iI_neg, jI_add, jI_sub, jI_mul, jI_neg, nI_i, lN_j, iI_le, iI_lt, iI_eq, jI_le, jI_lt, jI_eq, iI_in, iI_cl, iI_j, jI_i, cN, inN, wI_eq, wI_ne, wJ_1, wJ_eq, wJ_ne, wI_2, wJ_3, iI_div, iI_rem, jI_div, jI_rem, true_or, or_true, false_or, or_false, eq_self, Nat.add_zero, hC.1]
  refine ⟨by omega, fun z10 => ?_, fun z10 => ?_⟩
  · have cross : z ≠ 0 → gX12_layLeaf_34 E L d [.ref (sm_B E + 109), .int (iI z), .int (iI (s.1 : Nat))] (iI z) (iI (s.1 : Nat)) (iI (z.natAbs : Nat)) (iI 0) (sm_wI m 135 s.1 (iI (s.2.1 : Nat))) Q := by
      intro z0
      refine m_leaf_loop (z := z) (v := if 0 < z then 1 else 0) (s0 := drF s) hly hd hz1 (by omega) z0 rfl hs (by rw [if_pos (by omega)] at hc; exact hc) upN_eq m (fun m' g1 g2 => h m' g1 ?_) z.natAbs 0 _ (by omega) f1 hF h3
      unfold drLeaf
      rw [if_neg z0, if_neg z10]
      exact g2
    refine ⟨fun zp => ?_, fun zp => ?_⟩
    · by_cases z0 : z = 0
      · have := bare 1 (by omega) (by unfold drLeaf; rw [if_pos z0]) (by omega) (Or.inl rfl)
        subst z0
        exact this
      · have := cross z0
        rw [show (z.natAbs : Int) = z by omega] at this
        exact this
    · have := cross (by omega)
      rw [show (z.natAbs : Int) = -z by omega] at this
      exact this
  · exact bare 2 (by omega) (by unfold drLeaf; rw [if_neg (by omega), if_pos z10]) (by omega) (Or.inr rfl)
end MDS
