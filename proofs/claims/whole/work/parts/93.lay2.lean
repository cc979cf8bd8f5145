/-! both draw a tangle, whole -/
section LAZ
variable {E : sm_E} {L : sm_S → Prop} {d : Nat}
theorem dI_end {s : drS} (side : Nat) (h : dI s) (hs : s.1 = 1) : pI (dD s.2.1 s.2.2.1) (fun _ => False) (drEnd s side).2.2.2.2.2.1 := by
  obtain ⟨a1, a2, a3, a4, a5, a6, a7, a8, a9⟩ := h
  have ne : ∀ i j, i < 4 → j < 4 → i ≠ j → s.2.2.2.1 i ≠ s.2.2.2.1 j := fun i j hi hj hn q => hn (a5 i j (by omega) (by omega) q)
  have gen : ∀ i1 j1 i2 j2, i1 < 4 → j1 < 4 → i2 < 4 → j2 < 4 → i1 ≠ j1 → i2 ≠ j2 → i2 ≠ i1 → i2 ≠ j1 → j2 ≠ i1 → j2 ≠ j1 → pI (dD s.2.1 s.2.2.1) (fun _ => False) (tieN (tieN s.2.2.2.2.2.1 (s.2.2.2.1 i1) (s.2.2.2.1 j1)) (s.2.2.2.1 i2) (s.2.2.2.1 j2)) := by
    intro i1 j1 i2 j2 l1 l2 l3 l4 d1 d2 d3 d4 d5 d6
    have g := (a4.tie (x := s.2.2.2.1 i1) (y := s.2.2.2.1 j1) ⟨i1, by omega, rfl⟩ ⟨j1, by omega, rfl⟩ (ne _ _ l1 l2 d1)).tie (x := s.2.2.2.1 i2) (y := s.2.2.2.1 j2) ⟨⟨i2, by omega, rfl⟩, ne _ _ l3 l1 d3, ne _ _ l3 l2 d4⟩ ⟨⟨j2, by omega, rfl⟩, ne _ _ l4 l1 d5, ne _ _ l4 l2 d6⟩ (ne _ _ l3 l4 d2)
    refine g.congr (fun p => Iff.rfl) (fun p => ⟨?_, fun q => q.elim⟩)
    rintro ⟨⟨⟨k, hk, rfl⟩, n1, n2⟩, n3, n4⟩
    have q1 : k ≠ i1 := fun q => n1 (by rw [q])
    have q2 : k ≠ j1 := fun q => n2 (by rw [q])
    have q3 : k ≠ i2 := fun q => n3 (by rw [q])
    have q4 : k ≠ j2 := fun q => n4 (by rw [q])
    omega
  show pI _ _ (if side = 0 then tieN (tieN s.2.2.2.2.2.1 (s.2.2.2.1 0) (s.2.2.2.1 1)) (s.2.2.2.1 2) (s.2.2.2.1 3) else tieN (tieN s.2.2.2.2.2.1 (s.2.2.2.1 0) (s.2.2.2.1 2)) (s.2.2.2.1 1) (s.2.2.2.1 3))
  by_cases h0 : side = 0
  · rw [if_pos h0]
    exact gen 0 1 2 3 (by omega) (by omega) (by omega) (by omega) (by omega) (by omega) (by omega) (by omega) (by omega) (by omega)
  · rw [if_neg h0]
    exact gen 0 2 1 3 (by omega) (by omega) (by omega) (by omega) (by omega) (by omega) (by omega) (by omega) (by omega) (by omega)
theorem dC.end {m m' : sm_M} {s s' : drS} {x1 y1 x2 y2 : Nat} (hC : dC m s) (hm : m' = tieM (tieM m 18 x1 y1) 18 x2 y2) (hs : s' = (s.1, s.2.1, s.2.2.1, s.2.2.2.1, s.2.2.2.2.1, tieN (tieN s.2.2.2.2.2.1 x1 y1) x2 y2, s.2.2.2.2.2.2)) : dC m' s' := by
  obtain ⟨c1, c2, c3, c4, c5, c6, c7, c8⟩ := hC
  subst hm
  subst hs
  refine ⟨?_, ?_, ?_, ?_, ?_, tieM_up (tieM_up c6), ?_, ?_⟩
  · rw [tieM_oth (by decide), tieM_oth (by decide)]; exact c1
  · rw [tieM_oth (by decide), tieM_oth (by decide)]; exact c2
  · rw [tieM_oth (by decide), tieM_oth (by decide)]; exact c3
  · rw [tieM_oth (by decide), tieM_oth (by decide)]; exact c4
  · rw [tieM_oth (by decide), tieM_oth (by decide)]; exact c5
  · rw [tieM_oth (by decide), tieM_oth (by decide)]; exact c7
  · rw [tieM_oth (by decide), tieM_oth (by decide)]; exact c8
theorem c_draw_loop {Q : sm_M → Prop} {vs : List Value} {a na n side : Nat} {t : Nat → Int} (hly : ∀ S, L S → ly S) (hd : 5 ≤ d) (hT : sm_tan L a na) (ha : 77 ≤ a) (hn : n ≤ na) (hna : na ≤ 100) (hv : okT t n) (hl : lvs t n ≤ 24) (hc : crs t n ≤ 24) (h1 : (ev t n).1 = 1) (hside : side = 0 ∨ side = 1) (m0 : sm_M) (hg : tg m0 a t n) (h : ∀ m', fr dCP m0 m' → dC m' (drEnd (dr t n) side) → sm_callV E L mX2_walkAll 4 0 0 [.ref (sm_B E + 16)] m' Q) :
    ∀ (r j : Nat) (m : sm_M), j + r = n → fr dCP m0 m → dC m (dr t j) → gX2_draw_17 E L d vs a (iI (side : Nat)) (iI (j : Nat)) m Q := by
  have hal := dI_all hv hl hc
  intro r
  induction r with
  | zero =>
    intro j m hj hf hC
    have hjn : j = n := by omega
    subst hjn
    obtain ⟨g1, g2, g3, g4⟩ := hal j (Nat.le_refl _)
    rw [h1] at g2
    have q1 : m.1 a 1 = iI (j : Nat) := (hf.i (by unfold dCP; omega)).trans hg.1
    have lt : ∀ k, k < 4 → (dr t j).2.2.2.1 k < 192 := fun k hk => dD_lt (g1.end_lt (by omega)) g1.1 g1.2.1
    have l0 := lt 0 (by omega)
    have l1 := lt 1 (by omega)
    have l2 := lt 2 (by omega)
    have l3 := lt 3 (by omega)
    have v0 := hC.2.2.2.1 0 (by omega)
    have v1 := hC.2.2.2.1 1 (by omega)
    have v2 := hC.2.2.2.1 2 (by omega)
    have v3 := hC.2.2.2.1 3 (by omega)
    refine vX2_draw_17 hly hd hT ?_
    rcases hside with rfl | rfl
    · have e0 : iI ((0 : Nat) : Int) = iI 0 := rfl
      simp (disch := omega) only [forall_eq, true_and, and_true, false_and, and_false, forall_const, true_implies, implies_true, not_true_eq_false, not_false_eq_true, false_implies, if_true, if_false, ↓reduceIte, Int.toNat_natCast, Int.reduceEq, Int.reduceNe, Int.reduceLT, Int.reduceLE, Int.reduceToNat, Int.reduceAdd, Int.reduceSub, Int.reduceMul, Int.reduceNeg, Nat.reduceAdd, Nat.reduceMul, Nat.reduceSub, iI_lit, jI_lit, iI_add, iI_sub, iI_mul, iI_neg, jI_add, jI_sub, jI_mul, jI_neg, nI_i, lN_j, iI_le, iI_lt, iI_eq, jI_le, jI_lt, jI_eq, iI_in, iI_cl, iI_j, jI_i, cN, inN, wI_eq, wI_ne, wJ_1, wJ_eq, wJ_ne, wI_2, wJ_3, iI_div, iI_rem, jI_div, jI_rem, true_or, or_true, false_or, or_false, eq_self, Nat.add_zero, q1, v0, v1, v2, v3, Int.le_refl, e0]
      refine c_tie hly (by omega) l0 l1 ?_
      simp (disch := omega) only [forall_eq, true_and, and_true, false_and, and_false, forall_const, true_implies, implies_true, not_true_eq_false, not_false_eq_true, false_implies, if_true, if_false, ↓reduceIte, Int.toNat_natCast, Int.reduceEq, Int.reduceNe, Int.reduceLT, Int.reduceLE, Int.reduceToNat, Int.reduceAdd, Int.reduceSub, Int.reduceMul, Int.reduceNeg, Nat.reduceAdd, Nat.reduceMul, Nat.reduceSub, iI_lit, jI_lit, iI_add, iI_sub, iI_mul, iI_neg, jI_add, jI_sub, jI_mul, jI_neg, nI_i, lN_j, iI_le, iI_lt, iI_eq, jI_le, jI_lt, jI_eq, iI_in, iI_cl, iI_j, jI_i, cN, inN, wI_eq, wI_ne, wJ_1, wJ_eq, wJ_ne, wI_2, wJ_3, iI_div, iI_rem, jI_div, jI_rem, true_or, or_true, false_or, or_false, eq_self, Nat.add_zero, tieM_oth, v2, v3]
      refine c_tie hly (by omega) l2 l3 ?_
      exact h _ (tieM_fr (tieM_fr hf (fun k => ⟨by decide, by decide⟩)) (fun k => ⟨by decide, by decide⟩)) (hC.end rfl rfl)
    · have e0 : iI ((1 : Nat) : Int) = iI 1 := rfl
      simp (disch := omega) only [forall_eq, true_and, and_true, false_and, and_false, forall_const, true_implies, implies_true, not_true_eq_false, not_false_eq_true, false_implies, if_true, if_false, ↓reduceIte, Int.toNat_natCast, Int.reduceEq, Int.reduceNe, Int.reduceLT, Int.reduceLE, Int.reduceToNat, Int.reduceAdd, Int.reduceSub, Int.reduceMul, Int.reduceNeg, Nat.reduceAdd, Nat.reduceMul, Nat.reduceSub, iI_lit, jI_lit, iI_add, iI_sub, iI_mul, iI_neg, jI_add, jI_sub, jI_mul, jI_neg, nI_i, lN_j, iI_le, iI_lt, iI_eq, jI_le, jI_lt, jI_eq, iI_in, iI_cl, iI_j, jI_i, cN, inN, wI_eq, wI_ne, wJ_1, wJ_eq, wJ_ne, wI_2, wJ_3, iI_div, iI_rem, jI_div, jI_rem, true_or, or_true, false_or, or_false, eq_self, Nat.add_zero, q1, v0, v1, v2, v3, Int.le_refl, e0]
      refine c_tie hly (by omega) l0 l2 ?_
      simp (disch := omega) only [forall_eq, true_and, and_true, false_and, and_false, forall_const, true_implies, implies_true, not_true_eq_false, not_false_eq_true, false_implies, if_true, if_false, ↓reduceIte, Int.toNat_natCast, Int.reduceEq, Int.reduceNe, Int.reduceLT, Int.reduceLE, Int.reduceToNat, Int.reduceAdd, Int.reduceSub, Int.reduceMul, Int.reduceNeg, Nat.reduceAdd, Nat.reduceMul, Nat.reduceSub, iI_lit, jI_lit, iI_add, iI_sub, iI_mul, iI_neg, jI_add, jI_sub, jI_mul, jI_neg, nI_i, lN_j, iI_le, iI_lt, iI_eq, jI_le, jI_lt, jI_eq, iI_in, iI_cl, iI_j, jI_i, cN, inN, wI_eq, wI_ne, wJ_1, wJ_eq, wJ_ne, wI_2, wJ_3, iI_div, iI_rem, jI_div, jI_rem, true_or, or_true, false_or, or_false, eq_self, Nat.add_zero, tieM_oth, v1, v3]
      refine c_tie hly (by omega) l1 l3 ?_
      exact h _ (tieM_fr (tieM_fr hf (fun k => ⟨by decide, by decide⟩)) (fun k => ⟨by decide, by decide⟩)) (hC.end rfl rfl)
  | succ r ih =>
    intro j m hj hf hC
    obtain ⟨g1, g2, g3, g4⟩ := hal j (by omega)
    obtain ⟨k1, k2, k3, k4⟩ := hal (j + 1) (by omega)
    have hz := hv j (by omega)
    have q1 : m.1 a 1 = iI (n : Nat) := (hf.i (by unfold dCP; omega)).trans hg.1
    have q2 : m.1 (a + 1) j = iI (t j) := (hf.i (by unfold dCP; omega)).trans (hg.2.1 j (by omega))
    have u : ¬ ((n : Int) ≤ (j : Int)) := by omega
    have hl2 : ∀ q, lvs t j ≤ lvs t (j + q) ∧ crs t j ≤ crs t (j + q) := by
      intro q
      induction q with
      | zero => exact ⟨Nat.le_refl _, Nat.le_refl _⟩
      | succ q ihq =>
        have h2 : lvs t (j + q) ≤ lvs t (j + q + 1) := Nat.le_add_right _ _
        have h3 : crs t (j + q) ≤ crs t (j + q + 1) := Nat.le_add_right _ _
        exact ⟨Nat.le_trans ihq.1 h2, Nat.le_trans ihq.2 h3⟩
    have hl3 : lvs t (j + 1) ≤ 24 ∧ crs t (j + 1) ≤ 24 := by
      have hq : ∀ q, lvs t (j + 1) ≤ lvs t (j + 1 + q) ∧ crs t (j + 1) ≤ crs t (j + 1 + q) := by
        intro q
        induction q with
        | zero => exact ⟨Nat.le_refl _, Nat.le_refl _⟩
        | succ q ihq =>
          have h2 : lvs t (j + 1 + q) ≤ lvs t (j + 1 + q + 1) := Nat.le_add_right _ _
          have h3 : crs t (j + 1 + q) ≤ crs t (j + 1 + q + 1) := Nat.le_add_right _ _
          exact ⟨Nat.le_trans ihq.1 h2, Nat.le_trans ihq.2 h3⟩
      have := hq r
      rw [show j + 1 + r = n by omega] at this
      omega
    have hev := ev_h t j
    refine vX2_draw_17 hly hd hT ?_
    simp (disch := omega) only [forall_eq, true_and, and_true, false_and, and_false, forall_const, true_implies, implies_true, not_true_eq_false, not_false_eq_true, false_implies, if_true, if_false, ↓reduceIte, Int.toNat_natCast, Int.reduceEq, Int.reduceNe, Int.reduceLT, Int.reduceLE, Int.reduceToNat, Int.reduceAdd, Int.reduceSub, Int.reduceMul, Int.reduceNeg, Nat.reduceAdd, Nat.reduceMul, Nat.reduceSub, iI_lit, jI_lit, iI_add, iI_sub, iI_mul, iI_neg, jI_add, jI_sub, jI_mul, jI_neg, nI_i, lN_j, iI_le, iI_lt, iI_eq, jI_le, jI_lt, jI_eq, iI_in, iI_cl, iI_j, jI_i, cN, inN, wI_eq, wI_ne, wJ_1, wJ_eq, wJ_ne, wI_2, wJ_3, iI_div, iI_rem, jI_div, jI_rem, true_or, or_true, false_or, or_false, eq_self, Nat.add_zero, q1, q2, u]
    refine ⟨by omega, c_place hly (by omega) g1 hC hz.1 hz.2.1 (fun q => by have := hz.2.2.1 q; omega) (fun q q2 => by have := hz.2.2.2 q q2; omega) (fun q => ?_) (fun m' f1 C1 => ?_)⟩
    · have l1 : lvs t (j + 1) = lvs t j + (if t j ≤ 10 then 1 else 0) := rfl
      have c1 : crs t (j + 1) = crs t j + (if t j < 10 then (t j).natAbs else 0) := rfl
      rw [if_pos q] at l1
      exact ⟨by omega, by omega, by rw [g3]; omega⟩
    · exact ih (j + 1) m' (by omega) (hf.tr f1) C1
theorem c_draw {Q : sm_M → Prop} {m : sm_M} {a na n side : Nat} {t : Nat → Int} (hly : ∀ S, L S → ly S) (hd : 5 ≤ d) (hT : sm_tan L a na) (ha : 77 ≤ a) (hn : n ≤ na) (hna : na ≤ 100) (hv : okT t n) (hl : lvs t n ≤ 24) (hc : crs t n ≤ 24) (h1 : (ev t n).1 = 1) (hside : side = 0 ∨ side = 1) (hg : tg m a t n) (h : ∀ m', fr dCP m m' → dC m' (drEnd (dr t n) side) → sm_callV E L mX2_walkAll 4 0 0 [.ref (sm_B E + 16)] m' Q) : sm_callV E L mX2_draw d 0 0 [.ref (sm_B E + 16), .ref (sm_B E + a), .int (iI (side : Nat))] m Q := by
  refine vX2_draw_0 hly hd hT ?_
  simp (disch := omega) only [forall_eq, true_and, and_true, false_and, and_false, forall_const, true_implies, implies_true, not_true_eq_false, not_false_eq_true, false_implies, if_true, if_false, ↓reduceIte, Int.toNat_natCast, Int.reduceEq, Int.reduceNe, Int.reduceLT, Int.reduceLE, Int.reduceToNat, Int.reduceAdd, Int.reduceSub, Int.reduceMul, Int.reduceNeg, Nat.reduceAdd, Nat.reduceMul, Nat.reduceSub, iI_lit, jI_lit, iI_add, iI_sub, iI_mul, iI_neg, jI_add, jI_sub, jI_mul, jI_neg, nI_i, lN_j, iI_le, iI_lt, iI_eq, jI_le, jI_lt, jI_eq, iI_in, iI_cl, iI_j, jI_i, cN, inN, wI_eq, wI_ne, wJ_1, wJ_eq, wJ_ne, wI_2, wJ_3, iI_div, iI_rem, jI_div, jI_rem, true_or, or_true, false_or, or_false, eq_self, Nat.add_zero]
  have f1 : fr dCP m (sm_wI (sm_wI (sm_wI m 16 10 (iI 0)) 16 13 (iI 0)) 16 14 (iI 0)) := ((fr.rf.wI ⟨by decide, by decide⟩).wI ⟨by decide, by decide⟩).wI ⟨by decide, by decide⟩
  refine c_draw_loop hly hd hT ha hn hna hv hl hc h1 hside m hg h n 0 _ (by omega) f1 ⟨?_, ?_, ?_, fun k hk => ?_, fun k hk => ?_, fun p hp => ?_, fun b hb => ?_, fun b hb => ?_⟩
  · simp (disch := omega) only [forall_eq, true_and, and_true, false_and, and_false, forall_const, true_implies, implies_true, not_true_eq_false, not_false_eq_true, false_implies, if_true, if_false, ↓reduceIte, Int.toNat_natCast, Int.reduceEq, Int.reduceNe, Int.reduceLT, Int.reduceLE, Int.reduceToNat, Int.reduceAdd, Int.reduceSub, Int.reduceMul, Int.reduceNeg, Nat.reduceAdd, Nat.reduceMul, Nat.reduceSub, iI_lit, jI_lit, iI_add, iI_sub, iI_mul, iI_neg, jI_add, jI_sub, jI_mul, jI_neg, nI_i, lN_j, iI_le, iI_lt, iI_eq, jI_le, jI_lt, jI_eq, iI_in, iI_cl, iI_j, jI_i, cN, inN, wI_eq, wI_ne, wJ_1, wJ_eq, wJ_ne, wI_2, wJ_3, iI_div, iI_rem, jI_div, jI_rem, true_or, or_true, false_or, or_false, eq_self, Nat.add_zero]
    rfl
  · simp (disch := omega) only [forall_eq, true_and, and_true, false_and, and_false, forall_const, true_implies, implies_true, not_true_eq_false, not_false_eq_true, false_implies, if_true, if_false, ↓reduceIte, Int.toNat_natCast, Int.reduceEq, Int.reduceNe, Int.reduceLT, Int.reduceLE, Int.reduceToNat, Int.reduceAdd, Int.reduceSub, Int.reduceMul, Int.reduceNeg, Nat.reduceAdd, Nat.reduceMul, Nat.reduceSub, iI_lit, jI_lit, iI_add, iI_sub, iI_mul, iI_neg, jI_add, jI_sub, jI_mul, jI_neg, nI_i, lN_j, iI_le, iI_lt, iI_eq, jI_le, jI_lt, jI_eq, iI_in, iI_cl, iI_j, jI_i, cN, inN, wI_eq, wI_ne, wJ_1, wJ_eq, wJ_ne, wI_2, wJ_3, iI_div, iI_rem, jI_div, jI_rem, true_or, or_true, false_or, or_false, eq_self, Nat.add_zero]
    rfl
  · simp (disch := omega) only [forall_eq, true_and, and_true, false_and, and_false, forall_const, true_implies, implies_true, not_true_eq_false, not_false_eq_true, false_implies, if_true, if_false, ↓reduceIte, Int.toNat_natCast, Int.reduceEq, Int.reduceNe, Int.reduceLT, Int.reduceLE, Int.reduceToNat, Int.reduceAdd, Int.reduceSub, Int.reduceMul, Int.reduceNeg, Nat.reduceAdd, Nat.reduceMul, Nat.reduceSub, iI_lit, jI_lit, iI_add, iI_sub, iI_mul, iI_neg, jI_add, jI_sub, jI_mul, jI_neg, nI_i, lN_j, iI_le, iI_lt, iI_eq, jI_le, jI_lt, jI_eq, iI_in, iI_cl, iI_j, jI_i, cN, inN, wI_eq, wI_ne, wJ_1, wJ_eq, wJ_ne, wI_2, wJ_3, iI_div, iI_rem, jI_div, jI_rem, true_or, or_true, false_or, or_false, eq_self, Nat.add_zero]
    rfl
  · exact absurd hk (Nat.not_lt_zero _)
  · exact absurd hk (Nat.not_lt_zero _)
  · exact absurd rfl hp
  · exact absurd rfl hb
  · exact absurd rfl hb
end LAZ
