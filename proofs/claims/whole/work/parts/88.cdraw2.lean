/-! the class draws: mirror, leaf, all -/
section DRX
variable {E : sm_E} {L : sm_S → Prop} {d : Nat}
theorem c_flip_loop {Q : sm_M → Prop} {vs : List Value} {c f : Nat} {po : Nat → Nat} (hly : ∀ S, L S → ly S) (hd : 1 ≤ d) (hc : c ≤ 24) (hpo : ∀ b, b < c → po b = 0 ∨ po b = 1) (m0 : sm_M) (h : ∀ m', fr (fun a k => a = 22 ∧ f ≤ k ∧ k < c) m0 m' → (∀ b, f ≤ b → b < c → m'.1 22 b = iI ((1 - po b : Nat) : Int)) → Q m') :
    ∀ (r j : Nat) (m : sm_M), j + r = c → f ≤ j → m.1 16 10 = iI (c : Nat) → fr (fun a k => a = 22 ∧ f ≤ k ∧ k < c) m0 m → (∀ b, f ≤ b → b < j → m.1 22 b = iI ((1 - po b : Nat) : Int)) → (∀ b, j ≤ b → b < c → m.1 22 b = iI (po b : Nat)) → gX2_flipCrossings_21 E L d vs (iI (j : Nat)) m Q := by
  intro r
  induction r with
  | zero =>
    intro j m hj hfj h1 hf hb1 hb2
    refine vX2_flipCrossings_21 hly hd ?_
    simp (disch := omega) only [forall_eq, true_and, and_true, false_and, and_false, forall_const, true_implies, implies_true, not_true_eq_false, not_false_eq_true, false_implies, if_true, if_false, ↓reduceIte, Int.toNat_natCast, Int.reduceEq, Int.reduceNe, Int.reduceLT, Int.reduceLE, Int.reduceToNat, Int.reduceAdd, Int.reduceSub, Int.reduceMul, Int.reduceNeg, Nat.reduceAdd, Nat.reduceMul, Nat.reduceSub, iI_lit, jI_lit, iI_add, iI_sub, iI_mul, iI_neg, jI_add, jI_sub, jI_mul, jI_neg, nI_i, lN_j, iI_le, iI_lt, iI_eq, jI_le, jI_lt, jI_eq, iI_in, iI_cl, iI_j, jI_i, cN, inN, wI_eq, wI_ne, wJ_1, wJ_eq, wJ_ne, wI_2, wJ_3, iI_div, iI_rem, jI_div, jI_rem, true_or, or_true, false_or, or_false, eq_self, Nat.add_zero, h1]
    refine ⟨fun _ => h m hf (fun b h2 h3 => hb1 b h2 (by omega)), fun hc => by omega⟩
  | succ r ih =>
    intro j m hj hfj h1 hf hb1 hb2
    have v := hb2 j (Nat.le_refl _) (by omega)
    refine vX2_flipCrossings_21 hly hd ?_
    have go : ∀ w : Nat, w = 1 - po j → gX2_flipCrossings_21 E L d vs (iI ((j : Int) + 1)) (sm_wI m 22 j (iI (w : Nat))) Q := by
      intro w hw
      refine ih (j + 1) _ (by omega) (by omega) (by simp (disch := omega) only [forall_eq, true_and, and_true, false_and, and_false, forall_const, true_implies, implies_true, not_true_eq_false, not_false_eq_true, false_implies, if_true, if_false, ↓reduceIte, Int.toNat_natCast, Int.reduceEq, Int.reduceNe, Int.reduceLT, Int.reduceLE, Int.reduceToNat, Int.reduceAdd, Int.reduceSub, Int.reduceMul, Int.reduceNeg, Nat.reduceAdd, Nat.reduceMul, Nat.reduceSub, iI_lit, jI_lit, iI_add, iI_sub, iI_mul, iI_neg, jI_add, jI_sub, jI_mul, jI_neg, nI_i, lN_j, iI_le, iI_lt, iI_eq, jI_le, jI_lt, jI_eq, iI_in, iI_cl, iI_j, jI_i, cN, inN, wI_eq, wI_ne, wJ_1, wJ_eq, wJ_ne, wI_2, wJ_3, iI_div, iI_rem, jI_div, jI_rem, true_or, or_true, false_or, or_false, eq_self, Nat.add_zero, h1]) (hf.wI ⟨rfl, by omega, by omega⟩) (fun b hb3 hb4 => ?_) (fun b hb3 hb4 => ?_)
      · by_cases hbj : b = j
        · rw [wI_eq rfl hbj, hw, hbj]
        · rw [wI_ne (Or.inr hbj)]; exact hb1 b hb3 (by omega)
      · rw [wI_ne (Or.inr (by omega))]; exact hb2 b (by omega) hb4
    rcases hpo j (by omega) with hp | hp
    · rw [hp] at v
      have v' : m.1 22 j = iI 0 := v
      simp (disch := omega) only [forall_eq, true_and, and_true, false_and, and_false, forall_const, true_implies, implies_true, not_true_eq_false, not_false_eq_true, false_implies, if_true, if_false, ↓reduceIte, Int.toNat_natCast, Int.reduceEq, Int.reduceNe, Int.reduceLT, Int.reduceLE, Int.reduceToNat, Int.reduceAdd, Int.reduceSub, Int.reduceMul, Int.reduceNeg, Nat.reduceAdd, Nat.reduceMul, Nat.reduceSub, iI_lit, jI_lit, iI_add, iI_sub, iI_mul, iI_neg, jI_add, jI_sub, jI_mul, jI_neg, nI_i, lN_j, iI_le, iI_lt, iI_eq, jI_le, jI_lt, jI_eq, iI_in, iI_cl, iI_j, jI_i, cN, inN, wI_eq, wI_ne, wJ_1, wJ_eq, wJ_ne, wI_2, wJ_3, iI_div, iI_rem, jI_div, jI_rem, true_or, or_true, false_or, or_false, eq_self, Nat.add_zero, h1, v']
      exact ⟨fun hc => by omega, fun _ => ⟨by omega, by omega, go 1 (by omega)⟩⟩
    · rw [hp] at v
      have v' : m.1 22 j = iI 1 := v
      simp (disch := omega) only [forall_eq, true_and, and_true, false_and, and_false, forall_const, true_implies, implies_true, not_true_eq_false, not_false_eq_true, false_implies, if_true, if_false, ↓reduceIte, Int.toNat_natCast, Int.reduceEq, Int.reduceNe, Int.reduceLT, Int.reduceLE, Int.reduceToNat, Int.reduceAdd, Int.reduceSub, Int.reduceMul, Int.reduceNeg, Nat.reduceAdd, Nat.reduceMul, Nat.reduceSub, iI_lit, jI_lit, iI_add, iI_sub, iI_mul, iI_neg, jI_add, jI_sub, jI_mul, jI_neg, nI_i, lN_j, iI_le, iI_lt, iI_eq, jI_le, jI_lt, jI_eq, iI_in, iI_cl, iI_j, jI_i, cN, inN, wI_eq, wI_ne, wJ_1, wJ_eq, wJ_ne, wI_2, wJ_3, iI_div, iI_rem, jI_div, jI_rem, true_or, or_true, false_or, or_false, eq_self, Nat.add_zero, h1, v']
      exact ⟨fun hc => by omega, fun _ => ⟨by omega, by omega, go 0 (by omega)⟩⟩
theorem c_flip {Q : sm_M → Prop} {m : sm_M} {s : drS} (hly : ∀ S, L S → ly S) (hd : 1 ≤ d) (hs : 1 ≤ s.1) (hI : dI s) (hC : dC m s) (h : ∀ m', fr dCP m m' → dC m' (drMir s) → Q m') : sm_callV E L mX2_flipCrossings d 0 0 [.ref (sm_B E + 16)] m Q := by
  obtain ⟨c1, c2, c3, c4, c5, c6, c7, c8⟩ := hC
  obtain ⟨a1, a2, a3, a4, a5, a6, a7, a8, a9⟩ := hI
  obtain ⟨g, hg⟩ : ∃ g, s.1 = g + 1 := ⟨s.1 - 1, by omega⟩
  have c3' : m.1 16 14 = iI ((g : Int) + 1) := by rw [c3, hg]; congr 1
  have e0 : ((g : Int) + 1 - 1).toNat = g := by omega
  have v0 := c5 g (by omega)
  have hf := a6 g (by omega)
  refine vX2_flipCrossings_0 hly hd ?_
  simp (disch := omega) only [forall_eq, true_and, and_true, false_and, and_false, forall_const, true_implies, implies_true, not_true_eq_false, not_false_eq_true, false_implies, if_true, if_false, ↓reduceIte, Int.toNat_natCast, Int.reduceEq, Int.reduceNe, Int.reduceLT, Int.reduceLE, Int.reduceToNat, Int.reduceAdd, Int.reduceSub, Int.reduceMul, Int.reduceNeg, Nat.reduceAdd, Nat.reduceMul, Nat.reduceSub, iI_lit, jI_lit, iI_add, iI_sub, iI_mul, iI_neg, jI_add, jI_sub, jI_mul, jI_neg, nI_i, lN_j, iI_le, iI_lt, iI_eq, jI_le, jI_lt, jI_eq, iI_in, iI_cl, iI_j, jI_i, cN, inN, wI_eq, wI_ne, wJ_1, wJ_eq, wJ_ne, wI_2, wJ_3, iI_div, iI_rem, jI_div, jI_rem, true_or, or_true, false_or, or_false, eq_self, Nat.add_zero, c3', e0, v0]
  refine ⟨fun _ => ⟨by omega, ?_⟩, fun hc => by omega⟩
  refine c_flip_loop (f := s.2.2.2.2.1 g) (c := s.2.1) (po := s.2.2.2.2.2.2.2) hly hd a1 a9 m (fun m' f1 f2 => ?_) (s.2.1 - s.2.2.2.2.1 g) _ m (by omega) (Nat.le_refl _) c1 fr.rf (fun b h1 h2 => absurd h1 (by omega)) (fun b h1 h2 => c8 b (by have := a9 b h2; omega))
  have hgg : s.1 - 1 = g := by omega
  refine h m' (f1.mono (fun a k hk => ⟨by omega, by omega⟩)) ⟨?_, ?_, ?_, ?_, ?_, ?_, ?_, ?_⟩
  · rw [f1.i (by omega)]; exact c1
  · rw [f1.i (by omega)]; exact c2
  · rw [f1.i (by omega)]; exact c3
  · intro k hk
    rw [f1.i (by omega)]; exact c4 k hk
  · intro k hk
    rw [f1.i (by omega)]; exact c5 k hk
  · intro k hk
    rw [f1.i (by omega)]; exact c6 k hk
  · intro k hk
    rw [f1.i (by omega)]; exact c7 k hk
  · intro b hb
    have hb2 : (if s.2.2.2.2.1 (s.1 - 1) ≤ b ∧ b < s.2.1 then 1 - s.2.2.2.2.2.2.2 b else s.2.2.2.2.2.2.2 b) ≠ 9 := hb
    show m'.1 22 b = iI ((if s.2.2.2.2.1 (s.1 - 1) ≤ b ∧ b < s.2.1 then 1 - s.2.2.2.2.2.2.2 b else s.2.2.2.2.2.2.2 b : Nat) : Int)
    rw [hgg] at hb2 ⊢
    by_cases hcond : s.2.2.2.2.1 g ≤ b ∧ b < s.2.1
    · rw [if_pos hcond]
      exact f2 b hcond.1 hcond.2
    · rw [if_neg hcond] at hb2 ⊢
      rw [f1.i (by omega)]
      exact c8 b hb2
/-- all but the height's own ends, while a leaf is laid -/
theorem dC.F {m : sm_M} {s : drS} (hC : dC m s) : dC (sm_wI m 21 s.1 (iI (s.2.1 : Nat))) (drF s) := by
  obtain ⟨c1, c2, c3, c4, c5, c6, c7, c8⟩ := hC
  refine ⟨?_, ?_, ?_, ?_, ?_, ?_, ?_, ?_⟩
  · rw [wI_oth (by decide)]; exact c1
  · rw [wI_oth (by decide)]; exact c2
  · rw [wI_oth (by decide)]; exact c3
  · rw [wI_oth (by decide)]; exact c4
  · exact wI_up c5
  · rw [wI_oth (by decide)]; exact c6
  · rw [wI_oth (by decide)]; exact c7
  · rw [wI_oth (by decide)]; exact c8
/-- a crossing more -/
theorem dC.X {m : sm_M} {s : drS} {v : Nat} {b : Bool} (hC : dC m s) (hb : b = false → 1 ≤ s.2.1) (m1 : sm_M) (hm1 : m1 = sm_wI (sm_wI m 17 s.2.1 (iI (3 : Nat))) 22 s.2.1 (iI (v : Nat))) : dC (sm_wI (if b then m1 else tieM (tieM m1 18 (4 * s.2.1 - 3) (4 * s.2.1)) 18 (4 * s.2.1 - 1) (4 * s.2.1 + 2)) 16 10 (iI ((s.2.1 + 1 : Nat) : Int))) (drX s v b) := by
  obtain ⟨c1, c2, c3, c4, c5, c6, c7, c8⟩ := hC
  subst hm1
  cases b
  · refine ⟨?_, ?_, ?_, ?_, ?_, ?_, ?_, ?_⟩
    · rw [wI_eq rfl rfl]; rfl
    · simp (disch := omega) only [forall_eq, true_and, and_true, false_and, and_false, forall_const, true_implies, implies_true, not_true_eq_false, not_false_eq_true, false_implies, if_true, if_false, ↓reduceIte, Int.toNat_natCast, Int.reduceEq, Int.reduceNe, Int.reduceLT, Int.reduceLE, Int.reduceToNat, Int.reduceAdd, Int.reduceSub, Int.reduceMul, Int.reduceNeg, Nat.reduceAdd, Nat.reduceMul, Nat.reduceSub, iI_lit, jI_lit, iI_add, iI_sub, iI_mul, iI_neg, jI_add, jI_sub, jI_mul, jI_neg, nI_i, lN_j, iI_le, iI_lt, iI_eq, jI_le, jI_lt, jI_eq, iI_in, iI_cl, iI_j, jI_i, cN, inN, wI_eq, wI_ne, wJ_1, wJ_eq, wJ_ne, wI_2, wJ_3, iI_div, iI_rem, jI_div, jI_rem, true_or, or_true, false_or, or_false, eq_self, Nat.add_zero, tieM_oth, Bool.false_eq_true]
      exact c2
    · simp (disch := omega) only [forall_eq, true_and, and_true, false_and, and_false, forall_const, true_implies, implies_true, not_true_eq_false, not_false_eq_true, false_implies, if_true, if_false, ↓reduceIte, Int.toNat_natCast, Int.reduceEq, Int.reduceNe, Int.reduceLT, Int.reduceLE, Int.reduceToNat, Int.reduceAdd, Int.reduceSub, Int.reduceMul, Int.reduceNeg, Nat.reduceAdd, Nat.reduceMul, Nat.reduceSub, iI_lit, jI_lit, iI_add, iI_sub, iI_mul, iI_neg, jI_add, jI_sub, jI_mul, jI_neg, nI_i, lN_j, iI_le, iI_lt, iI_eq, jI_le, jI_lt, jI_eq, iI_in, iI_cl, iI_j, jI_i, cN, inN, wI_eq, wI_ne, wJ_1, wJ_eq, wJ_ne, wI_2, wJ_3, iI_div, iI_rem, jI_div, jI_rem, true_or, or_true, false_or, or_false, eq_self, Nat.add_zero, tieM_oth, Bool.false_eq_true]
      exact c3
    · intro k hk
      simp (disch := omega) only [forall_eq, true_and, and_true, false_and, and_false, forall_const, true_implies, implies_true, not_true_eq_false, not_false_eq_true, false_implies, if_true, if_false, ↓reduceIte, Int.toNat_natCast, Int.reduceEq, Int.reduceNe, Int.reduceLT, Int.reduceLE, Int.reduceToNat, Int.reduceAdd, Int.reduceSub, Int.reduceMul, Int.reduceNeg, Nat.reduceAdd, Nat.reduceMul, Nat.reduceSub, iI_lit, jI_lit, iI_add, iI_sub, iI_mul, iI_neg, jI_add, jI_sub, jI_mul, jI_neg, nI_i, lN_j, iI_le, iI_lt, iI_eq, jI_le, jI_lt, jI_eq, iI_in, iI_cl, iI_j, jI_i, cN, inN, wI_eq, wI_ne, wJ_1, wJ_eq, wJ_ne, wI_2, wJ_3, iI_div, iI_rem, jI_div, jI_rem, true_or, or_true, false_or, or_false, eq_self, Nat.add_zero, tieM_oth, Bool.false_eq_true]
      exact c4 k hk
    · intro k hk
      simp (disch := omega) only [forall_eq, true_and, and_true, false_and, and_false, forall_const, true_implies, implies_true, not_true_eq_false, not_false_eq_true, false_implies, if_true, if_false, ↓reduceIte, Int.toNat_natCast, Int.reduceEq, Int.reduceNe, Int.reduceLT, Int.reduceLE, Int.reduceToNat, Int.reduceAdd, Int.reduceSub, Int.reduceMul, Int.reduceNeg, Nat.reduceAdd, Nat.reduceMul, Nat.reduceSub, iI_lit, jI_lit, iI_add, iI_sub, iI_mul, iI_neg, jI_add, jI_sub, jI_mul, jI_neg, nI_i, lN_j, iI_le, iI_lt, iI_eq, jI_le, jI_lt, jI_eq, iI_in, iI_cl, iI_j, jI_i, cN, inN, wI_eq, wI_ne, wJ_1, wJ_eq, wJ_ne, wI_2, wJ_3, iI_div, iI_rem, jI_div, jI_rem, true_or, or_true, false_or, or_false, eq_self, Nat.add_zero, tieM_oth, Bool.false_eq_true]
      exact c5 k hk
    · rw [wI_oth (by decide)]
      refine tieM_up (tieM_up ?_)
      rw [wI_oth (by decide), wI_oth (by decide)]
      exact c6
    · rw [wI_oth (by decide)]
      show ∀ b, upN s.2.2.2.2.2.2.1 s.2.1 3 b ≠ 0 → (tieM (tieM (sm_wI (sm_wI m 17 s.2.1 (iI (3 : Nat))) 22 s.2.1 (iI (v : Nat))) 18 (4 * s.2.1 - 3) (4 * s.2.1)) 18 (4 * s.2.1 - 1) (4 * s.2.1 + 2)).1 17 b = iI (upN s.2.2.2.2.2.2.1 s.2.1 3 b : Nat)
      rw [tieM_oth (by decide), tieM_oth (by decide), wI_oth (by decide)]
      exact wI_upU c7
    · rw [wI_oth (by decide)]
      show ∀ b, upN s.2.2.2.2.2.2.2 s.2.1 v b ≠ 9 → (tieM (tieM (sm_wI (sm_wI m 17 s.2.1 (iI (3 : Nat))) 22 s.2.1 (iI (v : Nat))) 18 (4 * s.2.1 - 3) (4 * s.2.1)) 18 (4 * s.2.1 - 1) (4 * s.2.1 + 2)).1 22 b = iI (upN s.2.2.2.2.2.2.2 s.2.1 v b : Nat)
      rw [tieM_oth (by decide), tieM_oth (by decide)]
      refine wI_upU ?_
      rw [wI_oth (by decide)]
      exact c8
  · refine ⟨?_, ?_, ?_, ?_, ?_, ?_, ?_, ?_⟩
    · rw [wI_eq rfl rfl]; rfl
    · simp (disch := omega) only [forall_eq, true_and, and_true, false_and, and_false, forall_const, true_implies, implies_true, not_true_eq_false, not_false_eq_true, false_implies, if_true, if_false, ↓reduceIte, Int.toNat_natCast, Int.reduceEq, Int.reduceNe, Int.reduceLT, Int.reduceLE, Int.reduceToNat, Int.reduceAdd, Int.reduceSub, Int.reduceMul, Int.reduceNeg, Nat.reduceAdd, Nat.reduceMul, Nat.reduceSub, iI_lit, jI_lit, iI_add, iI_sub, iI_mul, iI_neg, jI_add, jI_sub, jI_mul, jI_neg, nI_i, lN_j, iI_le, iI_lt, iI_eq, jI_le, jI_lt, jI_eq, iI_in, iI_cl, iI_j, jI_i, cN, inN, wI_eq, wI_ne, wJ_1, wJ_eq, wJ_ne, wI_2, wJ_3, iI_div, iI_rem, jI_div, jI_rem, true_or, or_true, false_or, or_false, eq_self, Nat.add_zero]
      exact c2
    · simp (disch := omega) only [forall_eq, true_and, and_true, false_and, and_false, forall_const, true_implies, implies_true, not_true_eq_false, not_false_eq_true, false_implies, if_true, if_false, ↓reduceIte, Int.toNat_natCast, Int.reduceEq, Int.reduceNe, Int.reduceLT, Int.reduceLE, Int.reduceToNat, Int.reduceAdd, Int.reduceSub, Int.reduceMul, Int.reduceNeg, Nat.reduceAdd, Nat.reduceMul, Nat.reduceSub, iI_lit, jI_lit, iI_add, iI_sub, iI_mul, iI_neg, jI_add, jI_sub, jI_mul, jI_neg, nI_i, lN_j, iI_le, iI_lt, iI_eq, jI_le, jI_lt, jI_eq, iI_in, iI_cl, iI_j, jI_i, cN, inN, wI_eq, wI_ne, wJ_1, wJ_eq, wJ_ne, wI_2, wJ_3, iI_div, iI_rem, jI_div, jI_rem, true_or, or_true, false_or, or_false, eq_self, Nat.add_zero]
      exact c3
    · intro k hk
      simp (disch := omega) only [forall_eq, true_and, and_true, false_and, and_false, forall_const, true_implies, implies_true, not_true_eq_false, not_false_eq_true, false_implies, if_true, if_false, ↓reduceIte, Int.toNat_natCast, Int.reduceEq, Int.reduceNe, Int.reduceLT, Int.reduceLE, Int.reduceToNat, Int.reduceAdd, Int.reduceSub, Int.reduceMul, Int.reduceNeg, Nat.reduceAdd, Nat.reduceMul, Nat.reduceSub, iI_lit, jI_lit, iI_add, iI_sub, iI_mul, iI_neg, jI_add, jI_sub, jI_mul, jI_neg, nI_i, lN_j, iI_le, iI_lt, iI_eq, jI_le, jI_lt, jI_eq, iI_in, iI_cl, iI_j, jI_i, cN, inN, wI_eq, wI_ne, wJ_1, wJ_eq, wJ_ne, wI_2, wJ_3, iI_div, iI_rem, jI_div, jI_rem, true_or, or_true, false_or, or_false, eq_self, Nat.add_zero]
      exact c4 k hk
    · intro k hk
      simp (disch := omega) only [forall_eq, true_and, and_true, false_and, and_false, forall_const, true_implies, implies_true, not_true_eq_false, not_false_eq_true, false_implies, if_true, if_false, ↓reduceIte, Int.toNat_natCast, Int.reduceEq, Int.reduceNe, Int.reduceLT, Int.reduceLE, Int.reduceToNat, Int.reduceAdd, Int.reduceSub, Int.reduceMul, Int.reduceNeg, Nat.reduceAdd, Nat.reduceMul, Nat.reduceSub, iI_lit, jI_lit, iI_add, iI_sub, iI_mul, iI_neg, jI_add, jI_sub, jI_mul, jI_neg, nI_i, lN_j, iI_le, iI_lt, iI_eq, jI_le, jI_lt, jI_eq, iI_in, iI_cl, iI_j, jI_i, cN, inN, wI_eq, wI_ne, wJ_1, wJ_eq, wJ_ne, wI_2, wJ_3, iI_div, iI_rem, jI_div, jI_rem, true_or, or_true, false_or, or_false, eq_self, Nat.add_zero]
      exact c5 k hk
    · rw [wI_oth (by decide)]
      show ∀ b, s.2.2.2.2.2.1 b ≠ 999 → (sm_wI (sm_wI m 17 s.2.1 (iI (3 : Nat))) 22 s.2.1 (iI (v : Nat))).1 18 b = iI (s.2.2.2.2.2.1 b : Nat)
      rw [wI_oth (by decide), wI_oth (by decide)]
      exact c6
    · rw [wI_oth (by decide)]
      show ∀ b, upN s.2.2.2.2.2.2.1 s.2.1 3 b ≠ 0 → (sm_wI (sm_wI m 17 s.2.1 (iI (3 : Nat))) 22 s.2.1 (iI (v : Nat))).1 17 b = iI (upN s.2.2.2.2.2.2.1 s.2.1 3 b : Nat)
      rw [wI_oth (by decide)]
      exact wI_upU c7
    · rw [wI_oth (by decide)]
      show ∀ b, upN s.2.2.2.2.2.2.2 s.2.1 v b ≠ 9 → (sm_wI (sm_wI m 17 s.2.1 (iI (3 : Nat))) 22 s.2.1 (iI (v : Nat))).1 22 b = iI (upN s.2.2.2.2.2.2.2 s.2.1 v b : Nat)
      refine wI_upU ?_
      rw [wI_oth (by decide)]
      exact c8
/-- the ends of a leaf -/
theorem dC.En {m m' : sm_M} {s s' : drS} {w x : Nat} (hC : dC m s) (h1 : s'.1 = s.1 + 1) (h2 : s'.2.2.2.1 = endN s.2.2.2.1 s.1 w x) (h3 : ∀ k, k < s.1 + 1 → m.1 21 k = iI (s.2.2.2.2.1 k : Nat)) (h4 : s'.2.1 = s.2.1) (h5 : s'.2.2.1 = s.2.2.1) (h6 : s'.2.2.2.2 = s.2.2.2.2) (hm : m' = sm_wI (sm_wI (sm_wI (sm_wI (sm_wI m 20 (4 * s.1) (iI ((4 * w : Nat) : Int))) 20 (4 * s.1 + 2) (iI ((4 * w + 2 : Nat) : Int))) 20 (4 * s.1 + 1) (iI ((4 * x + 1 : Nat) : Int))) 20 (4 * s.1 + 3) (iI ((4 * x + 3 : Nat) : Int))) 16 14 (iI ((s.1 + 1 : Nat) : Int))) : dC m' s' := by
  obtain ⟨c1, c2, c3, c4, c5, c6, c7, c8⟩ := hC
  subst hm
  unfold dC
  rw [h1, h2, h4, h5, h6]
  refine ⟨?_, ?_, ?_, ?_, ?_, ?_, ?_, ?_⟩
  · simp (disch := omega) only [forall_eq, true_and, and_true, false_and, and_false, forall_const, true_implies, implies_true, not_true_eq_false, not_false_eq_true, false_implies, if_true, if_false, ↓reduceIte, Int.toNat_natCast, Int.reduceEq, Int.reduceNe, Int.reduceLT, Int.reduceLE, Int.reduceToNat, Int.reduceAdd, Int.reduceSub, Int.reduceMul, Int.reduceNeg, Nat.reduceAdd, Nat.reduceMul, Nat.reduceSub, iI_lit, jI_lit, iI_add, iI_sub, iI_mul, iI_neg, jI_add, jI_sub, jI_mul, jI_neg, nI_i, lN_j, iI_le, iI_lt, iI_eq, jI_le, jI_lt, jI_eq, iI_in, iI_cl, iI_j, jI_i, cN, inN, wI_eq, wI_ne, wJ_1, wJ_eq, wJ_ne, wI_2, wJ_3, iI_div, iI_rem, jI_div, jI_rem, true_or, or_true, false_or, or_false, eq_self, Nat.add_zero]
    exact c1
  · simp (disch := omega) only [forall_eq, true_and, and_true, false_and, and_false, forall_const, true_implies, implies_true, not_true_eq_false, not_false_eq_true, false_implies, if_true, if_false, ↓reduceIte, Int.toNat_natCast, Int.reduceEq, Int.reduceNe, Int.reduceLT, Int.reduceLE, Int.reduceToNat, Int.reduceAdd, Int.reduceSub, Int.reduceMul, Int.reduceNeg, Nat.reduceAdd, Nat.reduceMul, Nat.reduceSub, iI_lit, jI_lit, iI_add, iI_sub, iI_mul, iI_neg, jI_add, jI_sub, jI_mul, jI_neg, nI_i, lN_j, iI_le, iI_lt, iI_eq, jI_le, jI_lt, jI_eq, iI_in, iI_cl, iI_j, jI_i, cN, inN, wI_eq, wI_ne, wJ_1, wJ_eq, wJ_ne, wI_2, wJ_3, iI_div, iI_rem, jI_div, jI_rem, true_or, or_true, false_or, or_false, eq_self, Nat.add_zero]
    exact c2
  · rw [wI_eq rfl rfl]
  · rw [wI_oth (by decide)]
    intro k hk
    by_cases h1 : k < 4 * s.1
    · rw [endN_lt h1, wI_ne (by omega), wI_ne (by omega), wI_ne (by omega), wI_ne (by omega)]
      exact c4 k h1
    · have h2 : k = 4 * s.1 ∨ k = 4 * s.1 + 1 ∨ k = 4 * s.1 + 2 ∨ k = 4 * s.1 + 3 := by omega
      rcases h2 with rfl | rfl | rfl | rfl
      · rw [endN_0, wI_ne (by omega), wI_ne (by omega), wI_ne (by omega), wI_eq rfl rfl]
      · rw [endN_1, wI_ne (by omega), wI_eq rfl rfl]
      · rw [endN_2, wI_ne (by omega), wI_ne (by omega), wI_eq rfl rfl]
      · rw [endN_3, wI_eq rfl rfl]
  · rw [wI_oth (by decide), wI_oth (by decide), wI_oth (by decide), wI_oth (by decide), wI_oth (by decide)]
    exact h3
  · rw [wI_oth (by decide), wI_oth (by decide), wI_oth (by decide), wI_oth (by decide), wI_oth (by decide)]
    exact c6
  · rw [wI_oth (by decide), wI_oth (by decide), wI_oth (by decide), wI_oth (by decide), wI_oth (by decide)]
    exact c7
  · rw [wI_oth (by decide), wI_oth (by decide), wI_oth (by decide), wI_oth (by decide), wI_oth (by decide)]
    exact c8
end DRX
