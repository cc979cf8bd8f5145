/-! crossing, linked -/
def sgn (po ea : Nat → Nat) (b : Nat) : Int := if (ea (2 * b) = ea (2 * b + 1)) ↔ po b = 1 then 1 else -1
theorem sgn_1 (po ea : Nat → Nat) (b : Nat) : sgn po ea b = 1 ∨ sgn po ea b = -1 := by
  unfold sgn
  split
  · exact Or.inl rfl
  · exact Or.inr rfl
theorem dCP_sc {a k : Nat} (h : dCP a k) : scC a k := by
  unfold dCP at h
  unfold scC
  omega
theorem dMP_sc {a k : Nat} (h : dMP a k) : scM a k := by
  unfold dMP at h
  unfold scM
  omega
def lkB (ho : Nat → Nat) (x y : Int) (b : Nat) : Prop := ((ho (2 * b) : Int) = x ∧ (ho (2 * b + 1) : Int) = y) ∨ ((ho (2 * b) : Int) = y ∧ (ho (2 * b + 1) : Int) = x)
noncomputable def lkS (po ho ea : Nat → Nat) (x y : Int) : Nat → Int
  | 0 => 0
  | b + 1 => lkS po ho ea x y b + (@ite Int (lkB ho x y b) (Classical.propDecidable _) (sgn po ea b) 0)
theorem lkS_bd (po ho ea : Nat → Nat) (x y : Int) : ∀ b : Nat, -(b : Int) ≤ lkS po ho ea x y b ∧ lkS po ho ea x y b ≤ b := by
  intro b
  induction b with
  | zero => exact (show (-((0 : Nat) : Int) ≤ (0 : Int) ∧ (0 : Int) ≤ ((0 : Nat) : Int)) by decide)
  | succ b ih =>
    have h1 : lkS po ho ea x y (b + 1) = lkS po ho ea x y b + (@ite Int (lkB ho x y b) (Classical.propDecidable _) (sgn po ea b) 0) := rfl
    rw [h1]
    have := sgn_1 po ea b
    split <;> omega
theorem lkS_t {po ho ea : Nat → Nat} {x y : Int} {b : Nat} (h : lkB ho x y b) : lkS po ho ea x y (b + 1) = lkS po ho ea x y b + sgn po ea b := by
  show lkS po ho ea x y b + (@ite Int (lkB ho x y b) (Classical.propDecidable _) (sgn po ea b) 0) = _
  rw [if_pos h]
theorem lkS_f {po ho ea : Nat → Nat} {x y : Int} {b : Nat} (h : ¬ lkB ho x y b) : lkS po ho ea x y (b + 1) = lkS po ho ea x y b := by
  show lkS po ho ea x y b + (@ite Int (lkB ho x y b) (Classical.propDecidable _) (sgn po ea b) 0) = _
  rw [if_neg h, Int.add_zero]
section K14
variable {E : sm_E} {L : sm_S → Prop} {d d1 d2 : Nat} {m : sm_M} {c K Z w cc : Nat} {po st ps ho ea : Nat → Nat}
theorem c_signAt {Q : Int32 → sm_M → Prop} {b : Nat} (hly : ∀ S, L S → ly S) (hd : 1 ≤ d) (hF : rF c K Z w po st ps ho ea) (hC : rC m c K Z w po st ps ho ea) (hb : b < c) (h : Q (iI (sgn po ea b)) m) : sm_callI E L mX2_signAt d 0 0 [.ref (sm_B E + 16), .int (iI (b : Nat))] m Q := by
  have hc := hF.1
  have v0 := hC.2.2.2.2.2.2.2 (2 * b) (by omega)
  have v1 := hC.2.2.2.2.2.2.2 (2 * b + 1) (by omega)
  have w0 := (hF.2.2.2.2.2.2.2.2.2.2.2 (2 * b) (by omega)).2
  have w1 := (hF.2.2.2.2.2.2.2.2.2.2.2 (2 * b + 1) (by omega)).2
  have p0 := hC.2.2.2.1 b hb
  have p1 := hF.2.2.2.2.1 b hb
  have e0 : (2 * (b : Int)).toNat = 2 * b := by omega
  have e1 : (2 * (b : Int) + 1).toNat = 2 * b + 1 := by omega
  have fin : ∀ f : Int, (f = 1 ↔ ea (2 * b) = ea (2 * b + 1)) → (f = 0 ∨ f = 1) → gX2_signAt_26 E L d [.ref (sm_B E + 16), .int (iI (b : Nat))] (iI (b : Nat)) (iI f) m Q := by
    intro f h1 h2
    unfold sgn at h
    refine vX2_signAt_26 hly hd ?_
    simp (disch := omega) only [forall_eq, true_and, and_true, false_and, and_false, forall_const, true_implies, implies_true, not_true_eq_false, not_false_eq_true, false_implies, if_true, if_false, ↓reduceIte, Int.toNat_natCast, Int.reduceEq, Int.reduceNe, Int.reduceLT, Int.reduceLE, Int.reduceToNat, Int.reduceAdd, Int.reduceSub, Int.reduceMul, Int.reduceNeg, Nat.reduceAdd, Nat.reduceMul, Nat.reduceSub, iI_lit, jI_lit, iI_add, iI_sub, iI_mul, iI_neg, jI_add, jI_sub, jI_mul, jI_neg, nI_i, lN_j, iI_le, iI_lt, iI_eq, jI_le, jI_lt, jI_eq, iI_in, iI_cl, iI_j, jI_i, cN, inN, wI_eq, wI_ne, wJ_1, wJ_eq, wJ_ne, wI_2, wJ_3, iI_div, iI_rem, jI_div, jI_rem, true_or, or_true, false_or, or_false, eq_self, Nat.add_zero, p0]
    refine ⟨by omega, fun q => ?_, fun q => ?_⟩
    · rw [if_neg (by omega)] at h; exact h
    · rw [if_pos (by omega)] at h; exact h
  refine vX2_signAt_0 hly hd ?_
  simp (disch := omega) only [forall_eq, true_and, and_true, false_and, and_false, forall_const, true_implies, implies_true, not_true_eq_false, not_false_eq_true, false_implies, if_true, if_false, ↓reduceIte, Int.toNat_natCast, Int.reduceEq, Int.reduceNe, Int.reduceLT, Int.reduceLE, Int.reduceToNat, Int.reduceAdd, Int.reduceSub, Int.reduceMul, Int.reduceNeg, Nat.reduceAdd, Nat.reduceMul, Nat.reduceSub, iI_lit, jI_lit, iI_add, iI_sub, iI_mul, iI_neg, jI_add, jI_sub, jI_mul, jI_neg, nI_i, lN_j, iI_le, iI_lt, iI_eq, jI_le, jI_lt, jI_eq, iI_in, iI_cl, iI_j, jI_i, cN, inN, wI_eq, wI_ne, wJ_1, wJ_eq, wJ_ne, wI_2, wJ_3, iI_div, iI_rem, jI_div, jI_rem, true_or, or_true, false_or, or_false, eq_self, Nat.add_zero, e0, e1, v0, v1]
  exact ⟨by omega, by omega, fun q => fin 0 (by omega) (Or.inl rfl), fun q => fin 1 (by omega) (Or.inr rfl)⟩
theorem c12_signOf {Q : Int32 → sm_M → Prop} {b : Nat} (hly : ∀ S, L S → ly S) (hd : 1 ≤ d) (hF : rF c K Z w po st ps ho ea) (hC : rM m c K Z w po st ps ho ea) (hb : b < c) (h : Q (iI (sgn po ea b)) m) : sm_callI E L mX12_signOf d 0 0 [.ref (sm_B E + 109), .int (iI (b : Nat))] m Q := by
  have hc := hF.1
  have v0 := hC.2.2.2.2.2.2.2 (2 * b) (by omega)
  have v1 := hC.2.2.2.2.2.2.2 (2 * b + 1) (by omega)
  have w0 := (hF.2.2.2.2.2.2.2.2.2.2.2 (2 * b) (by omega)).2
  have w1 := (hF.2.2.2.2.2.2.2.2.2.2.2 (2 * b + 1) (by omega)).2
  have p0 := hC.2.2.2.1 b hb
  have p1 := hF.2.2.2.2.1 b hb
  have e0 : (2 * (b : Int)).toNat = 2 * b := by omega
  have e1 : (2 * (b : Int) + 1).toNat = 2 * b + 1 := by omega
  have fin : ∀ z : Int, z = sgn po ea b → Q (iI z) m := fun z hz => by rw [hz]; exact h
  refine vX12_signOf_0 hly hd ?_
  simp (disch := omega) only [forall_eq, true_and, and_true, false_and, and_false, forall_const, true_implies, implies_true, not_true_eq_false, not_false_eq_true, false_implies, if_true, if_false, ↓reduceIte, Int.toNat_natCast, Int.reduceEq, Int.reduceNe, Int.reduceLT, Int.reduceLE, Int.reduceToNat, Int.reduceAdd, Int.reduceSub, Int.reduceMul, Int.reduceNeg, Nat.reduceAdd, Nat.reduceMul, Nat.reduceSub, iI_lit, jI_lit, iI_add, iI_sub, iI_mul, iI_neg, jI_add, jI_sub, jI_mul, jI_neg, nI_i, lN_j, iI_le, iI_lt, iI_eq, jI_le, jI_lt, jI_eq, iI_in, iI_cl, iI_j, jI_i, cN, inN, wI_eq, wI_ne, wJ_1, wJ_eq, wJ_ne, wI_2, wJ_3, iI_div, iI_rem, jI_div, jI_rem, true_or, or_true, false_or, or_false, eq_self, Nat.add_zero, e0, e1, v0, v1, p0]
  refine ⟨by omega, by omega, fun q => ⟨by omega, fin _ ?_⟩, fun q => ⟨by omega, fin _ ?_⟩⟩
  · unfold sgn
    rcases p1 with p | p
    · rw [if_pos (by omega), p]; rfl
    · rw [if_neg (by omega), p]; rfl
  · unfold sgn
    rcases p1 with p | p
    · rw [if_neg (by omega), p]; rfl
    · rw [if_pos (by omega), p]; rfl
theorem c_overAt {Q : Int32 → sm_M → Prop} {b : Nat} (hly : ∀ S, L S → ly S) (hd : 1 ≤ d) (hc : c ≤ 24) (hC : rC m c K Z w po st ps ho ea) (hb : b < c) (h : Q (iI (ho (2 * b) : Nat)) m) : sm_callI E L mX2_overAt d 0 0 [.ref (sm_B E + 16), .int (iI (b : Nat))] m Q := by
  have v0 := hC.2.2.2.2.2.2.1 (2 * b) (by omega)
  have e0 : (2 * (b : Int)).toNat = 2 * b := by omega
  refine vX2_overAt_0 hly hd ?_
  simp (disch := omega) only [forall_eq, true_and, and_true, false_and, and_false, forall_const, true_implies, implies_true, not_true_eq_false, not_false_eq_true, false_implies, if_true, if_false, ↓reduceIte, Int.toNat_natCast, Int.reduceEq, Int.reduceNe, Int.reduceLT, Int.reduceLE, Int.reduceToNat, Int.reduceAdd, Int.reduceSub, Int.reduceMul, Int.reduceNeg, Nat.reduceAdd, Nat.reduceMul, Nat.reduceSub, iI_lit, jI_lit, iI_add, iI_sub, iI_mul, iI_neg, jI_add, jI_sub, jI_mul, jI_neg, nI_i, lN_j, iI_le, iI_lt, iI_eq, jI_le, jI_lt, jI_eq, iI_in, iI_cl, iI_j, jI_i, cN, inN, wI_eq, wI_ne, wJ_1, wJ_eq, wJ_ne, wI_2, wJ_3, iI_div, iI_rem, jI_div, jI_rem, true_or, or_true, false_or, or_false, eq_self, Nat.add_zero, e0, v0]
  exact ⟨by omega, h⟩
theorem c_underAt {Q : Int32 → sm_M → Prop} {b : Nat} (hly : ∀ S, L S → ly S) (hd : 1 ≤ d) (hc : c ≤ 24) (hC : rC m c K Z w po st ps ho ea) (hb : b < c) (h : Q (iI (ho (2 * b + 1) : Nat)) m) : sm_callI E L mX2_underAt d 0 0 [.ref (sm_B E + 16), .int (iI (b : Nat))] m Q := by
  have v0 := hC.2.2.2.2.2.2.1 (2 * b + 1) (by omega)
  have e0 : (2 * (b : Int) + 1).toNat = 2 * b + 1 := by omega
  refine vX2_underAt_0 hly hd ?_
  simp (disch := omega) only [forall_eq, true_and, and_true, false_and, and_false, forall_const, true_implies, implies_true, not_true_eq_false, not_false_eq_true, false_implies, if_true, if_false, ↓reduceIte, Int.toNat_natCast, Int.reduceEq, Int.reduceNe, Int.reduceLT, Int.reduceLE, Int.reduceToNat, Int.reduceAdd, Int.reduceSub, Int.reduceMul, Int.reduceNeg, Nat.reduceAdd, Nat.reduceMul, Nat.reduceSub, iI_lit, jI_lit, iI_add, iI_sub, iI_mul, iI_neg, jI_add, jI_sub, jI_mul, jI_neg, nI_i, lN_j, iI_le, iI_lt, iI_eq, jI_le, jI_lt, jI_eq, iI_in, iI_cl, iI_j, jI_i, cN, inN, wI_eq, wI_ne, wJ_1, wJ_eq, wJ_ne, wI_2, wJ_3, iI_div, iI_rem, jI_div, jI_rem, true_or, or_true, false_or, or_false, eq_self, Nat.add_zero, e0, v0]
  exact ⟨by omega, h⟩
theorem c_linking {Q : Int32 → sm_M → Prop} {x y : Int} (hly : ∀ S, L S → ly S) (hd : 2 ≤ d) (hF : rF c K Z w po st ps ho ea) (hC : rC m c K Z w po st ps ho ea) (x1 : 0 ≤ x) (x2 : x ≤ 1000) (y1 : 0 ≤ y) (y2 : y ≤ 1000) (h : Q (iI ((lkS po ho ea x y c).tdiv 2)) m) : sm_callI E L mX2_linking d 0 0 [.ref (sm_B E + 16), .int (iI x), .int (iI y)] m Q := by
  have hc := hF.1
  have loop : ∀ (r b : Nat), b + r = c → gX2_linking_5 E L d [.ref (sm_B E + 16), .int (iI x), .int (iI y)] (iI x) (iI y) (iI (lkS po ho ea x y b)) (iI (b : Nat)) m Q := by
    intro r
    induction r with
    | zero =>
      intro b hb
      have hbc : b = c := by omega
      subst hbc
      have bd := lkS_bd po ho ea x y b
      refine vX2_linking_5 hly hd ?_
      simp (disch := omega) only [forall_eq, true_and, and_true, false_and, and_false, forall_const, true_implies, implies_true, not_true_eq_false, not_false_eq_true, false_implies, if_true, if_false, ↓reduceIte, Int.toNat_natCast, Int.reduceEq, Int.reduceNe, Int.reduceLT, Int.reduceLE, Int.reduceToNat, Int.reduceAdd, Int.reduceSub, Int.reduceMul, Int.reduceNeg, Nat.reduceAdd, Nat.reduceMul, Nat.reduceSub, iI_lit, jI_lit, iI_add, iI_sub, iI_mul, iI_neg, jI_add, jI_sub, jI_mul, jI_neg, nI_i, lN_j, iI_le, iI_lt, iI_eq, jI_le, jI_lt, jI_eq, iI_in, iI_cl, iI_j, jI_i, cN, inN, wI_eq, wI_ne, wJ_1, wJ_eq, wJ_ne, wI_2, wJ_3, iI_div, iI_rem, jI_div, jI_rem, true_or, or_true, false_or, or_false, eq_self, Nat.add_zero, hC.1, Int.le_refl]
      exact h
    | succ r ih =>
      intro b hb
      have bd := lkS_bd po ho ea x y b
      have w0 := (hF.2.2.2.2.2.2.2.2.2.2.2 (2 * b) (by omega)).1
      have w1 := (hF.2.2.2.2.2.2.2.2.2.2.2 (2 * b + 1) (by omega)).1
      have hK := hF.2.1
      have u : ¬ ((c : Int) ≤ (b : Int)) := by omega
      have nx := ih (b + 1) (by omega)
      have yes : lkB ho x y b → sm_callI E L mX2_signAt 1 0 0 [.ref (sm_B E + 16), .int (iI (b : Nat))] m (fun r_8 m_7 => ∀ x3_9 : Int32, x3_9 = iI (lkS po ho ea x y b) + r_8 → ∀ x4_10 : Int32, x4_10 = iI (b : Nat) + 1 → gX2_linking_5 E L d [.ref (sm_B E + 16), .int (iI x), .int (iI y)] (iI x) (iI y) x3_9 x4_10 m_7 Q) := by
        intro hB
        refine c_signAt hly (by omega) hF hC (by omega) ?_
        rw [lkS_t hB] at nx
        simp (disch := omega) only [forall_eq, true_and, and_true, false_and, and_false, forall_const, true_implies, implies_true, not_true_eq_false, not_false_eq_true, false_implies, if_true, if_false, ↓reduceIte, Int.toNat_natCast, Int.reduceEq, Int.reduceNe, Int.reduceLT, Int.reduceLE, Int.reduceToNat, Int.reduceAdd, Int.reduceSub, Int.reduceMul, Int.reduceNeg, Nat.reduceAdd, Nat.reduceMul, Nat.reduceSub, iI_lit, jI_lit, iI_add, iI_sub, iI_mul, iI_neg, jI_add, jI_sub, jI_mul, jI_neg, nI_i, lN_j, iI_le, iI_lt, iI_eq, jI_le, jI_lt, jI_eq, iI_in, iI_cl, iI_j, jI_i, cN, inN, wI_eq, wI_ne, wJ_1, wJ_eq, wJ_ne, wI_2, wJ_3, iI_div, iI_rem, jI_div, jI_rem, true_or, or_true, false_or, or_false, eq_self, Nat.add_zero]
        exact nx
      have no : ¬ lkB ho x y b → gX2_linking_5 E L d [.ref (sm_B E + 16), .int (iI x), .int (iI y)] (iI x) (iI y) (iI (lkS po ho ea x y b)) (iI ((b : Int) + 1)) m Q := by
        intro hB
        rw [lkS_f hB] at nx
        exact nx
      have go42 : ¬ ((ho (2 * b) : Int) = x ∧ (ho (2 * b + 1) : Int) = y) → gX2_linking_42 E L d [.ref (sm_B E + 16), .int (iI x), .int (iI y)] (iI x) (iI y) (iI (lkS po ho ea x y b)) (iI (b : Nat)) (iI (ho (2 * b) : Nat)) (iI (ho (2 * b + 1) : Nat)) m Q := by
        intro hn
        refine vX2_linking_42 hly hd ⟨fun q x4 e4 => ?_, fun q => ⟨fun q2 x4 e4 => ?_, fun q2 => yes ?_⟩⟩
        · rw [iI_lit, iI_add] at e4
          subst e4
          rw [iI_eq (by omega) (by omega) (by omega) (by omega)] at q
          exact no (by unfold lkB; omega)
        · rw [iI_lit, iI_add] at e4
          subst e4
          rw [iI_eq (by omega) (by omega) (by omega) (by omega)] at q2
          exact no (by unfold lkB; omega)
        · rw [iI_eq (by omega) (by omega) (by omega) (by omega)] at q q2
          unfold lkB; omega
      refine vX2_linking_5 hly hd ⟨fun q => ?_, fun _ => c_overAt hly (by omega) hc hC (by omega) (c_underAt hly (by omega) hc hC (by omega) ⟨fun q => go42 ?_, fun q => ⟨fun q2 => yes ?_, fun q2 => go42 ?_⟩⟩)⟩
      · rw [hC.1, iI_le (by omega) (by omega) (by omega) (by omega)] at q
        omega
      · rw [iI_eq (by omega) (by omega) (by omega) (by omega)] at q
        omega
      · rw [iI_eq (by omega) (by omega) (by omega) (by omega)] at q q2
        unfold lkB; omega
      · rw [iI_eq (by omega) (by omega) (by omega) (by omega)] at q2
        omega
  refine vX2_linking_0 hd ?_
  simp (disch := omega) only [forall_eq, true_and, and_true, false_and, and_false, forall_const, true_implies, implies_true, not_true_eq_false, not_false_eq_true, false_implies, if_true, if_false, ↓reduceIte, Int.toNat_natCast, Int.reduceEq, Int.reduceNe, Int.reduceLT, Int.reduceLE, Int.reduceToNat, Int.reduceAdd, Int.reduceSub, Int.reduceMul, Int.reduceNeg, Nat.reduceAdd, Nat.reduceMul, Nat.reduceSub, iI_lit, jI_lit, iI_add, iI_sub, iI_mul, iI_neg, jI_add, jI_sub, jI_mul, jI_neg, nI_i, lN_j, iI_le, iI_lt, iI_eq, jI_le, jI_lt, jI_eq, iI_in, iI_cl, iI_j, jI_i, cN, inN, wI_eq, wI_ne, wJ_1, wJ_eq, wJ_ne, wI_2, wJ_3, iI_div, iI_rem, jI_div, jI_rem, true_or, or_true, false_or, or_false, eq_self, Nat.add_zero]
  exact loop c 0 (by omega)
theorem m_linking {Q : Int32 → sm_M → Prop} {vs : List Value} {x y : Int} (hly : ∀ S, L S → ly S) (hd : 5 ≤ d) (hF : rF c K Z w po st ps ho ea) (hC : rM m c K Z w po st ps ho ea) (x1 : 0 ≤ x) (x2 : x ≤ 1000) (y1 : 0 ≤ y) (y2 : y ≤ 1000) (h : Q (iI ((lkS po ho ea x y c).tdiv 2)) m) :
    ∀ (r b : Nat), b + r = c → gX12_linked_83 E L d vs (iI x) (iI y) (iI (lkS po ho ea x y b)) (iI (b : Nat)) m Q := by
  have hc := hF.1
  intro r
  induction r with
  | zero =>
    intro b hb
    have hbc : b = c := by omega
    subst hbc
    have bd := lkS_bd po ho ea x y b
    refine vX12_linked_83 hly hd ?_
    simp (disch := omega) only [forall_eq, true_and, and_true, false_and, and_false, forall_const, true_implies, implies_true, not_true_eq_false, not_false_eq_true, false_implies, if_true, if_false, ↓reduceIte, Int.toNat_natCast, Int.reduceEq, Int.reduceNe, Int.reduceLT, Int.reduceLE, Int.reduceToNat, Int.reduceAdd, Int.reduceSub, Int.reduceMul, Int.reduceNeg, Nat.reduceAdd, Nat.reduceMul, Nat.reduceSub, iI_lit, jI_lit, iI_add, iI_sub, iI_mul, iI_neg, jI_add, jI_sub, jI_mul, jI_neg, nI_i, lN_j, iI_le, iI_lt, iI_eq, jI_le, jI_lt, jI_eq, iI_in, iI_cl, iI_j, jI_i, cN, inN, wI_eq, wI_ne, wJ_1, wJ_eq, wJ_ne, wI_2, wJ_3, iI_div, iI_rem, jI_div, jI_rem, true_or, or_true, false_or, or_false, eq_self, Nat.add_zero, hC.1, Int.le_refl]
    exact h
  | succ r ih =>
    intro b hb
    have bd := lkS_bd po ho ea x y b
    have w0 := (hF.2.2.2.2.2.2.2.2.2.2.2 (2 * b) (by omega)).1
    have w1 := (hF.2.2.2.2.2.2.2.2.2.2.2 (2 * b + 1) (by omega)).1
    have v0 := hC.2.2.2.2.2.2.1 (2 * b) (by omega)
    have v1 := hC.2.2.2.2.2.2.1 (2 * b + 1) (by omega)
    have hK := hF.2.1
    have u : ¬ ((c : Int) ≤ (b : Int)) := by omega
    have e0 : (2 * (b : Int)).toNat = 2 * b := by omega
    have e1 : (2 * (b : Int) + 1).toNat = 2 * b + 1 := by omega
    have nx := ih (b + 1) (by omega)
    have yes : lkB ho x y b → sm_callI E L mX12_signOf 1 0 0 [.ref (sm_B E + 109), .int (iI (b : Nat))] m (fun r_8 m_7 => ∀ x3_9 : Int32, x3_9 = iI (lkS po ho ea x y b) + r_8 → ∀ x4_10 : Int32, x4_10 = iI (b : Nat) + 1 → gX12_linked_83 E L d vs (iI x) (iI y) x3_9 x4_10 m_7 Q) := by
      intro hB
      refine c12_signOf hly (by omega) hF hC (by omega) ?_
      rw [lkS_t hB] at nx
      simp (disch := omega) only [forall_eq, true_and, and_true, false_and, and_false, forall_const, true_implies, implies_true, not_true_eq_false, not_false_eq_true, false_implies, if_true, if_false, ↓reduceIte, Int.toNat_natCast, Int.reduceEq, Int.reduceNe, Int.reduceLT, Int.reduceLE, Int.reduceToNat, Int.reduceAdd, Int.reduceSub, Int.reduceMul, Int.reduceNeg, Nat.reduceAdd, Nat.reduceMul, Nat.reduceSub, iI_lit, jI_lit, iI_add, iI_sub, iI_mul, iI_neg, jI_add, jI_sub, jI_mul, jI_neg, nI_i, lN_j, iI_le, iI_lt, iI_eq, jI_le, jI_lt, jI_eq, iI_in, iI_cl, iI_j, jI_i, cN, inN, wI_eq, wI_ne, wJ_1, wJ_eq, wJ_ne, wI_2, wJ_3, iI_div, iI_rem, jI_div, jI_rem, true_or, or_true, false_or, or_false, eq_self, Nat.add_zero]
      exact nx
    have no : ¬ lkB ho x y b → gX12_linked_83 E L d vs (iI x) (iI y) (iI (lkS po ho ea x y b + 0)) (iI ((b : Int) + 1)) m Q := by
      intro hB
      rw [lkS_f hB] at nx
      rw [Int.add_zero]
      exact nx
    have go131 : ¬ ((ho (2 * b) : Int) = x ∧ (ho (2 * b + 1) : Int) = y) → gX12_linked_131 E L d vs (iI x) (iI y) (iI (b : Nat)) (iI (ho (2 * b) : Nat)) (iI (ho (2 * b + 1) : Nat)) (iI (lkS po ho ea x y b)) m Q := by
      intro hn
      refine vX12_linked_131 hly hd ⟨fun q x5 e5 x4 e4 => ?_, fun q => ⟨fun q2 x5 e5 x4 e4 => ?_, fun q2 => yes ?_⟩⟩
      · rw [iI_lit, iI_add] at e4 e5
        subst e4
        subst e5
        rw [iI_eq (by omega) (by omega) (by omega) (by omega)] at q
        exact no (by unfold lkB; omega)
      · rw [iI_lit, iI_add] at e4 e5
        subst e4
        subst e5
        rw [iI_eq (by omega) (by omega) (by omega) (by omega)] at q2
        exact no (by unfold lkB; omega)
      · rw [iI_eq (by omega) (by omega) (by omega) (by omega)] at q q2
        unfold lkB; omega
    refine vX12_linked_83 hly hd ⟨fun q => ?_, fun _ => ?_⟩
    · rw [hC.1, iI_le (by omega) (by omega) (by omega) (by omega)] at q
      omega
    · have i0 : (2 : Int32) * iI (b : Nat) = iI ((2 * b : Nat) : Int) := by rw [iI_lit, iI_mul]; rfl
      have i1 : iI ((2 * b : Nat) : Int) + 1 = iI ((2 * b + 1 : Nat) : Int) := by rw [iI_lit, iI_add]; rfl
      rw [i0, i1, cN (by omega), cN (by omega), v0, v1]
      refine ⟨by simp (disch := omega) only [forall_eq, true_and, and_true, false_and, and_false, forall_const, true_implies, implies_true, not_true_eq_false, not_false_eq_true, false_implies, if_true, if_false, ↓reduceIte, Int.toNat_natCast, Int.reduceEq, Int.reduceNe, Int.reduceLT, Int.reduceLE, Int.reduceToNat, Int.reduceAdd, Int.reduceSub, Int.reduceMul, Int.reduceNeg, Nat.reduceAdd, Nat.reduceMul, Nat.reduceSub, iI_lit, jI_lit, iI_add, iI_sub, iI_mul, iI_neg, jI_add, jI_sub, jI_mul, jI_neg, nI_i, lN_j, iI_le, iI_lt, iI_eq, jI_le, jI_lt, jI_eq, iI_in, iI_cl, iI_j, jI_i, cN, inN, wI_eq, wI_ne, wJ_1, wJ_eq, wJ_ne, wI_2, wJ_3, iI_div, iI_rem, jI_div, jI_rem, true_or, or_true, false_or, or_false, eq_self, Nat.add_zero]; omega, fun x7 e7 => ⟨by simp (disch := omega) only [forall_eq, true_and, and_true, false_and, and_false, forall_const, true_implies, implies_true, not_true_eq_false, not_false_eq_true, false_implies, if_true, if_false, ↓reduceIte, Int.toNat_natCast, Int.reduceEq, Int.reduceNe, Int.reduceLT, Int.reduceLE, Int.reduceToNat, Int.reduceAdd, Int.reduceSub, Int.reduceMul, Int.reduceNeg, Nat.reduceAdd, Nat.reduceMul, Nat.reduceSub, iI_lit, jI_lit, iI_add, iI_sub, iI_mul, iI_neg, jI_add, jI_sub, jI_mul, jI_neg, nI_i, lN_j, iI_le, iI_lt, iI_eq, jI_le, jI_lt, jI_eq, iI_in, iI_cl, iI_j, jI_i, cN, inN, wI_eq, wI_ne, wJ_1, wJ_eq, wJ_ne, wI_2, wJ_3, iI_div, iI_rem, jI_div, jI_rem, true_or, or_true, false_or, or_false, eq_self, Nat.add_zero]; omega, fun x8 e8 => ?_⟩⟩
      subst e7
      subst e8
      refine ⟨fun q => go131 ?_, fun q => ⟨fun q2 => yes ?_, fun q2 => go131 ?_⟩⟩
      · rw [iI_eq (by omega) (by omega) (by omega) (by omega)] at q
        omega
      · rw [iI_eq (by omega) (by omega) (by omega) (by omega)] at q q2
        unfold lkB; omega
      · rw [iI_eq (by omega) (by omega) (by omega) (by omega)] at q2
        omega
end K14
