/-! arcs, writhe, link -/
def wrS (po ea : Nat → Nat) : Nat → Int := sumI (sgn po ea)
theorem wrS_bd (po ea : Nat → Nat) : ∀ b : Nat, -(b : Int) ≤ sumI (sgn po ea) b ∧ sumI (sgn po ea) b ≤ b := by
  intro b
  induction b with
  | zero => exact (show (-((0 : Nat) : Int) ≤ (0 : Int) ∧ (0 : Int) ≤ ((0 : Nat) : Int)) by decide)
  | succ b ih =>
    have h1 : sumI (sgn po ea) (b + 1) = sumI (sgn po ea) b + sgn po ea b := rfl
    rw [h1]
    have := sgn_1 po ea b
    omega
/-- which arcs come to a crossing, in the reference -/
def arcF (ps st : Nat → Nat) (m : sm_M) (k x : Nat) : Prop := (ps (st k + x) % 2 = 0 → m.1 141 (ps (st k + x) / 2) = iI ((asm ps st k + (amn ps st k - 1 + unc ps (st k) x) % amn ps st k : Nat) : Int)) ∧ (ps (st k + x) % 2 = 1 → m.1 142 (ps (st k + x) / 2) = iI ((asm ps st k + (amn ps st k - 1 + unc ps (st k) x) % amn ps st k : Nat) : Int) ∧ m.1 143 (ps (st k + x) / 2) = iI ((asm ps st k + (amn ps st k + unc ps (st k) x) % amn ps st k : Nat) : Int))
def arP (a k : Nat) : Prop := (141 ≤ a ∧ a ≤ 143) ∨ (a = 109 ∧ k = 58)
section ARC
variable {E : sm_E} {L : sm_S → Prop} {d d1 d2 : Nat} {m : sm_M} {c K Z w cc : Nat} {po st ps ho ea : Nat → Nat}
theorem c_arcsOf {Q : Int32 → sm_M → Prop} {k : Nat} (hly : ∀ S, L S → ly S) (hd : 2 ≤ d) (hF : rF c K Z w po st ps ho ea) (hC : rC m c K Z w po st ps ho ea) (hk : k < K) (h : Q (iI (amn ps st k : Nat)) m) : sm_callI E L mX2_arcsOf d 0 0 [.ref (sm_B E + 16), .int (iI (k : Nat))] m Q := by
  have hc := hF.1
  have hK := hF.2.1
  have hw := hF.2.2.2.1
  have hmo := hF.2.2.2.2.2.1 k (k + 1) (by omega) (by omega)
  have hmo2 := hF.2.2.2.2.2.1 (k + 1) K (by omega) (by omega)
  have hend := hF.2.2.2.2.2.2.2.1
  have v0 := hC.2.2.2.2.1 k (by omega)
  have v1 := hC.2.2.2.2.1 (k + 1) (by omega)
  obtain ⟨N, hN⟩ : ∃ N, st k + N = st (k + 1) := ⟨st (k + 1) - st k, by omega⟩
  have e1 : ((k : Int) + 1).toNat = k + 1 := by omega
  have eN : (st (k + 1) : Int) - (st k : Int) = (N : Int) := by omega
  have loop : ∀ (r x : Nat), x + r = N → gX2_arcsOf_4 E L d [.ref (sm_B E + 16), .int (iI (k : Nat))] (iI (k : Nat)) (iI (unc ps (st k) x : Nat)) (iI (x : Nat)) m Q := by
    intro r
    induction r with
    | zero =>
      intro x hx
      have hxN : x = N := by omega
      subst hxN
      have hu := unc_le ps (st k) x
      refine vX2_arcsOf_4 hly hd (vX2_passesOf_0 hly (by omega) ?_)
      simp (disch := omega) only [forall_eq, true_and, and_true, false_and, and_false, forall_const, true_implies, implies_true, not_true_eq_false, not_false_eq_true, false_implies, if_true, if_false, ↓reduceIte, Int.toNat_natCast, Int.reduceEq, Int.reduceNe, Int.reduceLT, Int.reduceLE, Int.reduceToNat, Int.reduceAdd, Int.reduceSub, Int.reduceMul, Int.reduceNeg, Nat.reduceAdd, Nat.reduceMul, Nat.reduceSub, iI_lit, jI_lit, iI_add, iI_sub, iI_mul, iI_neg, jI_add, jI_sub, jI_mul, jI_neg, nI_i, lN_j, iI_le, iI_lt, iI_eq, jI_le, jI_lt, jI_eq, iI_in, iI_cl, iI_j, jI_i, cN, inN, wI_eq, wI_ne, wJ_1, wJ_eq, wJ_ne, wI_2, wJ_3, iI_div, iI_rem, jI_div, jI_rem, true_or, or_true, false_or, or_false, eq_self, Nat.add_zero, e1, v0, v1, eN, Int.le_refl]
      refine ⟨by omega, by omega, c_max (by omega) (by omega) (by omega) (by omega) (by omega) ?_⟩
      have e : amn ps st k = max (unc ps (st k) x) 1 := by unfold amn; rw [show st (k + 1) - st k = x by omega]
      rw [e] at h
      rw [show (max (unc ps (st k) x : Int) 1) = ((max (unc ps (st k) x) 1 : Nat) : Int) by omega]
      exact h
    | succ r ih =>
      intro x hx
      have hu := unc_le ps (st k) x
      obtain ⟨p1, p2⟩ := rF_pos hF hk (show st k + x < st (k + 1) by omega)
      have v23 := hC.2.2.2.2.2.1 (st k + x) p1
      have e0 : ((st k : Int) + (x : Int)).toNat = st k + x := by omega
      have u : ¬ ((N : Int) ≤ (x : Int)) := by omega
      have r2 : (ps (st k + x) : Int).tmod 2 = ((ps (st k + x) % 2 : Nat) : Int) := rfl
      have nx := ih (x + 1) (by omega)
      have hun : unc ps (st k) (x + 1) = unc ps (st k) x + ps (st k + x) % 2 := rfl
      rw [hun] at nx
      refine vX2_arcsOf_4 hly hd (vX2_passesOf_0 hly (by omega) ?_)
      simp (disch := omega) only [forall_eq, true_and, and_true, false_and, and_false, forall_const, true_implies, implies_true, not_true_eq_false, not_false_eq_true, false_implies, if_true, if_false, ↓reduceIte, Int.toNat_natCast, Int.reduceEq, Int.reduceNe, Int.reduceLT, Int.reduceLE, Int.reduceToNat, Int.reduceAdd, Int.reduceSub, Int.reduceMul, Int.reduceNeg, Nat.reduceAdd, Nat.reduceMul, Nat.reduceSub, iI_lit, jI_lit, iI_add, iI_sub, iI_mul, iI_neg, jI_add, jI_sub, jI_mul, jI_neg, nI_i, lN_j, iI_le, iI_lt, iI_eq, jI_le, jI_lt, jI_eq, iI_in, iI_cl, iI_j, jI_i, cN, inN, wI_eq, wI_ne, wJ_1, wJ_eq, wJ_ne, wI_2, wJ_3, iI_div, iI_rem, jI_div, jI_rem, true_or, or_true, false_or, or_false, eq_self, Nat.add_zero, e1, v0, v1, eN, u]
      refine ⟨by omega, by omega, vX2_isUnder_0 hly (by omega) ?_⟩
      simp (disch := omega) only [forall_eq, true_and, and_true, false_and, and_false, forall_const, true_implies, implies_true, not_true_eq_false, not_false_eq_true, false_implies, if_true, if_false, ↓reduceIte, Int.toNat_natCast, Int.reduceEq, Int.reduceNe, Int.reduceLT, Int.reduceLE, Int.reduceToNat, Int.reduceAdd, Int.reduceSub, Int.reduceMul, Int.reduceNeg, Nat.reduceAdd, Nat.reduceMul, Nat.reduceSub, iI_lit, jI_lit, iI_add, iI_sub, iI_mul, iI_neg, jI_add, jI_sub, jI_mul, jI_neg, nI_i, lN_j, iI_le, iI_lt, iI_eq, jI_le, jI_lt, jI_eq, iI_in, iI_cl, iI_j, jI_i, cN, inN, wI_eq, wI_ne, wJ_1, wJ_eq, wJ_ne, wI_2, wJ_3, iI_div, iI_rem, jI_div, jI_rem, true_or, or_true, false_or, or_false, eq_self, Nat.add_zero, v0, e0, v23, r2]
      refine ⟨by omega, by omega, fun q => ?_, fun q => ?_⟩
      · rw [show ps (st k + x) % 2 = 0 by omega] at nx
        exact nx
      · rw [show ps (st k + x) % 2 = 1 by omega] at nx
        exact nx
  refine vX2_arcsOf_0 hd ?_
  simp (disch := omega) only [forall_eq, true_and, and_true, false_and, and_false, forall_const, true_implies, implies_true, not_true_eq_false, not_false_eq_true, false_implies, if_true, if_false, ↓reduceIte, Int.toNat_natCast, Int.reduceEq, Int.reduceNe, Int.reduceLT, Int.reduceLE, Int.reduceToNat, Int.reduceAdd, Int.reduceSub, Int.reduceMul, Int.reduceNeg, Nat.reduceAdd, Nat.reduceMul, Nat.reduceSub, iI_lit, jI_lit, iI_add, iI_sub, iI_mul, iI_neg, jI_add, jI_sub, jI_mul, jI_neg, nI_i, lN_j, iI_le, iI_lt, iI_eq, jI_le, jI_lt, jI_eq, iI_in, iI_cl, iI_j, jI_i, cN, inN, wI_eq, wI_ne, wJ_1, wJ_eq, wJ_ne, wI_2, wJ_3, iI_div, iI_rem, jI_div, jI_rem, true_or, or_true, false_or, or_false, eq_self, Nat.add_zero]
  exact loop N 0 (by omega)
theorem c_arcs {Q : Int32 → sm_M → Prop} (hly : ∀ S, L S → ly S) (hd : 3 ≤ d) (hF : rF c K Z w po st ps ho ea) (hC : rC m c K Z w po st ps ho ea) (h : Q (iI ((Z + asm ps st K : Nat) : Int)) m) : sm_callI E L mX2_arcs d 0 0 [.ref (sm_B E + 16)] m Q := by
  have hc := hF.1
  have hK := hF.2.1
  have hZ := hF.2.2.1
  have loop : ∀ (r k : Nat), k + r = K → gX2_arcs_7 E L d [.ref (sm_B E + 16)] (iI ((Z + asm ps st k : Nat) : Int)) (iI (k : Nat)) m Q := by
    intro r
    induction r with
    | zero =>
      intro k hk
      have hkK : k = K := by omega
      subst hkK
      refine vX2_arcs_7 hly hd ?_
      simp (disch := omega) only [forall_eq, true_and, and_true, false_and, and_false, forall_const, true_implies, implies_true, not_true_eq_false, not_false_eq_true, false_implies, if_true, if_false, ↓reduceIte, Int.toNat_natCast, Int.reduceEq, Int.reduceNe, Int.reduceLT, Int.reduceLE, Int.reduceToNat, Int.reduceAdd, Int.reduceSub, Int.reduceMul, Int.reduceNeg, Nat.reduceAdd, Nat.reduceMul, Nat.reduceSub, iI_lit, jI_lit, iI_add, iI_sub, iI_mul, iI_neg, jI_add, jI_sub, jI_mul, jI_neg, nI_i, lN_j, iI_le, iI_lt, iI_eq, jI_le, jI_lt, jI_eq, iI_in, iI_cl, iI_j, jI_i, cN, inN, wI_eq, wI_ne, wJ_1, wJ_eq, wJ_ne, wI_2, wJ_3, iI_div, iI_rem, jI_div, jI_rem, true_or, or_true, false_or, or_false, eq_self, Nat.add_zero, hC.2.1, Int.le_refl]
      exact h
    | succ r ih =>
      intro k hk
      have u : ¬ ((K : Int) ≤ (k : Int)) := by omega
      have nx := ih (k + 1) (by omega)
      refine vX2_arcs_7 hly hd ?_
      simp (disch := omega) only [forall_eq, true_and, and_true, false_and, and_false, forall_const, true_implies, implies_true, not_true_eq_false, not_false_eq_true, false_implies, if_true, if_false, ↓reduceIte, Int.toNat_natCast, Int.reduceEq, Int.reduceNe, Int.reduceLT, Int.reduceLE, Int.reduceToNat, Int.reduceAdd, Int.reduceSub, Int.reduceMul, Int.reduceNeg, Nat.reduceAdd, Nat.reduceMul, Nat.reduceSub, iI_lit, jI_lit, iI_add, iI_sub, iI_mul, iI_neg, jI_add, jI_sub, jI_mul, jI_neg, nI_i, lN_j, iI_le, iI_lt, iI_eq, jI_le, jI_lt, jI_eq, iI_in, iI_cl, iI_j, jI_i, cN, inN, wI_eq, wI_ne, wJ_1, wJ_eq, wJ_ne, wI_2, wJ_3, iI_div, iI_rem, jI_div, jI_rem, true_or, or_true, false_or, or_false, eq_self, Nat.add_zero, hC.2.1, u]
      refine c_arcsOf hly (by omega) hF hC (by omega) ?_
      simp (disch := omega) only [forall_eq, true_and, and_true, false_and, and_false, forall_const, true_implies, implies_true, not_true_eq_false, not_false_eq_true, false_implies, if_true, if_false, ↓reduceIte, Int.toNat_natCast, Int.reduceEq, Int.reduceNe, Int.reduceLT, Int.reduceLE, Int.reduceToNat, Int.reduceAdd, Int.reduceSub, Int.reduceMul, Int.reduceNeg, Nat.reduceAdd, Nat.reduceMul, Nat.reduceSub, iI_lit, jI_lit, iI_add, iI_sub, iI_mul, iI_neg, jI_add, jI_sub, jI_mul, jI_neg, nI_i, lN_j, iI_le, iI_lt, iI_eq, jI_le, jI_lt, jI_eq, iI_in, iI_cl, iI_j, jI_i, cN, inN, wI_eq, wI_ne, wJ_1, wJ_eq, wJ_ne, wI_2, wJ_3, iI_div, iI_rem, jI_div, jI_rem, true_or, or_true, false_or, or_false, eq_self, Nat.add_zero]
      have e : ((Z + asm ps st k : Nat) : Int) + (amn ps st k : Int) = ((Z + asm ps st (k + 1) : Nat) : Int) := by
        show _ = ((Z + (asm ps st k + amn ps st k) : Nat) : Int)
        omega
      rw [e]
      exact nx
  refine vX2_arcs_0 hly hd ?_
  simp (disch := omega) only [forall_eq, true_and, and_true, false_and, and_false, forall_const, true_implies, implies_true, not_true_eq_false, not_false_eq_true, false_implies, if_true, if_false, ↓reduceIte, Int.toNat_natCast, Int.reduceEq, Int.reduceNe, Int.reduceLT, Int.reduceLE, Int.reduceToNat, Int.reduceAdd, Int.reduceSub, Int.reduceMul, Int.reduceNeg, Nat.reduceAdd, Nat.reduceMul, Nat.reduceSub, iI_lit, jI_lit, iI_add, iI_sub, iI_mul, iI_neg, jI_add, jI_sub, jI_mul, jI_neg, nI_i, lN_j, iI_le, iI_lt, iI_eq, jI_le, jI_lt, jI_eq, iI_in, iI_cl, iI_j, jI_i, cN, inN, wI_eq, wI_ne, wJ_1, wJ_eq, wJ_ne, wI_2, wJ_3, iI_div, iI_rem, jI_div, jI_rem, true_or, or_true, false_or, or_false, eq_self, Nat.add_zero, hC.2.2.1]
  exact loop K 0 (by omega)
theorem c_writhe {Q : Int32 → sm_M → Prop} (hly : ∀ S, L S → ly S) (hd : 2 ≤ d) (hF : rF c K Z w po st ps ho ea) (hC : rC m c K Z w po st ps ho ea) (h : Q (iI (sumI (sgn po ea) c)) m) : sm_callI E L mX2_writhe d 0 0 [.ref (sm_B E + 16)] m Q := by
  have hc := hF.1
  have loop : ∀ (r b : Nat), b + r = c → gX2_writhe_4 E L d [.ref (sm_B E + 16)] (iI (sumI (sgn po ea) b)) (iI (b : Nat)) m Q := by
    intro r
    induction r with
    | zero =>
      intro b hb
      have hbc : b = c := by omega
      subst hbc
      refine vX2_writhe_4 hly hd ?_
      simp (disch := omega) only [forall_eq, true_and, and_true, false_and, and_false, forall_const, true_implies, implies_true, not_true_eq_false, not_false_eq_true, false_implies, if_true, if_false, ↓reduceIte, Int.toNat_natCast, Int.reduceEq, Int.reduceNe, Int.reduceLT, Int.reduceLE, Int.reduceToNat, Int.reduceAdd, Int.reduceSub, Int.reduceMul, Int.reduceNeg, Nat.reduceAdd, Nat.reduceMul, Nat.reduceSub, iI_lit, jI_lit, iI_add, iI_sub, iI_mul, iI_neg, jI_add, jI_sub, jI_mul, jI_neg, nI_i, lN_j, iI_le, iI_lt, iI_eq, jI_le, jI_lt, jI_eq, iI_in, iI_cl, iI_j, jI_i, cN, inN, wI_eq, wI_ne, wJ_1, wJ_eq, wJ_ne, wI_2, wJ_3, iI_div, iI_rem, jI_div, jI_rem, true_or, or_true, false_or, or_false, eq_self, Nat.add_zero, hC.1, Int.le_refl]
      exact h
    | succ r ih =>
      intro b hb
      have u : ¬ ((c : Int) ≤ (b : Int)) := by omega
      have nx := ih (b + 1) (by omega)
      refine vX2_writhe_4 hly hd ?_
      simp (disch := omega) only [forall_eq, true_and, and_true, false_and, and_false, forall_const, true_implies, implies_true, not_true_eq_false, not_false_eq_true, false_implies, if_true, if_false, ↓reduceIte, Int.toNat_natCast, Int.reduceEq, Int.reduceNe, Int.reduceLT, Int.reduceLE, Int.reduceToNat, Int.reduceAdd, Int.reduceSub, Int.reduceMul, Int.reduceNeg, Nat.reduceAdd, Nat.reduceMul, Nat.reduceSub, iI_lit, jI_lit, iI_add, iI_sub, iI_mul, iI_neg, jI_add, jI_sub, jI_mul, jI_neg, nI_i, lN_j, iI_le, iI_lt, iI_eq, jI_le, jI_lt, jI_eq, iI_in, iI_cl, iI_j, jI_i, cN, inN, wI_eq, wI_ne, wJ_1, wJ_eq, wJ_ne, wI_2, wJ_3, iI_div, iI_rem, jI_div, jI_rem, true_or, or_true, false_or, or_false, eq_self, Nat.add_zero, hC.1, u]
      refine c_signAt hly (by omega) hF hC (by omega) ?_
      simp (disch := omega) only [forall_eq, true_and, and_true, false_and, and_false, forall_const, true_implies, implies_true, not_true_eq_false, not_false_eq_true, false_implies, if_true, if_false, ↓reduceIte, Int.toNat_natCast, Int.reduceEq, Int.reduceNe, Int.reduceLT, Int.reduceLE, Int.reduceToNat, Int.reduceAdd, Int.reduceSub, Int.reduceMul, Int.reduceNeg, Nat.reduceAdd, Nat.reduceMul, Nat.reduceSub, iI_lit, jI_lit, iI_add, iI_sub, iI_mul, iI_neg, jI_add, jI_sub, jI_mul, jI_neg, nI_i, lN_j, iI_le, iI_lt, iI_eq, jI_le, jI_lt, jI_eq, iI_in, iI_cl, iI_j, jI_i, cN, inN, wI_eq, wI_ne, wJ_1, wJ_eq, wJ_ne, wI_2, wJ_3, iI_div, iI_rem, jI_div, jI_rem, true_or, or_true, false_or, or_false, eq_self, Nat.add_zero]
      exact nx
  refine vX2_writhe_0 hd ?_
  simp (disch := omega) only [forall_eq, true_and, and_true, false_and, and_false, forall_const, true_implies, implies_true, not_true_eq_false, not_false_eq_true, false_implies, if_true, if_false, ↓reduceIte, Int.toNat_natCast, Int.reduceEq, Int.reduceNe, Int.reduceLT, Int.reduceLE, Int.reduceToNat, Int.reduceAdd, Int.reduceSub, Int.reduceMul, Int.reduceNeg, Nat.reduceAdd, Nat.reduceMul, Nat.reduceSub, iI_lit, jI_lit, iI_add, iI_sub, iI_mul, iI_neg, jI_add, jI_sub, jI_mul, jI_neg, nI_i, lN_j, iI_le, iI_lt, iI_eq, jI_le, jI_lt, jI_eq, iI_in, iI_cl, iI_j, jI_i, cN, inN, wI_eq, wI_ne, wJ_1, wJ_eq, wJ_ne, wI_2, wJ_3, iI_div, iI_rem, jI_div, jI_rem, true_or, or_true, false_or, or_false, eq_self, Nat.add_zero]
  exact loop c 0 (by omega)
theorem rM.fr {P : Nat → Nat → Prop} {m m' : sm_M} (h : rM m c K Z w po st ps ho ea) (hf : fr P m m') (h1 : ∀ k, ¬ P 130 k ∧ ¬ P 136 k ∧ ¬ P 137 k ∧ ¬ P 138 k ∧ ¬ P 139 k) (h2 : ¬ P 109 45 ∧ ¬ P 109 52 ∧ ¬ P 109 54) : rM m' c K Z w po st ps ho ea := by
  obtain ⟨p1, p2, p3, p4, p5, p6, p7, p8⟩ := h
  exact ⟨(hf.i h2.1).trans p1, (hf.i h2.2.1).trans p2, (hf.i h2.2.2).trans p3, fun b hb => (hf.i (h1 _).1).trans (p4 b hb), fun b hb => (hf.i (h1 _).2.2.2.2).trans (p5 b hb), fun b hb => (hf.i (h1 _).2.2.2.1).trans (p6 b hb), fun b hb => (hf.i (h1 _).2.1).trans (p7 b hb), fun b hb => (hf.i (h1 _).2.2.1).trans (p8 b hb)⟩
theorem c12_layArcs {Q : sm_M → Prop} (hly : ∀ S, L S → ly S) (hd : 1 ≤ d) (hF : rF c K Z w po st ps ho ea) (hM : rM m c K Z w po st ps ho ea) (h : ∀ m', fr arP m m' → rM m' c K Z w po st ps ho ea → m'.1 109 58 = iI ((Z + asm ps st K : Nat) : Int) → (∀ k, k < K → ∀ x, st k + x < st (k + 1) → arcF ps st m' k x) → Q m') : sm_callV E L mX12_layArcs d 0 0 [.ref (sm_B E + 109)] m Q := by
  have hc := hF.1
  have hK := hF.2.1
  have hZ := hF.2.2.1
  have hw := hF.2.2.2.1
  have hend := hF.2.2.2.2.2.2.2.1
  have hinj := hF.2.2.2.2.2.2.2.2.2.1
  have frM : ∀ {m1 : sm_M}, fr arP m m1 → rM m1 c K Z w po st ps ho ea := fun f => hM.fr f (fun k => ⟨by unfold arP; omega, by unfold arP; omega, by unfold arP; omega, by unfold arP; omega, by unfold arP; omega⟩) (by unfold arP; omega)
  have main : ∀ (r k : Nat) (m1 : sm_M), k + r = K → fr arP m m1 → m1.1 109 58 = iI (asm ps st k : Nat) → (∀ k', k' < k → ∀ x, st k' + x < st (k' + 1) → arcF ps st m1 k' x) → gX12_layArcs_7 E L d [.ref (sm_B E + 109)] (iI (k : Nat)) m1 Q := by
    intro r
    induction r with
    | zero =>
      intro k m1 hk f1 v58 hA
      have hkK : k = K := by omega
      subst hkK
      have hM1 := frM f1
      refine vX12_layArcs_7 hly hd ?_
      simp (disch := omega) only [forall_eq, true_and, and_true, false_and, and_false, forall_const, true_implies, implies_true, not_true_eq_false, not_false_eq_true, false_implies, if_true, if_false, ↓reduceIte, Int.toNat_natCast, Int.reduceEq, Int.reduceNe, Int.reduceLT, Int.reduceLE, Int.reduceToNat, Int.reduceAdd, Int.reduceSub, Int.reduceMul, Int.reduceNeg, Nat.reduceAdd, Nat.reduceMul, Nat.reduceSub, iI_lit, jI_lit, iI_add, iI_sub, iI_mul, iI_neg, jI_add, jI_sub, jI_mul, jI_neg, nI_i, lN_j, iI_le, iI_lt, iI_eq, jI_le, jI_lt, jI_eq, iI_in, iI_cl, iI_j, jI_i, cN, inN, wI_eq, wI_ne, wJ_1, wJ_eq, wJ_ne, wI_2, wJ_3, iI_div, iI_rem, jI_div, jI_rem, true_or, or_true, false_or, or_false, eq_self, Nat.add_zero, hM1.2.1, Int.le_refl, v58, hM1.2.2.1]
      have e : ((asm ps st k : Nat) : Int) + (Z : Int) = ((Z + asm ps st k : Nat) : Int) := by omega
      rw [e]
      have f2 : fr arP m (sm_wI m1 109 58 (iI ((Z + asm ps st k : Nat) : Int))) := f1.wI (Or.inr ⟨rfl, rfl⟩)
      refine h _ f2 (frM f2) (wI_eq rfl rfl) (fun k' hk' x hx => ?_)
      have := hA k' hk' x hx
      unfold arcF at this ⊢
      rw [wI_oth (by decide), wI_oth (by decide), wI_oth (by decide)]
      exact this
    | succ r ih =>
      intro k m1 hk f1 v58 hA
      have hM1 := frM f1
      have hkK : k < K := by omega
      have hmo := hF.2.2.2.2.2.1 k (k + 1) (by omega) (by omega)
      have hmo2 := hF.2.2.2.2.2.1 (k + 1) K (by omega) (by omega)
      have v0 := hM1.2.2.2.2.1 k (by omega)
      have v1 := hM1.2.2.2.2.1 (k + 1) (by omega)
      obtain ⟨N, hN⟩ : ∃ N, st k + N = st (k + 1) := ⟨st (k + 1) - st k, by omega⟩
      have e1 : ((k : Int) + 1).toNat = k + 1 := by omega
      have hab := asm_bd hF k (by omega)
      obtain ⟨A, hA0⟩ : ∃ A, A = amn ps st k := ⟨_, rfl⟩
      have hAb := amn_bd ps st k
      rw [← hA0] at hAb
      have hAmax : A = max (unc ps (st k) N) 1 := by rw [hA0]; unfold amn; rw [show st (k + 1) - st k = N by omega]
      have hAs : asm ps st (k + 1) = asm ps st k + A := by rw [hA0]; rfl
      have nx := ih (k + 1)
      clear ih
      have lay : ∀ (r2 x : Nat) (m2 : sm_M), x + r2 = N → fr arP m m2 → m2.1 109 58 = iI (asm ps st k : Nat) → (∀ k', k' < k → ∀ x, st k' + x < st (k' + 1) → arcF ps st m2 k' x) → (∀ y, y < x → arcF ps st m2 k y) → gX12_layArcs_76 E L d [.ref (sm_B E + 109)] (iI (k : Nat)) (iI (A : Nat)) (iI (((A - 1 + unc ps (st k) x) % A : Nat) : Int)) (iI ((st k + x : Nat) : Int)) m2 Q := by
        intro r2
        induction r2 with
        | zero =>
          intro x m2 hx f2 w58 hB hB2
          have hxN : x = N := by omega
          subst hxN
          have v1' := (frM f2).2.2.2.2.1 (k + 1) (by omega)
          have u : ((st (k + 1) : Nat) : Int) ≤ ((st k + x : Nat) : Int) := by omega
          refine vX12_layArcs_76 hly hd ?_
          simp (disch := omega) only [forall_eq, true_and, and_true, false_and, and_false, forall_const, true_implies, implies_true, not_true_eq_false, not_false_eq_true, false_implies, if_true, if_false, ↓reduceIte, Int.toNat_natCast, Int.reduceEq, Int.reduceNe, Int.reduceLT, Int.reduceLE, Int.reduceToNat, Int.reduceAdd, Int.reduceSub, Int.reduceMul, Int.reduceNeg, Nat.reduceAdd, Nat.reduceMul, Nat.reduceSub, iI_lit, jI_lit, iI_add, iI_sub, iI_mul, iI_neg, jI_add, jI_sub, jI_mul, jI_neg, nI_i, lN_j, iI_le, iI_lt, iI_eq, jI_le, jI_lt, jI_eq, iI_in, iI_cl, iI_j, jI_i, cN, inN, wI_eq, wI_ne, wJ_1, wJ_eq, wJ_ne, wI_2, wJ_3, iI_div, iI_rem, jI_div, jI_rem, true_or, or_true, false_or, or_false, eq_self, Nat.add_zero, e1, v1', u, w58]
          refine ⟨by omega, ?_⟩
          have e : ((asm ps st k : Nat) : Int) + (A : Int) = ((asm ps st (k + 1) : Nat) : Int) := by rw [hAs]; omega
          rw [e]
          refine nx _ (by omega) (f2.wI (Or.inr ⟨rfl, rfl⟩)) (wI_eq rfl rfl) (fun k' hk' y hy => ?_)
          have g : arcF ps st m2 k' y := by
            by_cases hkk : k' = k
            · subst hkk
              exact hB2 y (by omega)
            · exact hB k' (by omega) y hy
          unfold arcF at g ⊢
          rw [wI_oth (by decide), wI_oth (by decide), wI_oth (by decide)]
          exact g
        | succ r2 ih2 =>
          intro x m2 hx f2 w58 hB hB2
          obtain ⟨p1, p2⟩ := rF_pos hF hkK (show st k + x < st (k + 1) by omega)
          have v1' := (frM f2).2.2.2.2.1 (k + 1) (by omega)
          have v138 := (frM f2).2.2.2.2.2.1 (st k + x) p1
          have u : ¬ (((st (k + 1) : Nat) : Int) ≤ ((st k + x : Nat) : Int)) := by omega
          have d2 : (ps (st k + x) : Int).tdiv 2 = ((ps (st k + x) / 2 : Nat) : Int) := rfl
          have r2' : (ps (st k + x) : Int).tmod 2 = ((ps (st k + x) % 2 : Nat) : Int) := rfl
          have hml : (A - 1 + unc ps (st k) x) % A < A := Nat.mod_lt _ (by omega)
          have hml2 : (A + unc ps (st k) x) % A < A := Nat.mod_lt _ (by omega)
          have hun : unc ps (st k) (x + 1) = unc ps (st k) x + ps (st k + x) % 2 := rfl
          have ex : ((st k + x : Nat) : Int) + 1 = ((st k + (x + 1) : Nat) : Int) := by omega
          have hme : ((A - 1 + unc ps (st k) x) % A + 1) % A = (A + unc ps (st k) x) % A := by
            rw [Nat.mod_add_mod]
            congr 1
            omega
          have ermA : (((((A - 1 + unc ps (st k) x) % A : Nat) : Int) + 1).tmod (A : Int)) = (((A + unc ps (st k) x) % A : Nat) : Int) := by
            rw [← hme]
            rfl
          have eb0 : ((asm ps st k : Nat) : Int) + (((A - 1 + unc ps (st k) x) % A : Nat) : Int) = ((asm ps st k + (A - 1 + unc ps (st k) x) % A : Nat) : Int) := by omega
          have eb1 : ((asm ps st k : Nat) : Int) + (((A + unc ps (st k) x) % A : Nat) : Int) = ((asm ps st k + (A + unc ps (st k) x) % A : Nat) : Int) := by omega
          have nx2 := ih2 (x + 1)
          clear ih2
          have oth : ∀ k' y, k' < K → st k' + y < st (k' + 1) → (k' < k ∨ (k' = k ∧ y < x)) → ps (st k' + y) ≠ ps (st k + x) := by
            intro k' y hk' hy hlt e
            have q1 := (rF_pos hF hk' hy).1
            have q2 := hinj _ _ q1 p1 e
            rcases hlt with hlt | ⟨hlt, hlt2⟩
            · have := hF.2.2.2.2.2.1 (k' + 1) k (by omega) (by omega)
              omega
            · subst hlt
              omega
          refine vX12_layArcs_76 hly hd ?_
          rcases (show ps (st k + x) % 2 = 0 ∨ ps (st k + x) % 2 = 1 by omega) with par | par
          · have par' : ((ps (st k + x) % 2 : Nat) : Int) = 0 := by omega
            rw [hun, par, Nat.add_zero] at nx2
            simp (disch := omega) only [forall_eq, true_and, and_true, false_and, and_false, forall_const, true_implies, implies_true, not_true_eq_false, not_false_eq_true, false_implies, if_true, if_false, ↓reduceIte, Int.toNat_natCast, Int.reduceEq, Int.reduceNe, Int.reduceLT, Int.reduceLE, Int.reduceToNat, Int.reduceAdd, Int.reduceSub, Int.reduceMul, Int.reduceNeg, Nat.reduceAdd, Nat.reduceMul, Nat.reduceSub, iI_lit, jI_lit, iI_add, iI_sub, iI_mul, iI_neg, jI_add, jI_sub, jI_mul, jI_neg, nI_i, lN_j, iI_le, iI_lt, iI_eq, jI_le, jI_lt, jI_eq, iI_in, iI_cl, iI_j, jI_i, cN, inN, wI_eq, wI_ne, wJ_1, wJ_eq, wJ_ne, wI_2, wJ_3, iI_div, iI_rem, jI_div, jI_rem, true_or, or_true, false_or, or_false, eq_self, Nat.add_zero, e1, v1', u, v138, d2, r2', par', w58, eb0, ex]
            refine ⟨by omega, by omega, by omega, by omega, ?_⟩
            have keep : ∀ k' y, k' < K → st k' + y < st (k' + 1) → (k' < k ∨ (k' = k ∧ y < x)) → arcF ps st m2 k' y → arcF ps st (sm_wI m2 141 (ps (st k + x) / 2) (iI ((asm ps st k + (A - 1 + unc ps (st k) x) % A : Nat) : Int))) k' y := by
              intro k' y hk' hy hlt g
              have hne := oth k' y hk' hy hlt
              unfold arcF at g ⊢
              rw [wI_oth (b := 142) (by decide), wI_oth (b := 143) (by decide)]
              refine ⟨fun q => ?_, g.2⟩
              rw [wI_ne (Or.inr (by omega))]
              exact g.1 q
            refine nx2 _ (by omega) (f2.wI (Or.inl (by omega))) (by simp (disch := omega) only [forall_eq, true_and, and_true, false_and, and_false, forall_const, true_implies, implies_true, not_true_eq_false, not_false_eq_true, false_implies, if_true, if_false, ↓reduceIte, Int.toNat_natCast, Int.reduceEq, Int.reduceNe, Int.reduceLT, Int.reduceLE, Int.reduceToNat, Int.reduceAdd, Int.reduceSub, Int.reduceMul, Int.reduceNeg, Nat.reduceAdd, Nat.reduceMul, Nat.reduceSub, iI_lit, jI_lit, iI_add, iI_sub, iI_mul, iI_neg, jI_add, jI_sub, jI_mul, jI_neg, nI_i, lN_j, iI_le, iI_lt, iI_eq, jI_le, jI_lt, jI_eq, iI_in, iI_cl, iI_j, jI_i, cN, inN, wI_eq, wI_ne, wJ_1, wJ_eq, wJ_ne, wI_2, wJ_3, iI_div, iI_rem, jI_div, jI_rem, true_or, or_true, false_or, or_false, eq_self, Nat.add_zero, w58]) (fun k' hk' y hy => keep k' y (by omega) hy (Or.inl hk') (hB k' hk' y hy)) (fun y hy => ?_)
            by_cases hyx : y = x
            · subst hyx
              unfold arcF
              rw [← hA0]
              exact ⟨fun _ => wI_eq rfl rfl, fun q => by omega⟩
            · exact keep k y hkK (by omega) (Or.inr ⟨rfl, by omega⟩) (hB2 y (by omega))
          · have par' : ((ps (st k + x) % 2 : Nat) : Int) ≠ 0 := by omega
            have hA1 : (A : Int) ≠ 0 := by omega
            rw [hun, par] at nx2
            rw [show A - 1 + (unc ps (st k) x + 1) = A + unc ps (st k) x by omega] at nx2
            simp (disch := omega) only [forall_eq, true_and, and_true, false_and, and_false, forall_const, true_implies, implies_true, not_true_eq_false, not_false_eq_true, false_implies, if_true, if_false, ↓reduceIte, Int.toNat_natCast, Int.reduceEq, Int.reduceNe, Int.reduceLT, Int.reduceLE, Int.reduceToNat, Int.reduceAdd, Int.reduceSub, Int.reduceMul, Int.reduceNeg, Nat.reduceAdd, Nat.reduceMul, Nat.reduceSub, iI_lit, jI_lit, iI_add, iI_sub, iI_mul, iI_neg, jI_add, jI_sub, jI_mul, jI_neg, nI_i, lN_j, iI_le, iI_lt, iI_eq, jI_le, jI_lt, jI_eq, iI_in, iI_cl, iI_j, jI_i, cN, inN, wI_eq, wI_ne, wJ_1, wJ_eq, wJ_ne, wI_2, wJ_3, iI_div, iI_rem, jI_div, jI_rem, true_or, or_true, false_or, or_false, eq_self, Nat.add_zero, e1, v1', u, v138, d2, r2', par', w58, eb0, ermA, eb1, ex, hA1]
            refine ⟨by omega, by omega, by omega, by omega, by omega, ?_⟩
            have keep : ∀ k' y, k' < K → st k' + y < st (k' + 1) → (k' < k ∨ (k' = k ∧ y < x)) → arcF ps st m2 k' y → arcF ps st (sm_wI (sm_wI m2 142 (ps (st k + x) / 2) (iI ((asm ps st k + (A - 1 + unc ps (st k) x) % A : Nat) : Int))) 143 (ps (st k + x) / 2) (iI ((asm ps st k + (A + unc ps (st k) x) % A : Nat) : Int))) k' y := by
              intro k' y hk' hy hlt g
              have hne := oth k' y hk' hy hlt
              unfold arcF at g ⊢
              rw [wI_oth (b := 141) (by decide), wI_oth (b := 141) (by decide)]
              refine ⟨g.1, fun q => ?_⟩
              rw [wI_oth (b := 142) (by decide), wI_ne (Or.inr (by omega)), wI_ne (Or.inr (by omega)), wI_oth (b := 143) (by decide)]
              exact g.2 q
            refine nx2 _ (by omega) ((f2.wI (Or.inl (by omega))).wI (Or.inl (by omega))) (by simp (disch := omega) only [forall_eq, true_and, and_true, false_and, and_false, forall_const, true_implies, implies_true, not_true_eq_false, not_false_eq_true, false_implies, if_true, if_false, ↓reduceIte, Int.toNat_natCast, Int.reduceEq, Int.reduceNe, Int.reduceLT, Int.reduceLE, Int.reduceToNat, Int.reduceAdd, Int.reduceSub, Int.reduceMul, Int.reduceNeg, Nat.reduceAdd, Nat.reduceMul, Nat.reduceSub, iI_lit, jI_lit, iI_add, iI_sub, iI_mul, iI_neg, jI_add, jI_sub, jI_mul, jI_neg, nI_i, lN_j, iI_le, iI_lt, iI_eq, jI_le, jI_lt, jI_eq, iI_in, iI_cl, iI_j, jI_i, cN, inN, wI_eq, wI_ne, wJ_1, wJ_eq, wJ_ne, wI_2, wJ_3, iI_div, iI_rem, jI_div, jI_rem, true_or, or_true, false_or, or_false, eq_self, Nat.add_zero, w58]) (fun k' hk' y hy => keep k' y (by omega) hy (Or.inl hk') (hB k' hk' y hy)) (fun y hy => ?_)
            by_cases hyx : y = x
            · subst hyx
              unfold arcF
              rw [← hA0]
              refine ⟨fun q => by omega, fun _ => ⟨?_, wI_eq rfl rfl⟩⟩
              rw [wI_oth (by decide), wI_eq rfl rfl]
            · exact keep k y hkK (by omega) (Or.inr ⟨rfl, by omega⟩) (hB2 y (by omega))
      have cnt : ∀ (r2 x : Nat), x + r2 = N → gX12_layArcs_24 E L d [.ref (sm_B E + 109)] (iI (k : Nat)) (iI (unc ps (st k) x : Nat)) (iI ((st k + x : Nat) : Int)) m1 Q := by
        intro r2
        induction r2 with
        | zero =>
          intro x hx
          have hxN : x = N := by omega
          subst hxN
          have hu := unc_le ps (st k) x
          have u : ((st (k + 1) : Nat) : Int) ≤ ((st k + x : Nat) : Int) := by omega
          have go : ∀ a : Int, a = (A : Int) → gX12_layArcs_62 E L d [.ref (sm_B E + 109)] (iI (k : Nat)) (iI a) m1 Q := by
            intro a ha
            subst ha
            refine vX12_layArcs_62 hly hd ?_
            simp (disch := omega) only [forall_eq, true_and, and_true, false_and, and_false, forall_const, true_implies, implies_true, not_true_eq_false, not_false_eq_true, false_implies, if_true, if_false, ↓reduceIte, Int.toNat_natCast, Int.reduceEq, Int.reduceNe, Int.reduceLT, Int.reduceLE, Int.reduceToNat, Int.reduceAdd, Int.reduceSub, Int.reduceMul, Int.reduceNeg, Nat.reduceAdd, Nat.reduceMul, Nat.reduceSub, iI_lit, jI_lit, iI_add, iI_sub, iI_mul, iI_neg, jI_add, jI_sub, jI_mul, jI_neg, nI_i, lN_j, iI_le, iI_lt, iI_eq, jI_le, jI_lt, jI_eq, iI_in, iI_cl, iI_j, jI_i, cN, inN, wI_eq, wI_ne, wJ_1, wJ_eq, wJ_ne, wI_2, wJ_3, iI_div, iI_rem, jI_div, jI_rem, true_or, or_true, false_or, or_false, eq_self, Nat.add_zero, v0]
            refine ⟨by omega, ?_⟩
            have l0 := lay x 0 m1 (by omega) f1 v58 hA (fun y hy => absurd hy (Nat.not_lt_zero _))
            have e0 : (A - 1 + unc ps (st k) 0) % A = A - 1 := Nat.mod_eq_of_lt (by show A - 1 + 0 < A; omega)
            rw [e0, show ((A - 1 : Nat) : Int) = (A : Int) - 1 by omega] at l0
            exact l0
          refine vX12_layArcs_24 hly hd ?_
          simp (disch := omega) only [forall_eq, true_and, and_true, false_and, and_false, forall_const, true_implies, implies_true, not_true_eq_false, not_false_eq_true, false_implies, if_true, if_false, ↓reduceIte, Int.toNat_natCast, Int.reduceEq, Int.reduceNe, Int.reduceLT, Int.reduceLE, Int.reduceToNat, Int.reduceAdd, Int.reduceSub, Int.reduceMul, Int.reduceNeg, Nat.reduceAdd, Nat.reduceMul, Nat.reduceSub, iI_lit, jI_lit, iI_add, iI_sub, iI_mul, iI_neg, jI_add, jI_sub, jI_mul, jI_neg, nI_i, lN_j, iI_le, iI_lt, iI_eq, jI_le, jI_lt, jI_eq, iI_in, iI_cl, iI_j, jI_i, cN, inN, wI_eq, wI_ne, wJ_1, wJ_eq, wJ_ne, wI_2, wJ_3, iI_div, iI_rem, jI_div, jI_rem, true_or, or_true, false_or, or_false, eq_self, Nat.add_zero, e1, v1, u]
          exact ⟨by omega, fun q => go _ (by omega), fun q => go _ (by omega)⟩
        | succ r2 ih2 =>
          intro x hx
          have hu := unc_le ps (st k) x
          obtain ⟨p1, p2⟩ := rF_pos hF hkK (show st k + x < st (k + 1) by omega)
          have v138 := hM1.2.2.2.2.2.1 (st k + x) p1
          have u : ¬ (((st (k + 1) : Nat) : Int) ≤ ((st k + x : Nat) : Int)) := by omega
          have r2' : (ps (st k + x) : Int).tmod 2 = ((ps (st k + x) % 2 : Nat) : Int) := rfl
          refine vX12_layArcs_24 hly hd ?_
          simp (disch := omega) only [forall_eq, true_and, and_true, false_and, and_false, forall_const, true_implies, implies_true, not_true_eq_false, not_false_eq_true, false_implies, if_true, if_false, ↓reduceIte, Int.toNat_natCast, Int.reduceEq, Int.reduceNe, Int.reduceLT, Int.reduceLE, Int.reduceToNat, Int.reduceAdd, Int.reduceSub, Int.reduceMul, Int.reduceNeg, Nat.reduceAdd, Nat.reduceMul, Nat.reduceSub, iI_lit, jI_lit, iI_add, iI_sub, iI_mul, iI_neg, jI_add, jI_sub, jI_mul, jI_neg, nI_i, lN_j, iI_le, iI_lt, iI_eq, jI_le, jI_lt, jI_eq, iI_in, iI_cl, iI_j, jI_i, cN, inN, wI_eq, wI_ne, wJ_1, wJ_eq, wJ_ne, wI_2, wJ_3, iI_div, iI_rem, jI_div, jI_rem, true_or, or_true, false_or, or_false, eq_self, Nat.add_zero, e1, v1, u, v138, r2']
          refine ⟨by omega, by omega, ?_⟩
          exact ih2 (x + 1) (by omega)
      have u : ¬ ((K : Int) ≤ (k : Int)) := by omega
      refine vX12_layArcs_7 hly hd ?_
      simp (disch := omega) only [forall_eq, true_and, and_true, false_and, and_false, forall_const, true_implies, implies_true, not_true_eq_false, not_false_eq_true, false_implies, if_true, if_false, ↓reduceIte, Int.toNat_natCast, Int.reduceEq, Int.reduceNe, Int.reduceLT, Int.reduceLE, Int.reduceToNat, Int.reduceAdd, Int.reduceSub, Int.reduceMul, Int.reduceNeg, Nat.reduceAdd, Nat.reduceMul, Nat.reduceSub, iI_lit, jI_lit, iI_add, iI_sub, iI_mul, iI_neg, jI_add, jI_sub, jI_mul, jI_neg, nI_i, lN_j, iI_le, iI_lt, iI_eq, jI_le, jI_lt, jI_eq, iI_in, iI_cl, iI_j, jI_i, cN, inN, wI_eq, wI_ne, wJ_1, wJ_eq, wJ_ne, wI_2, wJ_3, iI_div, iI_rem, jI_div, jI_rem, true_or, or_true, false_or, or_false, eq_self, Nat.add_zero, hM1.2.1, u, v0]
      exact ⟨by omega, cnt N 0 (by omega)⟩
  refine vX12_layArcs_0 hly hd ?_
  simp (disch := omega) only [forall_eq, true_and, and_true, false_and, and_false, forall_const, true_implies, implies_true, not_true_eq_false, not_false_eq_true, false_implies, if_true, if_false, ↓reduceIte, Int.toNat_natCast, Int.reduceEq, Int.reduceNe, Int.reduceLT, Int.reduceLE, Int.reduceToNat, Int.reduceAdd, Int.reduceSub, Int.reduceMul, Int.reduceNeg, Nat.reduceAdd, Nat.reduceMul, Nat.reduceSub, iI_lit, jI_lit, iI_add, iI_sub, iI_mul, iI_neg, jI_add, jI_sub, jI_mul, jI_neg, nI_i, lN_j, iI_le, iI_lt, iI_eq, jI_le, jI_lt, jI_eq, iI_in, iI_cl, iI_j, jI_i, cN, inN, wI_eq, wI_ne, wJ_1, wJ_eq, wJ_ne, wI_2, wJ_3, iI_div, iI_rem, jI_div, jI_rem, true_or, or_true, false_or, or_false, eq_self, Nat.add_zero]
  exact main K 0 _ (by omega) (fr.rf.wI (Or.inr ⟨rfl, rfl⟩)) (wI_eq rfl rfl) (fun k' hk' => absurd hk' (Nat.not_lt_zero _))
end ARC
