/-! gauss: the call; arcs -/
def unc (ps : Nat → Nat) (a : Nat) : Nat → Nat
  | 0 => 0
  | x + 1 => unc ps a x + ps (a + x) % 2
def amn (ps st : Nat → Nat) (k : Nat) : Nat := max (unc ps (st k) (st (k + 1) - st k)) 1
def asm (ps st : Nat → Nat) : Nat → Nat
  | 0 => 0
  | k + 1 => asm ps st k + amn ps st k
theorem unc_le (ps : Nat → Nat) (a : Nat) : ∀ x, unc ps a x ≤ x := by
  intro x
  induction x with
  | zero => exact Nat.le_refl _
  | succ x ih =>
    show unc ps a x + ps (a + x) % 2 ≤ x + 1
    omega
theorem amn_bd (ps st : Nat → Nat) (k : Nat) : 1 ≤ amn ps st k ∧ amn ps st k ≤ st (k + 1) - st k + 1 := by
  have := unc_le ps (st k) (st (k + 1) - st k)
  unfold amn
  omega
section K17
variable {E : sm_E} {L : sm_S → Prop} {d d1 d2 : Nat} {m : sm_M} {c K Z w cc : Nat} {po st ps ho ea : Nat → Nat}
theorem asm_bd (hF : rF c K Z w po st ps ho ea) : ∀ k, k ≤ K → asm ps st k ≤ st k + k := by
  intro k
  induction k with
  | zero => exact fun _ => Nat.zero_le _
  | succ k ih =>
    intro hk
    have h1 := ih (by omega)
    have h2 := (amn_bd ps st k).2
    have h3 := hF.2.2.2.2.2.1 k (k + 1) (by omega) hk
    show asm ps st k + amn ps st k ≤ _
    omega
theorem k_gauss {x1 x2 x3 x4 : Int32} (hly : ∀ S, L S → ly S) (hd1 : 6 ≤ d1) (hd2 : 5 ≤ d2) (hI : Inv cc m) : sm_callI E L mX11_gauss d1 0 0 [.ref (sm_B E + 0), .int x1, .int x2, .int x3, .int x4] m (fun r m1 => sm_callI E L mX12_gauss d2 0 0 [.ref (sm_B E + 109), .int x1, .int x2, .int x3, .int x4] m1 (fun r2 m2 => r = r2 ∧ Inv cc m2)) := by
  obtain ⟨z, z1, z2, rfl⟩ := iI_ex x1
  obtain ⟨i, i1, i2, rfl⟩ := iI_ex x2
  obtain ⟨sd, s1, s2, rfl⟩ := iI_ex x3
  obtain ⟨x, a1, a2, rfl⟩ := iI_ex x4
  by_cases hz : 0 ≤ z ∧ z < 4
  rotate_left
  · refine vX11_gauss_0 hly hd1 (c_isSheet z1 z2 (by omega) ?_)
    simp (disch := omega) only [forall_eq, true_and, and_true, false_and, and_false, forall_const, true_implies, implies_true, not_true_eq_false, not_false_eq_true, false_implies, if_true, if_false, ↓reduceIte, Int.toNat_natCast, Int.reduceEq, Int.reduceNe, Int.reduceLT, Int.reduceLE, Int.reduceToNat, Int.reduceAdd, Int.reduceSub, Int.reduceMul, Int.reduceNeg, Nat.reduceAdd, Nat.reduceMul, Nat.reduceSub, iI_lit, jI_lit, iI_add, iI_sub, iI_mul, iI_neg, jI_add, jI_sub, jI_mul, jI_neg, nI_i, lN_j, iI_le, iI_lt, iI_eq, jI_le, jI_lt, jI_eq, iI_in, iI_cl, iI_j, jI_i, cN, inN, wI_eq, wI_ne, wJ_1, wJ_eq, wJ_ne, wI_2, wJ_3, iI_div, iI_rem, jI_div, jI_rem, true_or, or_true, false_or, or_false, eq_self, Nat.add_zero, hz]
    refine c_error (e := 1) hly (by decide) (by omega) (vX12_gauss_0 hly hd2 (c12_isSheet z1 z2 (by omega) ?_))
    simp (disch := omega) only [forall_eq, true_and, and_true, false_and, and_false, forall_const, true_implies, implies_true, not_true_eq_false, not_false_eq_true, false_implies, if_true, if_false, ↓reduceIte, Int.toNat_natCast, Int.reduceEq, Int.reduceNe, Int.reduceLT, Int.reduceLE, Int.reduceToNat, Int.reduceAdd, Int.reduceSub, Int.reduceMul, Int.reduceNeg, Nat.reduceAdd, Nat.reduceMul, Nat.reduceSub, iI_lit, jI_lit, iI_add, iI_sub, iI_mul, iI_neg, jI_add, jI_sub, jI_mul, jI_neg, nI_i, lN_j, iI_le, iI_lt, iI_eq, jI_le, jI_lt, jI_eq, iI_in, iI_cl, iI_j, jI_i, cN, inN, wI_eq, wI_ne, wJ_1, wJ_eq, wJ_ne, wI_2, wJ_3, iI_div, iI_rem, jI_div, jI_rem, true_or, or_true, false_or, or_false, eq_self, Nat.add_zero, hz]
    exact c12_finds (e := 1) hly (by decide) (by omega) ⟨rfl, hI.er frw.rf frw.rf⟩
  by_cases hi : 0 ≤ i ∧ i < 6
  rotate_left
  · refine vX11_gauss_0 hly hd1 (c_isSheet z1 z2 (by omega) ?_)
    simp (disch := omega) only [forall_eq, true_and, and_true, false_and, and_false, forall_const, true_implies, implies_true, not_true_eq_false, not_false_eq_true, false_implies, if_true, if_false, ↓reduceIte, Int.toNat_natCast, Int.reduceEq, Int.reduceNe, Int.reduceLT, Int.reduceLE, Int.reduceToNat, Int.reduceAdd, Int.reduceSub, Int.reduceMul, Int.reduceNeg, Nat.reduceAdd, Nat.reduceMul, Nat.reduceSub, iI_lit, jI_lit, iI_add, iI_sub, iI_mul, iI_neg, jI_add, jI_sub, jI_mul, jI_neg, nI_i, lN_j, iI_le, iI_lt, iI_eq, jI_le, jI_lt, jI_eq, iI_in, iI_cl, iI_j, jI_i, cN, inN, wI_eq, wI_ne, wJ_1, wJ_eq, wJ_ne, wI_2, wJ_3, iI_div, iI_rem, jI_div, jI_rem, true_or, or_true, false_or, or_false, eq_self, Nat.add_zero, hz]
    refine c_isSlot i1 i2 (by omega) ?_
    simp (disch := omega) only [forall_eq, true_and, and_true, false_and, and_false, forall_const, true_implies, implies_true, not_true_eq_false, not_false_eq_true, false_implies, if_true, if_false, ↓reduceIte, Int.toNat_natCast, Int.reduceEq, Int.reduceNe, Int.reduceLT, Int.reduceLE, Int.reduceToNat, Int.reduceAdd, Int.reduceSub, Int.reduceMul, Int.reduceNeg, Nat.reduceAdd, Nat.reduceMul, Nat.reduceSub, iI_lit, jI_lit, iI_add, iI_sub, iI_mul, iI_neg, jI_add, jI_sub, jI_mul, jI_neg, nI_i, lN_j, iI_le, iI_lt, iI_eq, jI_le, jI_lt, jI_eq, iI_in, iI_cl, iI_j, jI_i, cN, inN, wI_eq, wI_ne, wJ_1, wJ_eq, wJ_ne, wI_2, wJ_3, iI_div, iI_rem, jI_div, jI_rem, true_or, or_true, false_or, or_false, eq_self, Nat.add_zero, hi]
    refine c_error (e := 1) hly (by decide) (by omega) (vX12_gauss_0 hly hd2 (c12_isSheet z1 z2 (by omega) ?_))
    simp (disch := omega) only [forall_eq, true_and, and_true, false_and, and_false, forall_const, true_implies, implies_true, not_true_eq_false, not_false_eq_true, false_implies, if_true, if_false, ↓reduceIte, Int.toNat_natCast, Int.reduceEq, Int.reduceNe, Int.reduceLT, Int.reduceLE, Int.reduceToNat, Int.reduceAdd, Int.reduceSub, Int.reduceMul, Int.reduceNeg, Nat.reduceAdd, Nat.reduceMul, Nat.reduceSub, iI_lit, jI_lit, iI_add, iI_sub, iI_mul, iI_neg, jI_add, jI_sub, jI_mul, jI_neg, nI_i, lN_j, iI_le, iI_lt, iI_eq, jI_le, jI_lt, jI_eq, iI_in, iI_cl, iI_j, jI_i, cN, inN, wI_eq, wI_ne, wJ_1, wJ_eq, wJ_ne, wI_2, wJ_3, iI_div, iI_rem, jI_div, jI_rem, true_or, or_true, false_or, or_false, eq_self, Nat.add_zero, hz]
    refine c12_isSlot i1 i2 (by omega) ?_
    simp (disch := omega) only [forall_eq, true_and, and_true, false_and, and_false, forall_const, true_implies, implies_true, not_true_eq_false, not_false_eq_true, false_implies, if_true, if_false, ↓reduceIte, Int.toNat_natCast, Int.reduceEq, Int.reduceNe, Int.reduceLT, Int.reduceLE, Int.reduceToNat, Int.reduceAdd, Int.reduceSub, Int.reduceMul, Int.reduceNeg, Nat.reduceAdd, Nat.reduceMul, Nat.reduceSub, iI_lit, jI_lit, iI_add, iI_sub, iI_mul, iI_neg, jI_add, jI_sub, jI_mul, jI_neg, nI_i, lN_j, iI_le, iI_lt, iI_eq, jI_le, jI_lt, jI_eq, iI_in, iI_cl, iI_j, jI_i, cN, inN, wI_eq, wI_ne, wJ_1, wJ_eq, wJ_ne, wI_2, wJ_3, iI_div, iI_rem, jI_div, jI_rem, true_or, or_true, false_or, or_false, eq_self, Nat.add_zero, hi]
    exact c12_finds (e := 1) hly (by decide) (by omega) ⟨rfl, hI.er frw.rf frw.rf⟩
  by_cases hs : sd = 0 ∨ sd = 1
  rotate_left
  · refine vX11_gauss_0 hly hd1 (c_isSheet z1 z2 (by omega) ?_)
    simp (disch := omega) only [forall_eq, true_and, and_true, false_and, and_false, forall_const, true_implies, implies_true, not_true_eq_false, not_false_eq_true, false_implies, if_true, if_false, ↓reduceIte, Int.toNat_natCast, Int.reduceEq, Int.reduceNe, Int.reduceLT, Int.reduceLE, Int.reduceToNat, Int.reduceAdd, Int.reduceSub, Int.reduceMul, Int.reduceNeg, Nat.reduceAdd, Nat.reduceMul, Nat.reduceSub, iI_lit, jI_lit, iI_add, iI_sub, iI_mul, iI_neg, jI_add, jI_sub, jI_mul, jI_neg, nI_i, lN_j, iI_le, iI_lt, iI_eq, jI_le, jI_lt, jI_eq, iI_in, iI_cl, iI_j, jI_i, cN, inN, wI_eq, wI_ne, wJ_1, wJ_eq, wJ_ne, wI_2, wJ_3, iI_div, iI_rem, jI_div, jI_rem, true_or, or_true, false_or, or_false, eq_self, Nat.add_zero, hz]
    refine c_isSlot i1 i2 (by omega) ?_
    simp (disch := omega) only [forall_eq, true_and, and_true, false_and, and_false, forall_const, true_implies, implies_true, not_true_eq_false, not_false_eq_true, false_implies, if_true, if_false, ↓reduceIte, Int.toNat_natCast, Int.reduceEq, Int.reduceNe, Int.reduceLT, Int.reduceLE, Int.reduceToNat, Int.reduceAdd, Int.reduceSub, Int.reduceMul, Int.reduceNeg, Nat.reduceAdd, Nat.reduceMul, Nat.reduceSub, iI_lit, jI_lit, iI_add, iI_sub, iI_mul, iI_neg, jI_add, jI_sub, jI_mul, jI_neg, nI_i, lN_j, iI_le, iI_lt, iI_eq, jI_le, jI_lt, jI_eq, iI_in, iI_cl, iI_j, jI_i, cN, inN, wI_eq, wI_ne, wJ_1, wJ_eq, wJ_ne, wI_2, wJ_3, iI_div, iI_rem, jI_div, jI_rem, true_or, or_true, false_or, or_false, eq_self, Nat.add_zero, hi]
    refine c_isChoice s1 s2 (by omega) ?_
    simp (disch := omega) only [forall_eq, true_and, and_true, false_and, and_false, forall_const, true_implies, implies_true, not_true_eq_false, not_false_eq_true, false_implies, if_true, if_false, ↓reduceIte, Int.toNat_natCast, Int.reduceEq, Int.reduceNe, Int.reduceLT, Int.reduceLE, Int.reduceToNat, Int.reduceAdd, Int.reduceSub, Int.reduceMul, Int.reduceNeg, Nat.reduceAdd, Nat.reduceMul, Nat.reduceSub, iI_lit, jI_lit, iI_add, iI_sub, iI_mul, iI_neg, jI_add, jI_sub, jI_mul, jI_neg, nI_i, lN_j, iI_le, iI_lt, iI_eq, jI_le, jI_lt, jI_eq, iI_in, iI_cl, iI_j, jI_i, cN, inN, wI_eq, wI_ne, wJ_1, wJ_eq, wJ_ne, wI_2, wJ_3, iI_div, iI_rem, jI_div, jI_rem, true_or, or_true, false_or, or_false, eq_self, Nat.add_zero, hs]
    refine c_error (e := 1) hly (by decide) (by omega) (vX12_gauss_0 hly hd2 (c12_isSheet z1 z2 (by omega) ?_))
    simp (disch := omega) only [forall_eq, true_and, and_true, false_and, and_false, forall_const, true_implies, implies_true, not_true_eq_false, not_false_eq_true, false_implies, if_true, if_false, ↓reduceIte, Int.toNat_natCast, Int.reduceEq, Int.reduceNe, Int.reduceLT, Int.reduceLE, Int.reduceToNat, Int.reduceAdd, Int.reduceSub, Int.reduceMul, Int.reduceNeg, Nat.reduceAdd, Nat.reduceMul, Nat.reduceSub, iI_lit, jI_lit, iI_add, iI_sub, iI_mul, iI_neg, jI_add, jI_sub, jI_mul, jI_neg, nI_i, lN_j, iI_le, iI_lt, iI_eq, jI_le, jI_lt, jI_eq, iI_in, iI_cl, iI_j, jI_i, cN, inN, wI_eq, wI_ne, wJ_1, wJ_eq, wJ_ne, wI_2, wJ_3, iI_div, iI_rem, jI_div, jI_rem, true_or, or_true, false_or, or_false, eq_self, Nat.add_zero, hz]
    refine c12_isSlot i1 i2 (by omega) ?_
    simp (disch := omega) only [forall_eq, true_and, and_true, false_and, and_false, forall_const, true_implies, implies_true, not_true_eq_false, not_false_eq_true, false_implies, if_true, if_false, ↓reduceIte, Int.toNat_natCast, Int.reduceEq, Int.reduceNe, Int.reduceLT, Int.reduceLE, Int.reduceToNat, Int.reduceAdd, Int.reduceSub, Int.reduceMul, Int.reduceNeg, Nat.reduceAdd, Nat.reduceMul, Nat.reduceSub, iI_lit, jI_lit, iI_add, iI_sub, iI_mul, iI_neg, jI_add, jI_sub, jI_mul, jI_neg, nI_i, lN_j, iI_le, iI_lt, iI_eq, jI_le, jI_lt, jI_eq, iI_in, iI_cl, iI_j, jI_i, cN, inN, wI_eq, wI_ne, wJ_1, wJ_eq, wJ_ne, wI_2, wJ_3, iI_div, iI_rem, jI_div, jI_rem, true_or, or_true, false_or, or_false, eq_self, Nat.add_zero, hi]
    refine c12_isPart s1 s2 (by omega) ?_
    simp (disch := omega) only [forall_eq, true_and, and_true, false_and, and_false, forall_const, true_implies, implies_true, not_true_eq_false, not_false_eq_true, false_implies, if_true, if_false, ↓reduceIte, Int.toNat_natCast, Int.reduceEq, Int.reduceNe, Int.reduceLT, Int.reduceLE, Int.reduceToNat, Int.reduceAdd, Int.reduceSub, Int.reduceMul, Int.reduceNeg, Nat.reduceAdd, Nat.reduceMul, Nat.reduceSub, iI_lit, jI_lit, iI_add, iI_sub, iI_mul, iI_neg, jI_add, jI_sub, jI_mul, jI_neg, nI_i, lN_j, iI_le, iI_lt, iI_eq, jI_le, jI_lt, jI_eq, iI_in, iI_cl, iI_j, jI_i, cN, inN, wI_eq, wI_ne, wJ_1, wJ_eq, wJ_ne, wI_2, wJ_3, iI_div, iI_rem, jI_div, jI_rem, true_or, or_true, false_or, or_false, eq_self, Nat.add_zero, hs]
    exact c12_finds (e := 1) hly (by decide) (by omega) ⟨rfl, hI.er frw.rf frw.rf⟩
  obtain ⟨s, rfl⟩ : ∃ s : Nat, z = (s : Int) := ⟨z.toNat, by omega⟩
  obtain ⟨j, rfl⟩ : ∃ j : Nat, i = (j : Int) := ⟨i.toNat, by omega⟩
  obtain ⟨side, rfl⟩ : ∃ side : Nat, sd = (side : Int) := ⟨sd.toNat, by omega⟩
  have hj : j < 6 := by omega
  have hs4 : s < 4 := by omega
  have hside : side = 0 ∨ side = 1 := by omega
  obtain ⟨t, n, hv, hg, hh⟩ := hI.2.1.1 j hj
  obtain ⟨K, Z, W, po, st, ps, ho, ea, hF, kc, kr⟩ := k_draw (E := E) (L := L) hv hside hly
  have hc24 := hF.1
  have hK := hF.2.1
  have hW := hF.2.2.2.1
  have model : ∀ (m1 : sm_M) (Q : Int32 → sm_M → Prop), hl m1 j t n → (¬ (0 ≤ x ∧ x < K) → ∀ m2, frw scM m1 m2 → Q (iI (-1000000000 - (2 : Nat))) (sm_wI m2 110 2 (m2.1 110 2 + 1))) → (∀ k N : Nat, x = (k : Int) → k < K → st k + N = st (k + 1) → ∀ m2, fr (fun a q => scM a q ∨ lyP s a q) m1 m2 → m2.1 121 s = iI 8 → m2.1 122 s = iI (N : Nat) → (∀ x, x < 48 → m2.2.1 120 (48 * s + x) = jI (if x < N then pv (ps (st k + x)) else 0)) → Q (iI (N : Nat)) m2) → sm_callI E L mX12_gauss d2 0 0 [.ref (sm_B E + 109), .int (iI (s : Nat)), .int (iI (j : Nat)), .int (iI (side : Nat)), .int (iI x)] m1 Q := by
    intro m1 Q h1 hQ0 hQ1
    refine vX12_gauss_0 hly hd2 (c12_isSheet z1 z2 (by omega) ?_)
    simp (disch := omega) only [forall_eq, true_and, and_true, false_and, and_false, forall_const, true_implies, implies_true, not_true_eq_false, not_false_eq_true, false_implies, if_true, if_false, ↓reduceIte, Int.toNat_natCast, Int.reduceEq, Int.reduceNe, Int.reduceLT, Int.reduceLE, Int.reduceToNat, Int.reduceAdd, Int.reduceSub, Int.reduceMul, Int.reduceNeg, Nat.reduceAdd, Nat.reduceMul, Nat.reduceSub, iI_lit, jI_lit, iI_add, iI_sub, iI_mul, iI_neg, jI_add, jI_sub, jI_mul, jI_neg, nI_i, lN_j, iI_le, iI_lt, iI_eq, jI_le, jI_lt, jI_eq, iI_in, iI_cl, iI_j, jI_i, cN, inN, wI_eq, wI_ne, wJ_1, wJ_eq, wJ_ne, wI_2, wJ_3, iI_div, iI_rem, jI_div, jI_rem, true_or, or_true, false_or, or_false, eq_self, Nat.add_zero, hz]
    refine c12_isSlot i1 i2 (by omega) ?_
    simp (disch := omega) only [forall_eq, true_and, and_true, false_and, and_false, forall_const, true_implies, implies_true, not_true_eq_false, not_false_eq_true, false_implies, if_true, if_false, ↓reduceIte, Int.toNat_natCast, Int.reduceEq, Int.reduceNe, Int.reduceLT, Int.reduceLE, Int.reduceToNat, Int.reduceAdd, Int.reduceSub, Int.reduceMul, Int.reduceNeg, Nat.reduceAdd, Nat.reduceMul, Nat.reduceSub, iI_lit, jI_lit, iI_add, iI_sub, iI_mul, iI_neg, jI_add, jI_sub, jI_mul, jI_neg, nI_i, lN_j, iI_le, iI_lt, iI_eq, jI_le, jI_lt, jI_eq, iI_in, iI_cl, iI_j, jI_i, cN, inN, wI_eq, wI_ne, wJ_1, wJ_eq, wJ_ne, wI_2, wJ_3, iI_div, iI_rem, jI_div, jI_rem, true_or, or_true, false_or, or_false, eq_self, Nat.add_zero, hi]
    refine c12_isPart s1 s2 (by omega) ?_
    simp (disch := omega) only [forall_eq, true_and, and_true, false_and, and_false, forall_const, true_implies, implies_true, not_true_eq_false, not_false_eq_true, false_implies, if_true, if_false, ↓reduceIte, Int.toNat_natCast, Int.reduceEq, Int.reduceNe, Int.reduceLT, Int.reduceLE, Int.reduceToNat, Int.reduceAdd, Int.reduceSub, Int.reduceMul, Int.reduceNeg, Nat.reduceAdd, Nat.reduceMul, Nat.reduceSub, iI_lit, jI_lit, iI_add, iI_sub, iI_mul, iI_neg, jI_add, jI_sub, jI_mul, jI_neg, nI_i, lN_j, iI_le, iI_lt, iI_eq, jI_le, jI_lt, jI_eq, iI_in, iI_cl, iI_j, jI_i, cN, inN, wI_eq, wI_ne, wJ_1, wJ_eq, wJ_ne, wI_2, wJ_3, iI_div, iI_rem, jI_div, jI_rem, true_or, or_true, false_or, or_false, eq_self, Nat.add_zero, hs]
    refine kr m1 j 4 _ (by omega) hj h1 (fun m2 f2 hM => ?_)
    simp (disch := omega) only [forall_eq, true_and, and_true, false_and, and_false, forall_const, true_implies, implies_true, not_true_eq_false, not_false_eq_true, false_implies, if_true, if_false, ↓reduceIte, Int.toNat_natCast, Int.reduceEq, Int.reduceNe, Int.reduceLT, Int.reduceLE, Int.reduceToNat, Int.reduceAdd, Int.reduceSub, Int.reduceMul, Int.reduceNeg, Nat.reduceAdd, Nat.reduceMul, Nat.reduceSub, iI_lit, jI_lit, iI_add, iI_sub, iI_mul, iI_neg, jI_add, jI_sub, jI_mul, jI_neg, nI_i, lN_j, iI_le, iI_lt, iI_eq, jI_le, jI_lt, jI_eq, iI_in, iI_cl, iI_j, jI_i, cN, inN, wI_eq, wI_ne, wJ_1, wJ_eq, wJ_ne, wI_2, wJ_3, iI_div, iI_rem, jI_div, jI_rem, true_or, or_true, false_or, or_false, eq_self, Nat.add_zero, hM.2.1]
    refine c12_isIn (by omega) (by omega) (by omega) (by omega) (by omega) (by omega) (by omega) ?_
    by_cases hx : 0 ≤ x ∧ x ≤ (K : Int) - 1
    · rw [if_pos hx]
      obtain ⟨k, rfl⟩ : ∃ k : Nat, x = (k : Int) := ⟨x.toNat, by omega⟩
      have hk : k < K := by omega
      have hmo := hF.2.2.2.2.2.1 k (k + 1) (by omega) (by omega)
      have hmo2 := hF.2.2.2.2.2.1 (k + 1) K (by omega) (by omega)
      have hend := hF.2.2.2.2.2.2.2.1
      have v0 := hM.2.2.2.2.1 k (by omega)
      have v1 := hM.2.2.2.2.1 (k + 1) (by omega)
      obtain ⟨N, hN⟩ : ∃ N, st k + N = st (k + 1) := ⟨st (k + 1) - st k, by omega⟩
      have e1 : ((k : Int) + 1).toNat = k + 1 := by omega
      have eN : (st (k + 1) : Int) - (st k : Int) = (N : Int) := by omega
      simp (disch := omega) only [forall_eq, true_and, and_true, false_and, and_false, forall_const, true_implies, implies_true, not_true_eq_false, not_false_eq_true, false_implies, if_true, if_false, ↓reduceIte, Int.toNat_natCast, Int.reduceEq, Int.reduceNe, Int.reduceLT, Int.reduceLE, Int.reduceToNat, Int.reduceAdd, Int.reduceSub, Int.reduceMul, Int.reduceNeg, Nat.reduceAdd, Nat.reduceMul, Nat.reduceSub, iI_lit, jI_lit, iI_add, iI_sub, iI_mul, iI_neg, jI_add, jI_sub, jI_mul, jI_neg, nI_i, lN_j, iI_le, iI_lt, iI_eq, jI_le, jI_lt, jI_eq, iI_in, iI_cl, iI_j, jI_i, cN, inN, wI_eq, wI_ne, wJ_1, wJ_eq, wJ_ne, wI_2, wJ_3, iI_div, iI_rem, jI_div, jI_rem, true_or, or_true, false_or, or_false, eq_self, Nat.add_zero, e1, v0, v1, eN]
      refine ⟨by omega, by omega, c12_lays (b := 8) (n := (N : Int)) hly (by omega) hs4 (by omega) (by omega) (fun m3 f3 q1 q2 q3 => ?_)⟩
      rw [if_neg (by decide)] at q2
      have hM3 : rM m3 (crs t n) K Z W po st ps ho ea := by
        obtain ⟨p1, p2, p3, p4, p5, p6, p7, p8⟩ := hM
        exact ⟨(f3.i (by unfold lyP; omega)).trans p1, (f3.i (by unfold lyP; omega)).trans p2, (f3.i (by unfold lyP; omega)).trans p3, fun b hb => (f3.i (by unfold lyP; omega)).trans (p4 b hb), fun b hb => (f3.i (by unfold lyP; omega)).trans (p5 b hb), fun b hb => (f3.i (by unfold lyP; omega)).trans (p6 b hb), fun b hb => (f3.i (by unfold lyP; omega)).trans (p7 b hb), fun b hb => (f3.i (by unfold lyP; omega)).trans (p8 b hb)⟩
      refine m_gauss_loop (s := s) (k := k) (n := N) hly hd2 hF hk hs4 hN m3 hM3 (fun m4 f4 q4 => ?_) N 0 m3 (by omega) fr.rf (fun y hy => by rw [if_neg (by omega)]; exact q3 y hy)
      refine hQ1 k N rfl hk hN m4 (((f2.mono (fun a q h => Or.inl (dMP_sc h))).tr (f3.mono (fun a q h => Or.inr h))).tr (f4.mono (fun a q h => Or.inr (Or.inr (Or.inr h))))) ?_ ?_ q4
      · rw [f4.i (by omega)]; exact q1
      · rw [f4.i (by omega)]; exact q2
    · rw [if_neg hx]
      simp (disch := omega) only [forall_eq, true_and, and_true, false_and, and_false, forall_const, true_implies, implies_true, not_true_eq_false, not_false_eq_true, false_implies, if_true, if_false, ↓reduceIte, Int.toNat_natCast, Int.reduceEq, Int.reduceNe, Int.reduceLT, Int.reduceLE, Int.reduceToNat, Int.reduceAdd, Int.reduceSub, Int.reduceMul, Int.reduceNeg, Nat.reduceAdd, Nat.reduceMul, Nat.reduceSub, iI_lit, jI_lit, iI_add, iI_sub, iI_mul, iI_neg, jI_add, jI_sub, jI_mul, jI_neg, nI_i, lN_j, iI_le, iI_lt, iI_eq, jI_le, jI_lt, jI_eq, iI_in, iI_cl, iI_j, jI_i, cN, inN, wI_eq, wI_ne, wJ_1, wJ_eq, wJ_ne, wI_2, wJ_3, iI_div, iI_rem, jI_div, jI_rem, true_or, or_true, false_or, or_false, eq_self, Nat.add_zero]
      exact c12_finds (e := 2) hly (by decide) (by omega) (hQ0 (by omega) m2 (f2.w.mono (fun a k h => dMP_sc h)))
  refine vX11_gauss_0 hly hd1 (c_isSheet z1 z2 (by omega) ?_)
  simp (disch := omega) only [forall_eq, true_and, and_true, false_and, and_false, forall_const, true_implies, implies_true, not_true_eq_false, not_false_eq_true, false_implies, if_true, if_false, ↓reduceIte, Int.toNat_natCast, Int.reduceEq, Int.reduceNe, Int.reduceLT, Int.reduceLE, Int.reduceToNat, Int.reduceAdd, Int.reduceSub, Int.reduceMul, Int.reduceNeg, Nat.reduceAdd, Nat.reduceMul, Nat.reduceSub, iI_lit, jI_lit, iI_add, iI_sub, iI_mul, iI_neg, jI_add, jI_sub, jI_mul, jI_neg, nI_i, lN_j, iI_le, iI_lt, iI_eq, jI_le, jI_lt, jI_eq, iI_in, iI_cl, iI_j, jI_i, cN, inN, wI_eq, wI_ne, wJ_1, wJ_eq, wJ_ne, wI_2, wJ_3, iI_div, iI_rem, jI_div, jI_rem, true_or, or_true, false_or, or_false, eq_self, Nat.add_zero, hz]
  refine c_isSlot i1 i2 (by omega) ?_
  simp (disch := omega) only [forall_eq, true_and, and_true, false_and, and_false, forall_const, true_implies, implies_true, not_true_eq_false, not_false_eq_true, false_implies, if_true, if_false, ↓reduceIte, Int.toNat_natCast, Int.reduceEq, Int.reduceNe, Int.reduceLT, Int.reduceLE, Int.reduceToNat, Int.reduceAdd, Int.reduceSub, Int.reduceMul, Int.reduceNeg, Nat.reduceAdd, Nat.reduceMul, Nat.reduceSub, iI_lit, jI_lit, iI_add, iI_sub, iI_mul, iI_neg, jI_add, jI_sub, jI_mul, jI_neg, nI_i, lN_j, iI_le, iI_lt, iI_eq, jI_le, jI_lt, jI_eq, iI_in, iI_cl, iI_j, jI_i, cN, inN, wI_eq, wI_ne, wJ_1, wJ_eq, wJ_ne, wI_2, wJ_3, iI_div, iI_rem, jI_div, jI_rem, true_or, or_true, false_or, or_false, eq_self, Nat.add_zero, hi]
  refine c_isChoice s1 s2 (by omega) ?_
  simp (disch := omega) only [forall_eq, true_and, and_true, false_and, and_false, forall_const, true_implies, implies_true, not_true_eq_false, not_false_eq_true, false_implies, if_true, if_false, ↓reduceIte, Int.toNat_natCast, Int.reduceEq, Int.reduceNe, Int.reduceLT, Int.reduceLE, Int.reduceToNat, Int.reduceAdd, Int.reduceSub, Int.reduceMul, Int.reduceNeg, Nat.reduceAdd, Nat.reduceMul, Nat.reduceSub, iI_lit, jI_lit, iI_add, iI_sub, iI_mul, iI_neg, jI_add, jI_sub, jI_mul, jI_neg, nI_i, lN_j, iI_le, iI_lt, iI_eq, jI_le, jI_lt, jI_eq, iI_in, iI_cl, iI_j, jI_i, cN, inN, wI_eq, wI_ne, wJ_1, wJ_eq, wJ_ne, wI_2, wJ_3, iI_div, iI_rem, jI_div, jI_rem, true_or, or_true, false_or, or_false, eq_self, Nat.add_zero, hs]
  refine ⟨by omega, kc m j 5 _ (by omega) hj hg.1 (fun m1 f1 hC => ?_)⟩
  have s1' : frw scC m m1 := f1.w.mono (fun a k h => dCP_sc h)
  have hh1 : hl m1 j t n := hh.fr f1 (by unfold dCP; omega) (fun k => by unfold dCP; omega)
  refine c_hasComponent hly (by omega) hF hC a1 a2 ?_
  by_cases hx : 0 ≤ x ∧ x < (K : Int)
  · rw [if_pos hx]
    obtain ⟨k, rfl⟩ : ∃ k : Nat, x = (k : Int) := ⟨x.toNat, by omega⟩
    have hk : k < K := by omega
    have hmo := hF.2.2.2.2.2.1 k (k + 1) (by omega) (by omega)
    have hmo2 := hF.2.2.2.2.2.1 (k + 1) K (by omega) (by omega)
    have hend := hF.2.2.2.2.2.2.2.1
    have v0 := hC.2.2.2.2.1 k (by omega)
    have v1 := hC.2.2.2.2.1 (k + 1) (by omega)
    obtain ⟨N, hN⟩ : ∃ N, st k + N = st (k + 1) := ⟨st (k + 1) - st k, by omega⟩
    have e1 : ((k : Int) + 1).toNat = k + 1 := by omega
    have eN : (st (k + 1) : Int) - (st k : Int) = (N : Int) := by omega
    simp (disch := omega) only [forall_eq, true_and, and_true, false_and, and_false, forall_const, true_implies, implies_true, not_true_eq_false, not_false_eq_true, false_implies, if_true, if_false, ↓reduceIte, Int.toNat_natCast, Int.reduceEq, Int.reduceNe, Int.reduceLT, Int.reduceLE, Int.reduceToNat, Int.reduceAdd, Int.reduceSub, Int.reduceMul, Int.reduceNeg, Nat.reduceAdd, Nat.reduceMul, Nat.reduceSub, iI_lit, jI_lit, iI_add, iI_sub, iI_mul, iI_neg, jI_add, jI_sub, jI_mul, jI_neg, nI_i, lN_j, iI_le, iI_lt, iI_eq, jI_le, jI_lt, jI_eq, iI_in, iI_cl, iI_j, jI_i, cN, inN, wI_eq, wI_ne, wJ_1, wJ_eq, wJ_ne, wI_2, wJ_3, iI_div, iI_rem, jI_div, jI_rem, true_or, or_true, false_or, or_false, eq_self, Nat.add_zero]
    refine ⟨by omega, vX2_passesOf_0 hly (by omega) ?_⟩
    simp (disch := omega) only [forall_eq, true_and, and_true, false_and, and_false, forall_const, true_implies, implies_true, not_true_eq_false, not_false_eq_true, false_implies, if_true, if_false, ↓reduceIte, Int.toNat_natCast, Int.reduceEq, Int.reduceNe, Int.reduceLT, Int.reduceLE, Int.reduceToNat, Int.reduceAdd, Int.reduceSub, Int.reduceMul, Int.reduceNeg, Nat.reduceAdd, Nat.reduceMul, Nat.reduceSub, iI_lit, jI_lit, iI_add, iI_sub, iI_mul, iI_neg, jI_add, jI_sub, jI_mul, jI_neg, nI_i, lN_j, iI_le, iI_lt, iI_eq, jI_le, jI_lt, jI_eq, iI_in, iI_cl, iI_j, jI_i, cN, inN, wI_eq, wI_ne, wJ_1, wJ_eq, wJ_ne, wI_2, wJ_3, iI_div, iI_rem, jI_div, jI_rem, true_or, or_true, false_or, or_false, eq_self, Nat.add_zero, e1, v0, v1, eN]
    refine ⟨by omega, by omega, c_reset (b := 8) (n := N) (ly_sheetT hly hs4) (by omega) (by omega) (fun m3 f3 q1 q2 q3 => ?_)⟩
    have hC3 : rC m3 (crs t n) K Z W po st ps ho ea := by
      obtain ⟨p1, p2, p3, p4, p5, p6, p7, p8⟩ := hC
      exact ⟨(f3.i (by unfold rsP; omega)).trans p1, (f3.i (by unfold rsP; omega)).trans p2, (f3.i (by unfold rsP; omega)).trans p3, fun b hb => (f3.i (by unfold rsP; omega)).trans (p4 b hb), fun b hb => (f3.i (by unfold rsP; omega)).trans (p5 b hb), fun b hb => (f3.i (by unfold rsP; omega)).trans (p6 b hb), fun b hb => (f3.i (by unfold rsP; omega)).trans (p7 b hb), fun b hb => (f3.i (by unfold rsP; omega)).trans (p8 b hb)⟩
    rw [show 101 + 2 * s + 1 = 102 + 2 * s by omega] at q3
    refine c_gauss_loop (s := s) (k := k) (n := N) hly hd1 hF hk hs4 hN m3 hC3 (fun m4 f4 q4 => ?_) q1 q2 N 0 m3 (by omega) fr.rf (fun y hy => by rw [if_neg (by omega)]; exact q3 y hy)
    have f34 : fr (fun a q => a = 101 + 2 * s ∨ a = 102 + 2 * s) m1 m4 := (f3.mono (fun a q h => by unfold rsP at h; omega)).tr (f4.mono (fun a q h => Or.inr h))
    have hh4 : hl m4 j t n := hh1.fr f34 (by omega) (fun k => by omega)
    refine model m4 _ hh4 (fun h => absurd hx h) (fun k' N' e hk' hN' m5 f5 r1 r2 r3 => ?_)
    have ek : k' = k := by omega
    subst ek
    have eN2 : N' = N := by omega
    subst eN2
    refine ⟨rfl, hI.sheet hs4 (((s1'.mono (fun a q h => Or.inl h)).tr (f34.w.mono (fun a q h => ?_))).tr (f5.w.mono (fun a q h => ?_))) ⟨8, N', Or.inr (Or.inl rfl), by omega, ?_, r1, ?_, r2, fun y hy => ?_⟩⟩
    · rcases h with h | h
      · exact Or.inr (Or.inr (Or.inl h))
      · exact Or.inr (Or.inr (Or.inr (Or.inl h)))
    · rcases h with h | h
      · exact Or.inr (Or.inl h)
      · unfold lyP at h
        exact Or.inr (Or.inr (Or.inr (Or.inr h)))
    · rw [f5.i (by unfold scM lyP; omega), f4.i (by omega)]; exact q1
    · rw [f5.i (by unfold scM lyP; omega), f4.i (by omega)]; exact q2
    · rw [f5.j (by unfold scM lyP; omega), q4 y hy, r3 y hy]
  · rw [if_neg hx]
    simp (disch := omega) only [forall_eq, true_and, and_true, false_and, and_false, forall_const, true_implies, implies_true, not_true_eq_false, not_false_eq_true, false_implies, if_true, if_false, ↓reduceIte, Int.toNat_natCast, Int.reduceEq, Int.reduceNe, Int.reduceLT, Int.reduceLE, Int.reduceToNat, Int.reduceAdd, Int.reduceSub, Int.reduceMul, Int.reduceNeg, Nat.reduceAdd, Nat.reduceMul, Nat.reduceSub, iI_lit, jI_lit, iI_add, iI_sub, iI_mul, iI_neg, jI_add, jI_sub, jI_mul, jI_neg, nI_i, lN_j, iI_le, iI_lt, iI_eq, jI_le, jI_lt, jI_eq, iI_in, iI_cl, iI_j, jI_i, cN, inN, wI_eq, wI_ne, wJ_1, wJ_eq, wJ_ne, wI_2, wJ_3, iI_div, iI_rem, jI_div, jI_rem, true_or, or_true, false_or, or_false, eq_self, Nat.add_zero]
    exact c_error (e := 2) hly (by decide) (by omega) (model _ _ (hh1.fr (fr.rf.wI (P := fun a k => a = 76) rfl) (by omega) (fun k => by omega)) (fun _ m2 f2 => ⟨rfl, hI.er s1' f2⟩) (fun k N e hk _ => absurd (by omega) hx))
end K17
