/-! the genus on both sides -/
abbrev bodd (P R : Int) : Prop := P % 2 = 1 ∧ R % 2 = 1
noncomputable def evn (x y : Int) : Nat := Classical.epsilon (fun K => (rst 2 x y K).2 = 0 ∧ ∀ j, j < K → (rst 2 x y j).2 ≠ 0)
noncomputable def gn (P R : Int) : Nat := if P < 2 then 0 else evn (if bodd P R then -P else P) (if bodd P R then P - R else R) / 2
theorem evn_is {P R : Int} (h : nmT P R) (hs : szN P R ≤ 24) : evn (if bodd P R then -P else P) (if bodd P R then P - R else R) ≤ 24 ∧ (rst 2 (if bodd P R then -P else P) (if bodd P R then P - R else R) (evn (if bodd P R then -P else P) (if bodd P R then P - R else R))).2 = 0 ∧ ∀ j, j < evn (if bodd P R then -P else P) (if bodd P R then P - R else R) → (rst 2 (if bodd P R then -P else P) (if bodd P R then P - R else R) j).2 ≠ 0 := by
  have hb := h.bd
  have e3 : szN P R = eS P.toNat R.toNat := if_neg (by have := h.1; omega)
  have hg : Int.gcd P R = 1 := cop_gcd h.2.2.cop
  have hex : ∃ K, K ≤ 24 ∧ (rst 2 (if bodd P R then -P else P) (if bodd P R then P - R else R) K).2 = 0 ∧ ∀ j, j < K → (rst 2 (if bodd P R then -P else P) (if bodd P R then P - R else R) j).2 ≠ 0 := by
    by_cases ho : bodd P R
    · rw [if_pos ho, if_pos ho]
      unfold bodd at ho
      obtain ⟨K, k1, k2, k3⟩ := even_ex (P - R).toNat (-P) (by omega) (by
        have : Int.gcd (-P) (P - R) = 1 := by
          rw [Int.neg_gcd, show P - R = -R + P * 1 by omega, Int.gcd_add_mul_left_right, Int.gcd_neg]
          exact hg
        rw [show (P - R).toNat = (P - R).natAbs by omega]
        exact this) (by omega)
      rw [show (((P - R).toNat : Nat) : Int) = P - R by omega] at k2 k3
      refine ⟨K, ?_, k2, k3⟩
      rw [show (-P).natAbs = P.toNat by omega, show (P - R).toNat = P.toNat - R.toNat by omega, eS_co (by omega) (by omega)] at k1
      omega
    · rw [if_neg ho, if_neg ho]
      unfold bodd at ho
      obtain ⟨K, k1, k2, k3⟩ := even_ex R.toNat P (by omega) (by
        rw [show R.toNat = R.natAbs by omega]
        exact hg) (by omega)
      rw [show ((R.toNat : Nat) : Int) = R by omega] at k2 k3
      refine ⟨K, ?_, k2, k3⟩
      rw [show P.natAbs = P.toNat by omega] at k1
      omega
  generalize (if bodd P R then -P else P) = x at *
  generalize (if bodd P R then P - R else R) = y at *
  obtain ⟨K, k1, k2, k3⟩ := hex
  have sp : (rst 2 x y (evn x y)).2 = 0 ∧ ∀ j, j < evn x y → (rst 2 x y j).2 ≠ 0 := Classical.epsilon_spec (p := fun K => (rst 2 x y K).2 = 0 ∧ ∀ j, j < K → (rst 2 x y j).2 ≠ 0) ⟨K, k2, k3⟩
  have e := rst_uniq sp.1 sp.2 k2 k3
  exact ⟨by omega, sp.1, sp.2⟩
section GNS
variable {E : sm_E} {L : sm_S → Prop} {d : Nat} {m : sm_M}
theorem c_genus {Q : Int32 → sm_M → Prop} {P R : Int} (hly : ∀ S, L S → ly S) (hd : 4 ≤ d) (hn : isNm P R) (hP : P ≤ 16777216) (hs : szN P R ≤ 24) (h : ∀ m', fr (rsP 74) m m' → Q (iI (gn P R : Nat)) m') : sm_callI E L mX11_genusOf d 0 0 [.ref (sm_B E + 0), .long (pk P R)] m Q := by
  have hb := hn.bd
  refine vX11_genusOf_0 hd (c_topOf (by omega) (by omega) (by omega) (c_bottomOf (by omega) ⟨fun z => ?_, fun z => ?_⟩))
  rotate_left
  · simp (disch := omega) only [forall_eq, true_and, and_true, false_and, and_false, forall_const, true_implies, implies_true, not_true_eq_false, not_false_eq_true, false_implies, if_true, if_false, ↓reduceIte, Int.toNat_natCast, Int.reduceEq, Int.reduceNe, Int.reduceLT, Int.reduceLE, Int.reduceToNat, Int.reduceAdd, Int.reduceSub, Int.reduceMul, Int.reduceNeg, Nat.reduceAdd, Nat.reduceMul, Nat.reduceSub, iI_lit, jI_lit, iI_add, iI_sub, iI_mul, iI_neg, jI_add, jI_sub, jI_mul, jI_neg, nI_i, lN_j, iI_le, iI_lt, iI_eq, jI_le, jI_lt, jI_eq, iI_in, iI_cl, iI_j, jI_i, cN, inN, wI_eq, wI_ne, wJ_1, wJ_eq, wJ_ne, wI_2, wJ_3, iI_div, iI_rem, jI_div, jI_rem, true_or, or_true, false_or, or_false, eq_self, Nat.add_zero] at z
    have e : gn P R = 0 := if_pos (by omega)
    have h9 := h m fr.rf
    rw [e] at h9
    exact h9
  simp (disch := omega) only [forall_eq, true_and, and_true, false_and, and_false, forall_const, true_implies, implies_true, not_true_eq_false, not_false_eq_true, false_implies, if_true, if_false, ↓reduceIte, Int.toNat_natCast, Int.reduceEq, Int.reduceNe, Int.reduceLT, Int.reduceLE, Int.reduceToNat, Int.reduceAdd, Int.reduceSub, Int.reduceMul, Int.reduceNeg, Nat.reduceAdd, Nat.reduceMul, Nat.reduceSub, iI_lit, jI_lit, iI_add, iI_sub, iI_mul, iI_neg, jI_add, jI_sub, jI_mul, jI_neg, nI_i, lN_j, iI_le, iI_lt, iI_eq, jI_le, jI_lt, jI_eq, iI_in, iI_cl, iI_j, jI_i, cN, inN, wI_eq, wI_ne, wJ_1, wJ_eq, wJ_ne, wI_2, wJ_3, iI_div, iI_rem, jI_div, jI_rem, true_or, or_true, false_or, or_false, eq_self, Nat.add_zero] at z
  have hT : nmT P R := ⟨by omega, hP, hn⟩
  have hbT := hT.bd
  obtain ⟨k1, k2, k3⟩ := evn_is hT hs
  have e : gn P R = evn (if bodd P R then -P else P) (if bodd P R then P - R else R) / 2 := if_neg (by omega)
  have fin : ∀ (x y : Int) (N : Nat) (m' : sm_M), x = (if bodd P R then -P else P) → y = (if bodd P R then P - R else R) → N ≤ 48 → (∀ j, j < N → (rst 2 x y j).2 ≠ 0) → (N = 48 ∨ (rst 2 x y N).2 = 0) → fr (rsP 74) m m' → m'.1 74 2 = iI (N : Nat) → Q ((m'.1 74 2) / 2) m' := by
    intro x y N m' hx hy h48 hnz hz f' hv
    rw [← hx, ← hy] at k1 k2 k3 e
    have hN : N = evn x y := by
      rcases hz with hz | hz
      · exact absurd k2 (hnz _ (by omega))
      · exact rst_uniq hz hnz k2 k3
    have h9 := h m' f'
    rw [e, ← hN] at h9
    have ed : ((N : Int).tdiv 2) = ((N / 2 : Nat) : Int) := by rw [Int.tdiv_eq_ediv_of_nonneg (by omega)]; rfl
    rw [hv]
    simp (disch := omega) only [forall_eq, true_and, and_true, false_and, and_false, forall_const, true_implies, implies_true, not_true_eq_false, not_false_eq_true, false_implies, if_true, if_false, ↓reduceIte, Int.toNat_natCast, Int.reduceEq, Int.reduceNe, Int.reduceLT, Int.reduceLE, Int.reduceToNat, Int.reduceAdd, Int.reduceSub, Int.reduceMul, Int.reduceNeg, Nat.reduceAdd, Nat.reduceMul, Nat.reduceSub, iI_lit, jI_lit, iI_add, iI_sub, iI_mul, iI_neg, jI_add, jI_sub, jI_mul, jI_neg, nI_i, lN_j, iI_le, iI_lt, iI_eq, jI_le, jI_lt, jI_eq, iI_in, iI_cl, iI_j, jI_i, cN, inN, wI_eq, wI_ne, wJ_1, wJ_eq, wJ_ne, wI_2, wJ_3, iI_div, iI_rem, jI_div, jI_rem, true_or, or_true, false_or, or_false, eq_self, Nat.add_zero, ed]
    exact h9
  have go : ∀ s0 : Int, (s0 = if bodd P R then 1 else 0) → gX11_genusOf_33 E L d [.ref (sm_B E + 0), .long (pk P R)] (iI P) (iI R) (iI s0) m Q := by
    intro s0 hs0
    refine vX11_genusOf_33 hly hd ?_
    by_cases ho : bodd P R
    · rw [if_pos ho] at hs0
      subst hs0
      simp (disch := omega) only [forall_eq, true_and, and_true, false_and, and_false, forall_const, true_implies, implies_true, not_true_eq_false, not_false_eq_true, false_implies, if_true, if_false, ↓reduceIte, Int.toNat_natCast, Int.reduceEq, Int.reduceNe, Int.reduceLT, Int.reduceLE, Int.reduceToNat, Int.reduceAdd, Int.reduceSub, Int.reduceMul, Int.reduceNeg, Nat.reduceAdd, Nat.reduceMul, Nat.reduceSub, iI_lit, jI_lit, iI_add, iI_sub, iI_mul, iI_neg, jI_add, jI_sub, jI_mul, jI_neg, nI_i, lN_j, iI_le, iI_lt, iI_eq, jI_le, jI_lt, jI_eq, iI_in, iI_cl, iI_j, jI_i, cN, inN, wI_eq, wI_ne, wJ_1, wJ_eq, wJ_ne, wI_2, wJ_3, iI_div, iI_rem, jI_div, jI_rem, true_or, or_true, false_or, or_false, eq_self, Nat.add_zero]
      refine c_expand (she74 hly) (by omega) (by omega) (by omega) (by omega) (by omega) (by omega) (fun N m' h48 hnz hz f' hr => ?_)
      exact fin (-P) (P - R) N m' (by rw [if_pos ho]) (by rw [if_pos ho]) h48 hnz hz f' hr.1
    · rw [if_neg ho] at hs0
      subst hs0
      simp (disch := omega) only [forall_eq, true_and, and_true, false_and, and_false, forall_const, true_implies, implies_true, not_true_eq_false, not_false_eq_true, false_implies, if_true, if_false, ↓reduceIte, Int.toNat_natCast, Int.reduceEq, Int.reduceNe, Int.reduceLT, Int.reduceLE, Int.reduceToNat, Int.reduceAdd, Int.reduceSub, Int.reduceMul, Int.reduceNeg, Nat.reduceAdd, Nat.reduceMul, Nat.reduceSub, iI_lit, jI_lit, iI_add, iI_sub, iI_mul, iI_neg, jI_add, jI_sub, jI_mul, jI_neg, nI_i, lN_j, iI_le, iI_lt, iI_eq, jI_le, jI_lt, jI_eq, iI_in, iI_cl, iI_j, jI_i, cN, inN, wI_eq, wI_ne, wJ_1, wJ_eq, wJ_ne, wI_2, wJ_3, iI_div, iI_rem, jI_div, jI_rem, true_or, or_true, false_or, or_false, eq_self, Nat.add_zero]
      refine c_expand (she74 hly) (by omega) (by omega) (by omega) (by omega) (by omega) (by omega) (fun N m' h48 hnz hz f' hr => ?_)
      exact fin P R N m' (by rw [if_neg ho]) (by rw [if_neg ho]) h48 hnz hz f' hr.1
  exact ⟨fun q => go 0 (by rw [if_neg (fun q2 => q ((odd_and P R).mpr q2))]), fun q => go 1 (by rw [if_pos (show bodd P R from (odd_and P R).mp q)])⟩
theorem c12_genus {Q : Int32 → sm_M → Prop} {P R : Int} (hd : 3 ≤ d) (hn : isNm P R) (hP : P ≤ 16777216) (hs : szN P R ≤ 24) (h : Q (iI (gn P R : Nat)) m) : sm_callI E L mX12_genusOf d 0 0 [.ref (sm_B E + 109), .long (jI P), .long (jI R)] m Q := by
  have hb := hn.bd
  by_cases h2 : 2 ≤ P
  rotate_left
  · refine vX12_genusOf_0 hd ?_
    have e : gn P R = 0 := if_pos (by omega)
    rw [e] at h
    simp (disch := omega) only [forall_eq, true_and, and_true, false_and, and_false, forall_const, true_implies, implies_true, not_true_eq_false, not_false_eq_true, false_implies, if_true, if_false, ↓reduceIte, Int.toNat_natCast, Int.reduceEq, Int.reduceNe, Int.reduceLT, Int.reduceLE, Int.reduceToNat, Int.reduceAdd, Int.reduceSub, Int.reduceMul, Int.reduceNeg, Nat.reduceAdd, Nat.reduceMul, Nat.reduceSub, iI_lit, jI_lit, iI_add, iI_sub, iI_mul, iI_neg, jI_add, jI_sub, jI_mul, jI_neg, nI_i, lN_j, iI_le, iI_lt, iI_eq, jI_le, jI_lt, jI_eq, iI_in, iI_cl, iI_j, jI_i, cN, inN, wI_eq, wI_ne, wJ_1, wJ_eq, wJ_ne, wI_2, wJ_3, iI_div, iI_rem, jI_div, jI_rem, true_or, or_true, false_or, or_false, eq_self, Nat.add_zero, h2]
    exact h
  have hT : nmT P R := ⟨by omega, hP, hn⟩
  have hbT := hT.bd
  obtain ⟨k1, k2, k3⟩ := evn_is hT hs
  have e : gn P R = evn (if bodd P R then -P else P) (if bodd P R then P - R else R) / 2 := if_neg (by omega)
  rw [e] at h
  have eP : P.tmod 2 = P % 2 := Int.tmod_eq_emod_of_nonneg (by omega)
  have eR : R.tmod 2 = R % 2 := Int.tmod_eq_emod_of_nonneg (by omega)
  have no : ¬ bodd P R → gX12_genusOf_48 E L d [.ref (sm_B E + 109), .long (jI P), .long (jI R)] (jI P) (jI R) (iI 0) (jI P) m Q := by
    intro ho
    rw [if_neg ho, if_neg ho] at h k1 k2 k3
    refine vX12_genusOf_48 hd ?_
    simp (disch := omega) only [forall_eq, true_and, and_true, false_and, and_false, forall_const, true_implies, implies_true, not_true_eq_false, not_false_eq_true, false_implies, if_true, if_false, ↓reduceIte, Int.toNat_natCast, Int.reduceEq, Int.reduceNe, Int.reduceLT, Int.reduceLE, Int.reduceToNat, Int.reduceAdd, Int.reduceSub, Int.reduceMul, Int.reduceNeg, Nat.reduceAdd, Nat.reduceMul, Nat.reduceSub, iI_lit, jI_lit, iI_add, iI_sub, iI_mul, iI_neg, jI_add, jI_sub, jI_mul, jI_neg, nI_i, lN_j, iI_le, iI_lt, iI_eq, jI_le, jI_lt, jI_eq, iI_in, iI_cl, iI_j, jI_i, cN, inN, wI_eq, wI_ne, wJ_1, wJ_eq, wJ_ne, wI_2, wJ_3, iI_div, iI_rem, jI_div, jI_rem, true_or, or_true, false_or, or_false, eq_self, Nat.add_zero]
    exact c12_genus_loop hd (by omega) (by omega) (by omega) (by omega) k2 k3 h (evn P R) 0 (by omega)
  have yes : bodd P R → gX12_genusOf_48 E L d [.ref (sm_B E + 109), .long (jI P), .long (jI R)] (jI P) (jI R) (iI 1) (jI (-P)) m Q := by
    intro ho
    rw [if_pos ho, if_pos ho] at h k1 k2 k3
    refine vX12_genusOf_48 hd ?_
    simp (disch := omega) only [forall_eq, true_and, and_true, false_and, and_false, forall_const, true_implies, implies_true, not_true_eq_false, not_false_eq_true, false_implies, if_true, if_false, ↓reduceIte, Int.toNat_natCast, Int.reduceEq, Int.reduceNe, Int.reduceLT, Int.reduceLE, Int.reduceToNat, Int.reduceAdd, Int.reduceSub, Int.reduceMul, Int.reduceNeg, Nat.reduceAdd, Nat.reduceMul, Nat.reduceSub, iI_lit, jI_lit, iI_add, iI_sub, iI_mul, iI_neg, jI_add, jI_sub, jI_mul, jI_neg, nI_i, lN_j, iI_le, iI_lt, iI_eq, jI_le, jI_lt, jI_eq, iI_in, iI_cl, iI_j, jI_i, cN, inN, wI_eq, wI_ne, wJ_1, wJ_eq, wJ_ne, wI_2, wJ_3, iI_div, iI_rem, jI_div, jI_rem, true_or, or_true, false_or, or_false, eq_self, Nat.add_zero]
    exact c12_genus_loop (u := -P) (v := P - R) hd (by omega) (by omega) (by omega) (by omega) k2 k3 h (evn (-P) (P - R)) 0 (by omega)
  refine vX12_genusOf_0 hd ?_
  simp (disch := omega) only [forall_eq, true_and, and_true, false_and, and_false, forall_const, true_implies, implies_true, not_true_eq_false, not_false_eq_true, false_implies, if_true, if_false, ↓reduceIte, Int.toNat_natCast, Int.reduceEq, Int.reduceNe, Int.reduceLT, Int.reduceLE, Int.reduceToNat, Int.reduceAdd, Int.reduceSub, Int.reduceMul, Int.reduceNeg, Nat.reduceAdd, Nat.reduceMul, Nat.reduceSub, iI_lit, jI_lit, iI_add, iI_sub, iI_mul, iI_neg, jI_add, jI_sub, jI_mul, jI_neg, nI_i, lN_j, iI_le, iI_lt, iI_eq, jI_le, jI_lt, jI_eq, iI_in, iI_cl, iI_j, jI_i, cN, inN, wI_eq, wI_ne, wJ_1, wJ_eq, wJ_ne, wI_2, wJ_3, iI_div, iI_rem, jI_div, jI_rem, true_or, or_true, false_or, or_false, eq_self, Nat.add_zero, h2, eP, eR]
  exact ⟨fun q => no (by unfold bodd; omega), fun q => ⟨fun q2 => no (by unfold bodd; omega), fun q2 => yes (by unfold bodd; omega)⟩⟩
end GNS
