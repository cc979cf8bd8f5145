/-! the genus of a name: the reference's loop -/
section GEN
variable {E : sm_E} {L : sm_S → Prop} {d : Nat} {m : sm_M}
theorem c12_genus_loop {Q : Int32 → sm_M → Prop} {vs : List Value} {u v : Int} {K : Nat} (hd : 3 ≤ d) (hu : (u.natAbs : Int) ≤ 1000000000) (hv : 0 ≤ v) (hv2 : v ≤ 1000000000) (hK : K ≤ 1000000) (hz : (rst 2 u v K).2 = 0) (hn : ∀ j, j < K → (rst 2 u v j).2 ≠ 0) (h : Q (iI ((K / 2 : Nat) : Int)) m) : ∀ (r k : Nat), k + r = K → gX12_genusOf_67 E L d vs (jI (rst 2 u v k).1) (jI (rst 2 u v k).2) (iI (k : Nat)) m Q := by
  intro r
  induction r with
  | zero =>
    intro k hk
    have : k = K := by omega
    subst this
    refine vX12_genusOf_67 hd ?_
    rw [hz]
    refine ⟨fun _ => ?_, fun z => absurd rfl z⟩
    rw [iI_lit, iI_div (by omega) (by omega) (by omega) (by omega), Int.tdiv_eq_ediv_of_nonneg (by omega)]
    exact h
  | succ r ih =>
    intro k hk
    have nx := ih (k + 1) (by omega)
    have hb := rst_bd (how := 2) hu hv hv2 k (fun j hj => hn j (by omega))
    have hk0 := hn k (by omega)
    have e5 : ((k : Nat) : Int) + 1 = ((k + 1 : Nat) : Int) := by omega
    have hr := rRs_bd (how := 2) (u := (rst 2 u v k).1) (v := (rst 2 u v k).2) (by omega)
    have hre : rRs 2 (rst 2 u v k).1 (rst 2 u v k).2 = (rst 2 u v k).1 - 2 * (((rst 2 u v k).1 + (rst 2 u v k).2) / (2 * (rst 2 u v k).2)) * (rst 2 u v k).2 := rfl
    rw [rst] at nx
    generalize hrr : rRs 2 (rst 2 u v k).1 (rst 2 u v k).2 = R at *
    generalize (rst 2 u v k).1 = x at *
    generalize (rst 2 u v k).2 = y at *
    have nx' : gX12_genusOf_67 E L d vs (jI (if R < 0 then -y else y)) (jI (R.natAbs : Int)) (iI ((k + 1 : Nat) : Int)) m Q := nx
    refine vX12_genusOf_67 hd ⟨fun z => ?_, fun _ => c12_evenBy (by omega) (by omega) (by omega) (by omega) ?_⟩
    · simp (disch := omega) only [forall_eq, true_and, and_true, false_and, and_false, forall_const, true_implies, implies_true, not_true_eq_false, not_false_eq_true, false_implies, if_true, if_false, ↓reduceIte, Int.toNat_natCast, Int.reduceEq, Int.reduceNe, Int.reduceLT, Int.reduceLE, Int.reduceToNat, Int.reduceAdd, Int.reduceSub, Int.reduceMul, Int.reduceNeg, Nat.reduceAdd, Nat.reduceMul, Nat.reduceSub, iI_lit, jI_lit, iI_add, iI_sub, iI_mul, iI_neg, jI_add, jI_sub, jI_mul, jI_neg, nI_i, lN_j, iI_le, iI_lt, iI_eq, jI_le, jI_lt, jI_eq, iI_in, iI_cl, iI_j, jI_i, cN, inN, wI_eq, wI_ne, wJ_1, wJ_eq, wJ_ne, wI_2, wJ_3, iI_div, iI_rem, jI_div, jI_rem, true_or, or_true, false_or, or_false, eq_self, Nat.add_zero] at z
      exact absurd z hk0
    intro x13 e13
    rw [jI_mul, jI_sub, ← hre] at e13
    subst e13
    by_cases hR : R < 0
    · rw [if_pos hR, show (R.natAbs : Int) = -R by omega] at nx'
      refine ⟨fun z => ?_, fun _ => ?_⟩
      · simp (disch := omega) only [forall_eq, true_and, and_true, false_and, and_false, forall_const, true_implies, implies_true, not_true_eq_false, not_false_eq_true, false_implies, if_true, if_false, ↓reduceIte, Int.toNat_natCast, Int.reduceEq, Int.reduceNe, Int.reduceLT, Int.reduceLE, Int.reduceToNat, Int.reduceAdd, Int.reduceSub, Int.reduceMul, Int.reduceNeg, Nat.reduceAdd, Nat.reduceMul, Nat.reduceSub, iI_lit, jI_lit, iI_add, iI_sub, iI_mul, iI_neg, jI_add, jI_sub, jI_mul, jI_neg, nI_i, lN_j, iI_le, iI_lt, iI_eq, jI_le, jI_lt, jI_eq, iI_in, iI_cl, iI_j, jI_i, cN, inN, wI_eq, wI_ne, wJ_1, wJ_eq, wJ_ne, wI_2, wJ_3, iI_div, iI_rem, jI_div, jI_rem, true_or, or_true, false_or, or_false, eq_self, Nat.add_zero] at z
        omega
      rw [jI_neg]
      refine vX12_genusOf_108 hd ⟨fun z => ?_, fun _ => ?_⟩
      · simp (disch := omega) only [forall_eq, true_and, and_true, false_and, and_false, forall_const, true_implies, implies_true, not_true_eq_false, not_false_eq_true, false_implies, if_true, if_false, ↓reduceIte, Int.toNat_natCast, Int.reduceEq, Int.reduceNe, Int.reduceLT, Int.reduceLE, Int.reduceToNat, Int.reduceAdd, Int.reduceSub, Int.reduceMul, Int.reduceNeg, Nat.reduceAdd, Nat.reduceMul, Nat.reduceSub, iI_lit, jI_lit, iI_add, iI_sub, iI_mul, iI_neg, jI_add, jI_sub, jI_mul, jI_neg, nI_i, lN_j, iI_le, iI_lt, iI_eq, jI_le, jI_lt, jI_eq, iI_in, iI_cl, iI_j, jI_i, cN, inN, wI_eq, wI_ne, wJ_1, wJ_eq, wJ_ne, wI_2, wJ_3, iI_div, iI_rem, jI_div, jI_rem, true_or, or_true, false_or, or_false, eq_self, Nat.add_zero] at z
        omega
      intro x8 e8 x10 e10
      rw [jI_neg] at e8
      rw [iI_lit, iI_add, e5] at e10
      subst e8 e10
      exact nx'
    · rw [if_neg hR, show (R.natAbs : Int) = R by omega] at nx'
      refine ⟨fun _ => vX12_genusOf_108 hd ⟨fun _ => ?_, fun z => ?_⟩, fun z => ?_⟩
      · intro x10 e10
        rw [iI_lit, iI_add, e5] at e10
        subst e10
        exact nx'
      · simp (disch := omega) only [forall_eq, true_and, and_true, false_and, and_false, forall_const, true_implies, implies_true, not_true_eq_false, not_false_eq_true, false_implies, if_true, if_false, ↓reduceIte, Int.toNat_natCast, Int.reduceEq, Int.reduceNe, Int.reduceLT, Int.reduceLE, Int.reduceToNat, Int.reduceAdd, Int.reduceSub, Int.reduceMul, Int.reduceNeg, Nat.reduceAdd, Nat.reduceMul, Nat.reduceSub, iI_lit, jI_lit, iI_add, iI_sub, iI_mul, iI_neg, jI_add, jI_sub, jI_mul, jI_neg, nI_i, lN_j, iI_le, iI_lt, iI_eq, jI_le, jI_lt, jI_eq, iI_in, iI_cl, iI_j, jI_i, cN, inN, wI_eq, wI_ne, wJ_1, wJ_eq, wJ_ne, wI_2, wJ_3, iI_div, iI_rem, jI_div, jI_rem, true_or, or_true, false_or, or_false, eq_self, Nat.add_zero] at z
        omega
      · simp (disch := omega) only [forall_eq, true_and, and_true, false_and, and_false, forall_const, true_implies, implies_true, not_true_eq_false, not_false_eq_true, false_implies, if_true, if_false, ↓reduceIte, Int.toNat_natCast, Int.reduceEq, Int.reduceNe, Int.reduceLT, Int.reduceLE, Int.reduceToNat, Int.reduceAdd, Int.reduceSub, Int.reduceMul, Int.reduceNeg, Nat.reduceAdd, Nat.reduceMul, Nat.reduceSub, iI_lit, jI_lit, iI_add, iI_sub, iI_mul, iI_neg, jI_add, jI_sub, jI_mul, jI_neg, nI_i, lN_j, iI_le, iI_lt, iI_eq, jI_le, jI_lt, jI_eq, iI_in, iI_cl, iI_j, jI_i, cN, inN, wI_eq, wI_ne, wJ_1, wJ_eq, wJ_ne, wI_2, wJ_3, iI_div, iI_rem, jI_div, jI_rem, true_or, or_true, false_or, or_false, eq_self, Nat.add_zero] at z
        omega
end GEN
