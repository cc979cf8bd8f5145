/-! the size of a name: both sides -/
def sm0 (a : Nat → Int) : Nat → Int
  | 0 => 0
  | k + 1 => sm0 a k + a k
theorem sm0_cg {a b : Nat → Int} : ∀ k, (∀ j, j < k → a j = b j) → sm0 a k = sm0 b k
  | 0, _ => rfl
  | k + 1, h => by
    rw [sm0, sm0, sm0_cg k (fun j hj => h j (by omega)), h k (by omega)]
theorem sm0_szS {u v : Int} : ∀ k, sm0 (fun k => rTm 3 (rst 3 u v k).1 (rst 3 u v k).2) k = szS u v k
  | 0 => rfl
  | k + 1 => by
    rw [sm0, szS, sm0_szS k]
    rfl
theorem sm0_smT {a : Nat → Int} {M : Nat} : sm0 (smT M a) (smN M) = sm0 a M := by
  unfold smN
  by_cases h : M % 2 = 0 ∧ 0 < M
  · rw [if_pos h]
    obtain ⟨M', rfl⟩ : ∃ M', M = M' + 1 := ⟨M - 1, by omega⟩
    rw [sm0, sm0, sm0, sm0_cg (a := smT (M' + 1) a) (b := a) M' (fun j hj => by rw [smT, if_pos h, if_neg (by omega), if_neg (by omega)])]
    have e1 : smT (M' + 1) a M' = a M' - 1 := by rw [smT, if_pos h, if_pos rfl]
    have e2 : smT (M' + 1) a (M' + 1) = 1 := by rw [smT, if_pos h, if_neg (by omega), if_pos rfl]
    rw [e1, e2]
    omega
  · rw [if_neg h]
    exact sm0_cg M (fun j hj => by rw [smT, if_neg h])
theorem tNT_is {p q : Int} {M : Nat} (hp : 0 ≤ p) (hq : 0 < q) (hq2 : q ≤ 1000000000) (hz : (rst 3 p q M).2 = 0) (hn : ∀ j, j < M → (rst 3 p q j).2 ≠ 0) : tN p q = smN M ∧ tT p q = smT M (fun k => rTm 3 (rst 3 p q k).1 (rst 3 p q k).2) := by
  have e : ((p.natAbs : Nat) : Int) = p := by omega
  have hM : Classical.choose (rst_ex (u := p.natAbs) (v := q) (by omega) hq hq2) = M := by
    have sp := Classical.choose_spec (rst_ex (u := p.natAbs) (v := q) (by omega) hq hq2)
    exact rst_uniq sp.2.2.1 sp.2.2.2 (by rw [e]; exact hz) (by rw [e]; exact hn)
  constructor
  · unfold tN
    rw [dif_pos ⟨hq, hq2⟩, hM]
  · funext k
    unfold tT
    rw [dif_pos ⟨hq, hq2⟩, hM, if_neg (by omega), e]
section SI2
variable {E : sm_E} {L : sm_S → Prop} {d : Nat} {m : sm_M}
theorem c12_sizeOf {Q : Int64 → sm_M → Prop} {P q : Int} {M : Nat} (hly : ∀ S, L S → ly S) (hd : 2 ≤ d) (hP : 2 ≤ P) (hP2 : P ≤ 500000000) (hq : 0 < q) (hq2 : q ≤ 500000000) (hM : M ≤ 47) (hz : (rst 3 P q M).2 = 0) (hn : ∀ j, j < M → (rst 3 P q j).2 ≠ 0) (h : ∀ m', fr teP m m' → Q (jI (szS P q M)) m') : sm_callJ E L mX12_sizeOf d 0 0 [.ref (sm_B E + 109), .long (jI P), .long (jI q)] m Q := by
  obtain ⟨n1, n2⟩ := tNT_is (by omega) hq (by omega) hz hn
  refine vX12_sizeOf_0 hly hd ⟨fun _ => c12_termsOf hly (by omega) (by omega) (by omega) (by omega) (fun m1 f1 g1 g2 => ?_), fun z => ?_⟩
  rotate_left
  · simp (disch := omega) only [forall_eq, true_and, and_true, false_and, and_false, forall_const, true_implies, implies_true, not_true_eq_false, not_false_eq_true, false_implies, if_true, if_false, ↓reduceIte, Int.toNat_natCast, Int.reduceEq, Int.reduceNe, Int.reduceLT, Int.reduceLE, Int.reduceToNat, Int.reduceAdd, Int.reduceSub, Int.reduceMul, Int.reduceNeg, Nat.reduceAdd, Nat.reduceMul, Nat.reduceSub, iI_lit, jI_lit, iI_add, iI_sub, iI_mul, iI_neg, jI_add, jI_sub, jI_mul, jI_neg, nI_i, lN_j, iI_le, iI_lt, iI_eq, jI_le, jI_lt, jI_eq, iI_in, iI_cl, iI_j, jI_i, cN, inN, wI_eq, wI_ne, wJ_1, wJ_eq, wJ_ne, wI_2, wJ_3, iI_div, iI_rem, jI_div, jI_rem, true_or, or_true, false_or, or_false, eq_self, Nat.add_zero] at z
    omega
  rw [n1] at g1 g2
  rw [n2] at g2
  have hN : smN M ≤ 48 := by
    unfold smN
    split <;> omega
  have h9 := h m1 f1
  rw [← sm0_szS, ← sm0_smT] at h9
  have lp : ∀ (r k : Nat), k + r = smN M → gX12_sizeOf_22 E L d [.ref (sm_B E + 109), .long (jI P), .long (jI q)] (jI (sm0 (smT M (fun k => rTm 3 (rst 3 P q k).1 (rst 3 P q k).2)) k)) (iI (k : Nat)) m1 Q := by
    intro r
    induction r with
    | zero =>
      intro k hk
      refine vX12_sizeOf_22 hly hd ⟨fun _ => ?_, fun z => ?_⟩
      · rw [show k = smN M by omega]
        exact h9
      · rw [g1] at z
        simp (disch := omega) only [forall_eq, true_and, and_true, false_and, and_false, forall_const, true_implies, implies_true, not_true_eq_false, not_false_eq_true, false_implies, if_true, if_false, ↓reduceIte, Int.toNat_natCast, Int.reduceEq, Int.reduceNe, Int.reduceLT, Int.reduceLE, Int.reduceToNat, Int.reduceAdd, Int.reduceSub, Int.reduceMul, Int.reduceNeg, Nat.reduceAdd, Nat.reduceMul, Nat.reduceSub, iI_lit, jI_lit, iI_add, iI_sub, iI_mul, iI_neg, jI_add, jI_sub, jI_mul, jI_neg, nI_i, lN_j, iI_le, iI_lt, iI_eq, jI_le, jI_lt, jI_eq, iI_in, iI_cl, iI_j, jI_i, cN, inN, wI_eq, wI_ne, wJ_1, wJ_eq, wJ_ne, wI_2, wJ_3, iI_div, iI_rem, jI_div, jI_rem, true_or, or_true, false_or, or_false, eq_self, Nat.add_zero] at z
        omega
    | succ r ih =>
      intro k hk
      have nx := ih (k + 1) (by omega)
      have e5 : ((k : Nat) : Int) + 1 = ((k + 1 : Nat) : Int) := by omega
      refine vX12_sizeOf_22 hly hd ⟨fun z => ?_, fun _ => ⟨?_, ?_⟩⟩
      · rw [g1] at z
        simp (disch := omega) only [forall_eq, true_and, and_true, false_and, and_false, forall_const, true_implies, implies_true, not_true_eq_false, not_false_eq_true, false_implies, if_true, if_false, ↓reduceIte, Int.toNat_natCast, Int.reduceEq, Int.reduceNe, Int.reduceLT, Int.reduceLE, Int.reduceToNat, Int.reduceAdd, Int.reduceSub, Int.reduceMul, Int.reduceNeg, Nat.reduceAdd, Nat.reduceMul, Nat.reduceSub, iI_lit, jI_lit, iI_add, iI_sub, iI_mul, iI_neg, jI_add, jI_sub, jI_mul, jI_neg, nI_i, lN_j, iI_le, iI_lt, iI_eq, jI_le, jI_lt, jI_eq, iI_in, iI_cl, iI_j, jI_i, cN, inN, wI_eq, wI_ne, wJ_1, wJ_eq, wJ_ne, wI_2, wJ_3, iI_div, iI_rem, jI_div, jI_rem, true_or, or_true, false_or, or_false, eq_self, Nat.add_zero] at z
        omega
      · simp (disch := omega) only [forall_eq, true_and, and_true, false_and, and_false, forall_const, true_implies, implies_true, not_true_eq_false, not_false_eq_true, false_implies, if_true, if_false, ↓reduceIte, Int.toNat_natCast, Int.reduceEq, Int.reduceNe, Int.reduceLT, Int.reduceLE, Int.reduceToNat, Int.reduceAdd, Int.reduceSub, Int.reduceMul, Int.reduceNeg, Nat.reduceAdd, Nat.reduceMul, Nat.reduceSub, iI_lit, jI_lit, iI_add, iI_sub, iI_mul, iI_neg, jI_add, jI_sub, jI_mul, jI_neg, nI_i, lN_j, iI_le, iI_lt, iI_eq, jI_le, jI_lt, jI_eq, iI_in, iI_cl, iI_j, jI_i, cN, inN, wI_eq, wI_ne, wJ_1, wJ_eq, wJ_ne, wI_2, wJ_3, iI_div, iI_rem, jI_div, jI_rem, true_or, or_true, false_or, or_false, eq_self, Nat.add_zero]
        omega
      intro x5 e5' x7 e7
      rw [cN (by omega), g2 k (by omega), jI_add] at e5'
      rw [iI_lit, iI_add, e5] at e7
      subst e5' e7
      exact nx
  exact lp (smN M) 0 (by omega)
end SI2
