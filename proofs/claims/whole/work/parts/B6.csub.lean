/-! the class's elimination: a row is taken from another -/
section CSB
variable {E : sm_E} {L : sm_S → Prop} {d d1 d2 : Nat} {c : Nat}
theorem c_subtract {Q : sm_M → Prop} {m : sm_M} {G : Nat → Nat → Int} {p i r j j5 col n f : Nat} (hly : ∀ S, L S → ly S) (hd : 1 ≤ d) (hc : c ≤ 24) (hi28 : inj28 m) (hG : GV m c G) (hGb : Gb c p G) (hp1 : 2 ≤ p) (hp2 : p ≤ 13) (hf : f ≤ 13) (hic : i < c) (hrc : r < c) (hir : i ≠ r) (hj : j < 24) (hj5 : j5 < 24) (hri : m.2.2.1 28 i = some (29 + j)) (hrr : m.2.2.1 28 r = some (29 + j5)) (hn : n ≤ 48) (hcn : col ≤ n) (h : ∀ m', fr grP m m' → GV m' c (fun i' k => if i' = i ∧ col ≤ k ∧ k < n then (G i k + f * G r k) % (p : Int) else G i' k) → Q m') : sm_callV E L mX1_subtract d 0 0 [.ref (sm_B E + (29 + j)), .ref (sm_B E + (29 + j5)), .int (iI (f : Nat)), .int (iI (col : Nat)), .int (iI (n : Nat)), .int (iI (p : Nat))] m Q := by
  have hjj : j ≠ j5 := fun q => hir (hi28 i r (by omega) (by omega) (by rw [hri, hrr, q]))
  have u0 : ((48 : Nat) : Int) = 48 := rfl
  have loop : ∀ (t x : Nat) (m1 : sm_M), x + t = n → col ≤ x → fr grP m m1 → GV m1 c (fun i' k => if i' = i ∧ col ≤ k ∧ k < x then (G i k + f * G r k) % (p : Int) else G i' k) → gX1_subtract_3 E L d [.ref (sm_B E + (29 + j)), .ref (sm_B E + (29 + j5)), .int (iI (f : Nat)), .int (iI (col : Nat)), .int (iI (n : Nat)), .int (iI (p : Nat))] (29 + j) (29 + j5) (iI (f : Nat)) (iI (n : Nat)) (iI (p : Nat)) (iI (x : Nat)) m1 Q := by
    intro t
    induction t with
    | zero =>
      intro x m1 hx hcx f1 g1
      have hxn : x = n := by omega
      subst hxn
      refine vX1_subtract_3 hd (ly_growA hly hj) (ly_growA hly hj5) ?_
      simp (disch := omega) only [forall_eq, true_and, and_true, false_and, and_false, forall_const, true_implies, implies_true, not_true_eq_false, not_false_eq_true, false_implies, if_true, if_false, ↓reduceIte, Int.toNat_natCast, Int.reduceEq, Int.reduceNe, Int.reduceLT, Int.reduceLE, Int.reduceToNat, Int.reduceAdd, Int.reduceSub, Int.reduceMul, Int.reduceNeg, Nat.reduceAdd, Nat.reduceMul, Nat.reduceSub, iI_lit, jI_lit, iI_add, iI_sub, iI_mul, iI_neg, jI_add, jI_sub, jI_mul, jI_neg, nI_i, lN_j, iI_le, iI_lt, iI_eq, jI_le, jI_lt, jI_eq, iI_in, iI_cl, iI_j, jI_i, cN, inN, wI_eq, wI_ne, wJ_1, wJ_eq, wJ_ne, wI_2, wJ_3, iI_div, iI_rem, jI_div, jI_rem, true_or, or_true, false_or, or_false, eq_self, Nat.add_zero, Int.le_refl]
      exact h m1 f1 g1
    | succ t ih =>
      intro x m1 hx hcx f1 g1
      have s1 : m1.2.2 = m.2.2 := f1.2
      have ri : m1.2.2.1 28 i = some (29 + j) := by rw [s1]; exact hri
      have rr : m1.2.2.1 28 r = some (29 + j5) := by rw [s1]; exact hrr
      have i1 : inj28 m1 := by unfold inj28 at *; rw [s1]; exact hi28
      have v1 := g1 i j hic hj ri x (by omega)
      have v2 := g1 r j5 hrc hj5 rr x (by omega)
      simp only at v1 v2
      rw [if_neg (by omega)] at v1
      rw [if_neg (fun q => hir q.1.symm)] at v2
      have b1 := hGb i x hic (by omega)
      have b2 := hGb r x hrc (by omega)
      have b3 : 0 ≤ (f : Int) * G r x := Int.mul_nonneg (by omega) b2.1
      have b4 : (f : Int) * G r x ≤ 13 * 13 := Int.mul_le_mul (by omega) (by omega) b2.1 (by omega)
      have u1 : ¬ ((n : Int) ≤ (x : Int)) := by omega
      have u2 : ¬ ((48 : Int) ≤ (x : Int)) := by omega
      have u3 : ¬ ((p : Int) ≤ 0) := by omega
      have u4 : (p : Int) ≠ 0 := by omega
      have e : (G i x + f * G r x).tmod (p : Int) = (G i x + f * G r x) % (p : Int) := by rw [Int.tmod_eq_emod_of_nonneg (by omega)]
      have nx := ih (x + 1)
      refine vX1_subtract_3 hd (ly_growA hly hj) (ly_growA hly hj5) ?_
      simp (disch := omega) only [forall_eq, true_and, and_true, false_and, and_false, forall_const, true_implies, implies_true, not_true_eq_false, not_false_eq_true, false_implies, if_true, if_false, ↓reduceIte, Int.toNat_natCast, Int.reduceEq, Int.reduceNe, Int.reduceLT, Int.reduceLE, Int.reduceToNat, Int.reduceAdd, Int.reduceSub, Int.reduceMul, Int.reduceNeg, Nat.reduceAdd, Nat.reduceMul, Nat.reduceSub, iI_lit, jI_lit, iI_add, iI_sub, iI_mul, iI_neg, jI_add, jI_sub, jI_mul, jI_neg, nI_i, lN_j, iI_le, iI_lt, iI_eq, jI_le, jI_lt, jI_eq, iI_in, iI_cl, iI_j, jI_i, cN, inN, wI_eq, wI_ne, wJ_1, wJ_eq, wJ_ne, wI_2, wJ_3, iI_div, iI_rem, jI_div, jI_rem, true_or, or_true, false_or, or_false, eq_self, Nat.add_zero, u0, u1, u2, u3, u4, v1, v2, e]
      refine ⟨by omega, by omega, by omega, ?_⟩
      have gw := g1.w (k := x) (v := (G i x + f * G r x) % (p : Int)) hc i1 hic hj ri
      refine nx _ (by omega) (by omega) (f1.wI ⟨by omega, by omega⟩) ?_
      have ef : (fun i' k => if i' = i ∧ col ≤ k ∧ k < x + 1 then (G i k + f * G r k) % (p : Int) else G i' k) = upG (fun i' k => if i' = i ∧ col ≤ k ∧ k < x then (G i k + f * G r k) % (p : Int) else G i' k) i x ((G i x + f * G r x) % (p : Int)) := by
        funext i' k
        rw [upG_at]
        by_cases q : i' = i ∧ k = x
        · rw [if_pos q, if_pos ⟨q.1, by omega, by omega⟩, q.2]
        · rw [if_neg q]
          by_cases q2 : i' = i ∧ col ≤ k ∧ k < x
          · rw [if_pos q2, if_pos ⟨q2.1, q2.2.1, by omega⟩]
          · rw [if_neg q2, if_neg (fun z => q2 ⟨z.1, z.2.1, by have : k ≠ x := fun y => q ⟨z.1, y⟩; omega⟩)]
      rw [ef]
      exact gw
  refine vX1_subtract_0 hd (ly_growA hly hj) (ly_growA hly hj5) (loop (n - col) col m (by omega) (Nat.le_refl _) fr.rf ?_)
  have ef : (fun i' k => if i' = i ∧ col ≤ k ∧ k < col then (G i k + f * G r k) % (p : Int) else G i' k) = G := by
    funext i' k
    rw [if_neg (by omega)]
  rw [ef]
  exact hG
end CSB
