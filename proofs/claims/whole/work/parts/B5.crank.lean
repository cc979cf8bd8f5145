/-! the class's elimination: its helpers -/
def isP (p : Nat) : Prop := p = 2 ∨ p = 3 ∨ p = 5 ∨ p = 7 ∨ p = 11 ∨ p = 13
theorem inv_all : ∀ p : Fin 14, (p.val = 2 ∨ p.val = 3 ∨ p.val = 5 ∨ p.val = 7 ∨ p.val = 11 ∨ p.val = 13) → ∀ v : Fin 14, 1 ≤ v.val → v.val < p.val → ∃ y : Fin 14, 1 ≤ y.val ∧ y.val < p.val ∧ v.val * y.val % p.val = 1 := by decide +kernel
theorem invP_ex {p v : Nat} (hp : isP p) (h1 : 1 ≤ v) (h2 : v < p) : ∃ y, 1 ≤ y ∧ y < p ∧ v * y % p = 1 := by
  have hp14 : p < 14 := by unfold isP at hp; omega
  obtain ⟨y, a, b, e⟩ := inv_all ⟨p, hp14⟩ hp ⟨v, by omega⟩ h1 h2
  exact ⟨y.val, a, b, e⟩
/-- what has an inverse is a unit -/
theorem unt_inv {p v y : Nat} (h : v * y % p = 1) : unt p (v : Int) := fun a ha => by
  have h1 : md p (((v * y : Nat) : Int)) 1 := by
    have := (md_mod (p : Int) ((v * y : Nat) : Int)).sy
    rw [← Int.natCast_emod, h] at this
    exact this
  have h2 := (h1.mul a).sy
  rw [Int.mul_one, Int.natCast_mul, ← Int.mul_assoc] at h2
  have h3 := ha.mulr (y : Int)
  rw [Int.zero_mul] at h3
  exact h2.tr h3
section CRK
variable {E : sm_E} {L : sm_S → Prop} {d d1 d2 : Nat} {c : Nat} {m : sm_M}
theorem c_inverseOf_loop {Q : Int32 → sm_M → Prop} {vs : List Value} {p v : Nat} (hd : 1 ≤ d) (hp : p ≤ 13) (hp2 : 2 ≤ p) (hv : v < p) (h : ∀ y, 1 ≤ y → y < p → v * y % p = 1 → Q (iI (y : Nat)) m) :
    ∀ (r i : Nat), i + r = p → 1 ≤ i → (∃ y, i ≤ y ∧ y < p ∧ v * y % p = 1) → gX1_inverseOf_2 E L d vs (iI (v : Nat)) (iI (p : Nat)) (iI (i : Nat)) m Q := by
  intro r
  induction r with
  | zero => intro i hi _ hy; obtain ⟨y, a, b, _⟩ := hy; omega
  | succ r ih =>
    intro i hi hi1 hy
    have u : ¬ ((p : Int) ≤ (i : Int)) := by omega
    have u2 : (p : Int) ≠ 0 := by omega
    have hvi : v * i ≤ 13 * 13 := Nat.mul_le_mul (by omega) (by omega)
    have e1 : (v : Int) * (i : Int) = ((v * i : Nat) : Int) := rfl
    have e2 : (((v * i : Nat) : Int).tmod (p : Int)) = ((v * i % p : Nat) : Int) := rfl
    have hml : v * i % p < p := Nat.mod_lt _ (by omega)
    refine vX1_inverseOf_2 hd ?_
    simp (disch := omega) only [forall_eq, true_and, and_true, false_and, and_false, forall_const, true_implies, implies_true, not_true_eq_false, not_false_eq_true, false_implies, if_true, if_false, ↓reduceIte, Int.toNat_natCast, Int.reduceEq, Int.reduceNe, Int.reduceLT, Int.reduceLE, Int.reduceToNat, Int.reduceAdd, Int.reduceSub, Int.reduceMul, Int.reduceNeg, Nat.reduceAdd, Nat.reduceMul, Nat.reduceSub, iI_lit, jI_lit, iI_add, iI_sub, iI_mul, iI_neg, jI_add, jI_sub, jI_mul, jI_neg, nI_i, lN_j, iI_le, iI_lt, iI_eq, jI_le, jI_lt, jI_eq, iI_in, iI_cl, iI_j, jI_i, cN, inN, wI_eq, wI_ne, wJ_1, wJ_eq, wJ_ne, wI_2, wJ_3, iI_div, iI_rem, jI_div, jI_rem, true_or, or_true, false_or, or_false, eq_self, Nat.add_zero, u, u2, e1, e2]
    refine ⟨fun q => ?_, fun q => h i hi1 (by omega) (by omega)⟩
    refine ih (i + 1) (by omega) (by omega) ?_
    obtain ⟨y, a, b, e⟩ := hy
    refine ⟨y, ?_, b, e⟩
    have : y ≠ i := fun z => by subst z; omega
    omega
theorem c_cinv {Q : Int32 → sm_M → Prop} {p v : Nat} (hd : 1 ≤ d) (hp : isP p) (hv1 : 1 ≤ v) (hv : v < p) (h : ∀ y, 1 ≤ y → y < p → v * y % p = 1 → Q (iI (y : Nat)) m) : sm_callI E L mX1_inverseOf d 0 0 [.int (iI (v : Nat)), .int (iI (p : Nat))] m Q := by
  have hp2 : 2 ≤ p ∧ p ≤ 13 := by unfold isP at hp; omega
  refine vX1_inverseOf_0 hd ?_
  rw [iI_lit]
  exact c_inverseOf_loop hd hp2.2 hp2.1 hv h (p - 1) 1 (by omega) (by omega) (invP_ex hp hv1 hv)
theorem c_pivotIn {Q : Int32 → sm_M → Prop} {G : Nat → Nat → Int} {p col from' : Nat} (hly : ∀ S, L S → ly S) (hd : 1 ≤ d) (hc : c ≤ 24) (hG : GV m c G) (hGb : Gb c p G) (hp : p ≤ 13) (hcol : col < 48) (hfc : from' ≤ c) (h1 : (∀ i, from' ≤ i → i < c → G i col = 0) → Q (iI (-1)) m) (h2 : ∀ s, from' ≤ s → s < c → G s col ≠ 0 → Q (iI (s : Nat)) m) : sm_callI E L mX1_pivotIn d 0 0 [.ref (sm_B E + 27), .int (iI (col : Nat)), .int (iI (from' : Nat)), .int (iI (c : Nat))] m Q := by
  have loop : ∀ (r i : Nat), i + r = c → from' ≤ i → (∀ k, from' ≤ k → k < i → G k col = 0) → gX1_pivotIn_3 E L d [.ref (sm_B E + 27), .int (iI (col : Nat)), .int (iI (from' : Nat)), .int (iI (c : Nat))] (iI (col : Nat)) (iI (c : Nat)) (iI (i : Nat)) m Q := by
    intro r
    induction r with
    | zero =>
      intro i hi hfi hz
      have hic : i = c := by omega
      subst hic
      refine vX1_pivotIn_3 hly hd ?_
      simp (disch := omega) only [forall_eq, true_and, and_true, false_and, and_false, forall_const, true_implies, implies_true, not_true_eq_false, not_false_eq_true, false_implies, if_true, if_false, ↓reduceIte, Int.toNat_natCast, Int.reduceEq, Int.reduceNe, Int.reduceLT, Int.reduceLE, Int.reduceToNat, Int.reduceAdd, Int.reduceSub, Int.reduceMul, Int.reduceNeg, Nat.reduceAdd, Nat.reduceMul, Nat.reduceSub, iI_lit, jI_lit, iI_add, iI_sub, iI_mul, iI_neg, jI_add, jI_sub, jI_mul, jI_neg, nI_i, lN_j, iI_le, iI_lt, iI_eq, jI_le, jI_lt, jI_eq, iI_in, iI_cl, iI_j, jI_i, cN, inN, wI_eq, wI_ne, wJ_1, wJ_eq, wJ_ne, wI_2, wJ_3, iI_div, iI_rem, jI_div, jI_rem, true_or, or_true, false_or, or_false, eq_self, Nat.add_zero, Int.le_refl]
      exact h1 hz
    | succ r ih =>
      intro i hi hfi hz
      have u : ¬ ((c : Int) ≤ (i : Int)) := by omega
      have hb := hGb i col (by omega) hcol
      refine vX1_pivotIn_3 hly hd ?_
      simp (disch := omega) only [forall_eq, true_and, and_true, false_and, and_false, forall_const, true_implies, implies_true, not_true_eq_false, not_false_eq_true, false_implies, if_true, if_false, ↓reduceIte, Int.toNat_natCast, Int.reduceEq, Int.reduceNe, Int.reduceLT, Int.reduceLE, Int.reduceToNat, Int.reduceAdd, Int.reduceSub, Int.reduceMul, Int.reduceNeg, Nat.reduceAdd, Nat.reduceMul, Nat.reduceSub, iI_lit, jI_lit, iI_add, iI_sub, iI_mul, iI_neg, jI_add, jI_sub, jI_mul, jI_neg, nI_i, lN_j, iI_le, iI_lt, iI_eq, jI_le, jI_lt, jI_eq, iI_in, iI_cl, iI_j, jI_i, cN, inN, wI_eq, wI_ne, wJ_1, wJ_eq, wJ_ne, wI_2, wJ_3, iI_div, iI_rem, jI_div, jI_rem, true_or, or_true, false_or, or_false, eq_self, Nat.add_zero, u]
      refine ⟨by omega, fun j hj rj => ?_⟩
      rw [hG i j (by omega) hj rj col hcol]
      simp (disch := omega) only [forall_eq, true_and, and_true, false_and, and_false, forall_const, true_implies, implies_true, not_true_eq_false, not_false_eq_true, false_implies, if_true, if_false, ↓reduceIte, Int.toNat_natCast, Int.reduceEq, Int.reduceNe, Int.reduceLT, Int.reduceLE, Int.reduceToNat, Int.reduceAdd, Int.reduceSub, Int.reduceMul, Int.reduceNeg, Nat.reduceAdd, Nat.reduceMul, Nat.reduceSub, iI_lit, jI_lit, iI_add, iI_sub, iI_mul, iI_neg, jI_add, jI_sub, jI_mul, jI_neg, nI_i, lN_j, iI_le, iI_lt, iI_eq, jI_le, jI_lt, jI_eq, iI_in, iI_cl, iI_j, jI_i, cN, inN, wI_eq, wI_ne, wJ_1, wJ_eq, wJ_ne, wI_2, wJ_3, iI_div, iI_rem, jI_div, jI_rem, true_or, or_true, false_or, or_false, eq_self, Nat.add_zero]
      refine ⟨by omega, fun q => ?_, fun q => h2 i hfi (by omega) q⟩
      refine ih (i + 1) (by omega) (by omega) (fun k hk1 hk2 => ?_)
      by_cases hki : k = i
      · rw [hki]; exact q
      · exact hz k hk1 (by omega)
  exact vX1_pivotIn_0 hd (loop (c - from') from' (by omega) (Nat.le_refl _) (fun k h1 h2 => by omega))
end CRK
