/-! value -/
def far (t u : Int) : Prop := 2000000000000000000 < t.natAbs * u.natAbs
def vgo (sg : Int) (a : Nat → Int) : Nat → Int → Int → Option (Int × Int)
  | 0, u, v => some (u, v)
  | i + 1, u, v => if 2000000000000000000 < (a i).natAbs * u.natAbs then none else if 1000000000000000000 < (a i * u + sg * v).natAbs then none else vgo sg a i (a i * u + sg * v) u
theorem far_div {x y M : Nat} (hy : 0 < y) : M / y < x ↔ M < x * y := by
  rw [Nat.div_lt_iff_lt_mul hy]
section VAL
variable {E : sm_E} {L : sm_S → Prop} {d d1 d2 : Nat} {m : sm_M} {c : Nat}
theorem c_isTooBig {Q : Int32 → sm_M → Prop} {x y : Int} (hd : 1 ≤ d) (x1 : -9223372036854775808 ≤ x) (x2 : x ≤ 9223372036854775807) (y1 : 0 ≤ y) (y2 : y ≤ 9223372036854775807) (h : Q (iI (if y < x.natAbs then 1 else 0)) m) : sm_callI E L mX7_isTooBig d 0 0 [.long (jI x), .long (jI y)] m Q := by
  refine vX7_isTooBig_0 hd ?_
  simp (disch := omega) only [forall_eq, true_and, and_true, false_and, and_false, forall_const, true_implies, implies_true, not_true_eq_false, not_false_eq_true, false_implies, if_true, if_false, ↓reduceIte, Int.toNat_natCast, Int.reduceEq, Int.reduceNe, Int.reduceLT, Int.reduceLE, Int.reduceToNat, Int.reduceAdd, Int.reduceSub, Int.reduceMul, Int.reduceNeg, Nat.reduceAdd, Nat.reduceMul, Nat.reduceSub, iI_lit, jI_lit, iI_add, iI_sub, iI_mul, iI_neg, jI_add, jI_sub, jI_mul, jI_neg, nI_i, lN_j, iI_le, iI_lt, iI_eq, jI_le, jI_lt, jI_eq, iI_in, iI_cl, iI_j, jI_i, cN, inN, wI_eq, wI_ne, wJ_1, wJ_eq, wJ_ne, wI_2, wJ_3, iI_div, iI_rem, jI_div, jI_rem, true_or, or_true, false_or, or_false, eq_self, Nat.add_zero]
  refine ⟨fun z => ?_, fun z => ⟨fun z2 => ?_, fun z2 => ?_⟩⟩
  · rw [if_pos (by omega)] at h; exact h
  · rw [if_neg (by omega)] at h; exact h
  · rw [if_pos (by omega)] at h; exact h
theorem c12_isBig {Q : Int32 → sm_M → Prop} {x : Int} (hd : 1 ≤ d) (x1 : -9223372036854775808 ≤ x) (x2 : x ≤ 9223372036854775807) (h : Q (iI (if 1000000000000000000 < x.natAbs then 1 else 0)) m) : sm_callI E L mX12_isBig d 0 0 [.long (jI x)] m Q := by
  refine vX12_isBig_0 hd ?_
  simp (disch := omega) only [forall_eq, true_and, and_true, false_and, and_false, forall_const, true_implies, implies_true, not_true_eq_false, not_false_eq_true, false_implies, if_true, if_false, ↓reduceIte, Int.toNat_natCast, Int.reduceEq, Int.reduceNe, Int.reduceLT, Int.reduceLE, Int.reduceToNat, Int.reduceAdd, Int.reduceSub, Int.reduceMul, Int.reduceNeg, Nat.reduceAdd, Nat.reduceMul, Nat.reduceSub, iI_lit, jI_lit, iI_add, iI_sub, iI_mul, iI_neg, jI_add, jI_sub, jI_mul, jI_neg, nI_i, lN_j, iI_le, iI_lt, iI_eq, jI_le, jI_lt, jI_eq, iI_in, iI_cl, iI_j, jI_i, cN, inN, wI_eq, wI_ne, wJ_1, wJ_eq, wJ_ne, wI_2, wJ_3, iI_div, iI_rem, jI_div, jI_rem, true_or, or_true, false_or, or_false, eq_self, Nat.add_zero]
  refine ⟨fun z => ?_, fun z => ⟨fun z2 => ?_, fun z2 => ?_⟩⟩
  · rw [if_pos (by omega)] at h; exact h
  · rw [if_neg (by omega)] at h; exact h
  · rw [if_pos (by omega)] at h; exact h
theorem c_labs {Q : Int64 → sm_M → Prop} {z : Int} (h1 : -9223372036854775807 ≤ z) (h2 : z ≤ 9223372036854775807) (hd : 1 ≤ d) (h : Q (jI (z.natAbs : Int)) m) : sm_callJ E L mJ9_abs_067f4 d 0 0 [.long (jI z)] m Q := by
  refine vJ9_abs_067f4_0 hd ?_
  simp (disch := omega) only [forall_eq, true_and, and_true, false_and, and_false, forall_const, true_implies, implies_true, not_true_eq_false, not_false_eq_true, false_implies, if_true, if_false, ↓reduceIte, Int.toNat_natCast, Int.reduceEq, Int.reduceNe, Int.reduceLT, Int.reduceLE, Int.reduceToNat, Int.reduceAdd, Int.reduceSub, Int.reduceMul, Int.reduceNeg, Nat.reduceAdd, Nat.reduceMul, Nat.reduceSub, iI_lit, jI_lit, iI_add, iI_sub, iI_mul, iI_neg, jI_add, jI_sub, jI_mul, jI_neg, nI_i, lN_j, iI_le, iI_lt, iI_eq, jI_le, jI_lt, jI_eq, iI_in, iI_cl, iI_j, jI_i, cN, inN, wI_eq, wI_ne, wJ_1, wJ_eq, wJ_ne, wI_2, wJ_3, iI_div, iI_rem, jI_div, jI_rem, true_or, or_true, false_or, or_false, eq_self, Nat.add_zero]
  refine ⟨fun hc => ?_, fun hc => ?_⟩
  · rw [show (z.natAbs : Int) = z by omega] at h
    exact h
  · rw [show (z.natAbs : Int) = -z by omega] at h
    exact h
theorem tdiv_nat (p q : Nat) : (p : Int).tdiv (q : Int) = ((p / q : Nat) : Int) := by
  rw [Int.tdiv_eq_ediv_of_nonneg (by omega)]
  exact (Int.natCast_ediv p q).symm
theorem mul_bd {t u : Int} (h : ¬ far t u) : (t * u).natAbs ≤ 2000000000000000000 := by
  unfold far at h
  rw [Int.natAbs_mul]
  omega
theorem c_workOut_loop {Q : Int32 → sm_M → Prop} {vs : List Value} {a : Nat} {sg : Int} {A : Nat → Int} (hT : sm_she L a) (hd : 2 ≤ d) (hsg : sg = 1 ∨ sg = -1) (hA : ∀ k, k < 48 → -9223372036854775808 ≤ A k ∧ A k ≤ 9223372036854775807 ∧ m.2.1 (a + 1) k = jI (A k)) : ∀ (j : Nat) (u v : Int), j ≤ 48 → u.natAbs ≤ 1000000000000000000 → v.natAbs ≤ 1000000000000000000 → (∀ U V, vgo sg A j u v = some (U, V) → Q (iI 1) (sm_wJ (sm_wJ m a 3 (jI U)) a 4 (jI V))) → (vgo sg A j u v = none → Q (iI 0) m) → gX7_workOut_44 E L d vs a (iI sg) (jI u) (jI v) (iI ((j : Int) - 1)) m Q := by
  intro j
  induction j with
  | zero =>
    intro u v hj hu hv h1 h0
    refine vX7_workOut_44 hd hT ?_
    have : ((0 : Nat) : Int) - 1 < 0 := by omega
    simp (disch := omega) only [forall_eq, true_and, and_true, false_and, and_false, forall_const, true_implies, implies_true, not_true_eq_false, not_false_eq_true, false_implies, if_true, if_false, ↓reduceIte, Int.toNat_natCast, Int.reduceEq, Int.reduceNe, Int.reduceLT, Int.reduceLE, Int.reduceToNat, Int.reduceAdd, Int.reduceSub, Int.reduceMul, Int.reduceNeg, Nat.reduceAdd, Nat.reduceMul, Nat.reduceSub, iI_lit, jI_lit, iI_add, iI_sub, iI_mul, iI_neg, jI_add, jI_sub, jI_mul, jI_neg, nI_i, lN_j, iI_le, iI_lt, iI_eq, jI_le, jI_lt, jI_eq, iI_in, iI_cl, iI_j, jI_i, cN, inN, wI_eq, wI_ne, wJ_1, wJ_eq, wJ_ne, wI_2, wJ_3, iI_div, iI_rem, jI_div, jI_rem, true_or, or_true, false_or, or_false, eq_self, Nat.add_zero, this]
    exact h1 u v rfl
  | succ j ih =>
    intro u v hj hu hv h1 h0
    obtain ⟨a1, a2, a3⟩ := hA j (by omega)
    have e1 : ((j + 1 : Nat) : Int) - 1 = (j : Int) := by omega
    have go : ¬ far (A j) u → gX7_workOut_82 E L d vs a (iI sg) (jI u) (jI v) (iI (j : Nat)) (jI (A j)) m Q := by
      intro hf
      have hm := mul_bd hf
      have hf' : ¬ 2000000000000000000 < (A j).natAbs * u.natAbs := hf
      have hs : -1000000000000000000 ≤ sg * v ∧ sg * v ≤ 1000000000000000000 := by
        rcases hsg with rfl | rfl <;> omega
      have hs1 : -1 ≤ sg ∧ sg ≤ 1 := by omega
      refine vX7_workOut_82 hd hT ?_
      simp (disch := omega) only [forall_eq, true_and, and_true, false_and, and_false, forall_const, true_implies, implies_true, not_true_eq_false, not_false_eq_true, false_implies, if_true, if_false, ↓reduceIte, Int.toNat_natCast, Int.reduceEq, Int.reduceNe, Int.reduceLT, Int.reduceLE, Int.reduceToNat, Int.reduceAdd, Int.reduceSub, Int.reduceMul, Int.reduceNeg, Nat.reduceAdd, Nat.reduceMul, Nat.reduceSub, iI_lit, jI_lit, iI_add, iI_sub, iI_mul, iI_neg, jI_add, jI_sub, jI_mul, jI_neg, nI_i, lN_j, iI_le, iI_lt, iI_eq, jI_le, jI_lt, jI_eq, iI_in, iI_cl, iI_j, jI_i, cN, inN, wI_eq, wI_ne, wJ_1, wJ_eq, wJ_ne, wI_2, wJ_3, iI_div, iI_rem, jI_div, jI_rem, true_or, or_true, false_or, or_false, eq_self, Nat.add_zero]
      refine c_isTooBig (by omega) (by omega) (by omega) (by omega) (by omega) ?_
      by_cases hb : 1000000000000000000 < (A j * u + sg * v).natAbs
      · rw [if_pos (by omega)]
        simp (disch := omega) only [forall_eq, true_and, and_true, false_and, and_false, forall_const, true_implies, implies_true, not_true_eq_false, not_false_eq_true, false_implies, if_true, if_false, ↓reduceIte, Int.toNat_natCast, Int.reduceEq, Int.reduceNe, Int.reduceLT, Int.reduceLE, Int.reduceToNat, Int.reduceAdd, Int.reduceSub, Int.reduceMul, Int.reduceNeg, Nat.reduceAdd, Nat.reduceMul, Nat.reduceSub, iI_lit, jI_lit, iI_add, iI_sub, iI_mul, iI_neg, jI_add, jI_sub, jI_mul, jI_neg, nI_i, lN_j, iI_le, iI_lt, iI_eq, jI_le, jI_lt, jI_eq, iI_in, iI_cl, iI_j, jI_i, cN, inN, wI_eq, wI_ne, wJ_1, wJ_eq, wJ_ne, wI_2, wJ_3, iI_div, iI_rem, jI_div, jI_rem, true_or, or_true, false_or, or_false, eq_self, Nat.add_zero]
        refine h0 ?_
        rw [vgo, if_neg hf', if_pos hb]
      · rw [if_neg (by omega)]
        simp (disch := omega) only [forall_eq, true_and, and_true, false_and, and_false, forall_const, true_implies, implies_true, not_true_eq_false, not_false_eq_true, false_implies, if_true, if_false, ↓reduceIte, Int.toNat_natCast, Int.reduceEq, Int.reduceNe, Int.reduceLT, Int.reduceLE, Int.reduceToNat, Int.reduceAdd, Int.reduceSub, Int.reduceMul, Int.reduceNeg, Nat.reduceAdd, Nat.reduceMul, Nat.reduceSub, iI_lit, jI_lit, iI_add, iI_sub, iI_mul, iI_neg, jI_add, jI_sub, jI_mul, jI_neg, nI_i, lN_j, iI_le, iI_lt, iI_eq, jI_le, jI_lt, jI_eq, iI_in, iI_cl, iI_j, jI_i, cN, inN, wI_eq, wI_ne, wJ_1, wJ_eq, wJ_ne, wI_2, wJ_3, iI_div, iI_rem, jI_div, jI_rem, true_or, or_true, false_or, or_false, eq_self, Nat.add_zero, show ((j : Nat) : Int) + -1 = (j : Int) - 1 by omega]
        refine ih _ _ (by omega) (by omega) hu (fun U V e => h1 U V ?_) (fun e => h0 ?_)
        · rw [vgo, if_neg hf', if_neg hb]; exact e
        · rw [vgo, if_neg hf', if_neg hb]; exact e
    refine vX7_workOut_44 hd hT ?_
    rw [e1]
    simp (disch := omega) only [forall_eq, true_and, and_true, false_and, and_false, forall_const, true_implies, implies_true, not_true_eq_false, not_false_eq_true, false_implies, if_true, if_false, ↓reduceIte, Int.toNat_natCast, Int.reduceEq, Int.reduceNe, Int.reduceLT, Int.reduceLE, Int.reduceToNat, Int.reduceAdd, Int.reduceSub, Int.reduceMul, Int.reduceNeg, Nat.reduceAdd, Nat.reduceMul, Nat.reduceSub, iI_lit, jI_lit, iI_add, iI_sub, iI_mul, iI_neg, jI_add, jI_sub, jI_mul, jI_neg, nI_i, lN_j, iI_le, iI_lt, iI_eq, jI_le, jI_lt, jI_eq, iI_in, iI_cl, iI_j, jI_i, cN, inN, wI_eq, wI_ne, wJ_1, wJ_eq, wJ_ne, wI_2, wJ_3, iI_div, iI_rem, jI_div, jI_rem, true_or, or_true, false_or, or_false, eq_self, Nat.add_zero, a3]
    refine ⟨fun z => by omega, fun _ => ⟨by omega, fun z => go ?_, fun z => ?_⟩⟩
    · subst z
      unfold far
      simp
    · refine c_labs (by omega) (by omega) (by omega) ?_
      have hd1 : jI 2000000000000000000 / jI (u.natAbs : Int) = jI ((2000000000000000000 / u.natAbs : Nat) : Int) := by
        rw [jI_div (by omega) (by omega) (by omega) (by omega), ← tdiv_nat]
        rfl
      have hdl : 2000000000000000000 / u.natAbs ≤ 2000000000000000000 := Nat.div_le_self _ _
      have hlt := far_div (x := (A j).natAbs) (M := 2000000000000000000) (show 0 < u.natAbs by omega)
      generalize 2000000000000000000 / u.natAbs = Dv at hlt hdl hd1
      refine ⟨?_, ?_⟩
      · simp (disch := omega) only [forall_eq, true_and, and_true, false_and, and_false, forall_const, true_implies, implies_true, not_true_eq_false, not_false_eq_true, false_implies, if_true, if_false, ↓reduceIte, Int.toNat_natCast, Int.reduceEq, Int.reduceNe, Int.reduceLT, Int.reduceLE, Int.reduceToNat, Int.reduceAdd, Int.reduceSub, Int.reduceMul, Int.reduceNeg, Nat.reduceAdd, Nat.reduceMul, Nat.reduceSub, iI_lit, jI_lit, iI_add, iI_sub, iI_mul, iI_neg, jI_add, jI_sub, jI_mul, jI_neg, nI_i, lN_j, iI_le, iI_lt, iI_eq, jI_le, jI_lt, jI_eq, iI_in, iI_cl, iI_j, jI_i, cN, inN, wI_eq, wI_ne, wJ_1, wJ_eq, wJ_ne, wI_2, wJ_3, iI_div, iI_rem, jI_div, jI_rem, true_or, or_true, false_or, or_false, eq_self, Nat.add_zero]
        omega
      · rw [hd1]
        refine c_isTooBig (by omega) (by omega) (by omega) (by omega) (by omega) ?_
        by_cases hf : far (A j) u
        · rw [if_pos (by have := hlt.mpr hf; omega)]
          simp (disch := omega) only [forall_eq, true_and, and_true, false_and, and_false, forall_const, true_implies, implies_true, not_true_eq_false, not_false_eq_true, false_implies, if_true, if_false, ↓reduceIte, Int.toNat_natCast, Int.reduceEq, Int.reduceNe, Int.reduceLT, Int.reduceLE, Int.reduceToNat, Int.reduceAdd, Int.reduceSub, Int.reduceMul, Int.reduceNeg, Nat.reduceAdd, Nat.reduceMul, Nat.reduceSub, iI_lit, jI_lit, iI_add, iI_sub, iI_mul, iI_neg, jI_add, jI_sub, jI_mul, jI_neg, nI_i, lN_j, iI_le, iI_lt, iI_eq, jI_le, jI_lt, jI_eq, iI_in, iI_cl, iI_j, jI_i, cN, inN, wI_eq, wI_ne, wJ_1, wJ_eq, wJ_ne, wI_2, wJ_3, iI_div, iI_rem, jI_div, jI_rem, true_or, or_true, false_or, or_false, eq_self, Nat.add_zero]
          refine h0 ?_
          rw [vgo, if_pos (show 2000000000000000000 < (A j).natAbs * u.natAbs from hf)]
        · rw [if_neg (fun q => hf (hlt.mp (by omega)))]
          simp (disch := omega) only [forall_eq, true_and, and_true, false_and, and_false, forall_const, true_implies, implies_true, not_true_eq_false, not_false_eq_true, false_implies, if_true, if_false, ↓reduceIte, Int.toNat_natCast, Int.reduceEq, Int.reduceNe, Int.reduceLT, Int.reduceLE, Int.reduceToNat, Int.reduceAdd, Int.reduceSub, Int.reduceMul, Int.reduceNeg, Nat.reduceAdd, Nat.reduceMul, Nat.reduceSub, iI_lit, jI_lit, iI_add, iI_sub, iI_mul, iI_neg, jI_add, jI_sub, jI_mul, jI_neg, nI_i, lN_j, iI_le, iI_lt, iI_eq, jI_le, jI_lt, jI_eq, iI_in, iI_cl, iI_j, jI_i, cN, inN, wI_eq, wI_ne, wJ_1, wJ_eq, wJ_ne, wI_2, wJ_3, iI_div, iI_rem, jI_div, jI_rem, true_or, or_true, false_or, or_false, eq_self, Nat.add_zero]
          exact go hf
theorem c12_isFar {Q : Int32 → sm_M → Prop} {t u : Int} (hd : 1 ≤ d) (t1 : -9223372036854775808 ≤ t) (t2 : t ≤ 9223372036854775807) (hu : u.natAbs ≤ 1000000000000000000) (h1 : far t u → Q (iI 1) m) (h0 : ¬ far t u → Q (iI 0) m) : sm_callI E L mX12_isFar d 0 0 [.long (jI t), .long (jI u)] m Q := by
  have g58 : t ≠ 0 → t.natAbs ≤ 2000000000000000000 → ∀ (vs : List Value) (x y : Int), x = t.natAbs → y = u.natAbs → gX12_isFar_58 E L d vs (jI x) (jI y) m Q := by
    intro ht0 ht2 vs x y hx hy
    have hd1 : (2000000000000000000 : Int64) / jI x = jI ((2000000000000000000 / t.natAbs : Nat) : Int) := by
      rw [hx, jI_lit, jI_div (by omega) (by omega) (by omega) (by omega), ← tdiv_nat]
      rfl
    have hdl : 2000000000000000000 / t.natAbs ≤ 2000000000000000000 := Nat.div_le_self _ _
    have hlt := far_div (x := u.natAbs) (M := 2000000000000000000) (show 0 < t.natAbs by omega)
    rw [Nat.mul_comm] at hlt
    refine vX12_isFar_58 hd ?_
    rw [hd1]
    generalize 2000000000000000000 / t.natAbs = Dv at hlt hdl ⊢
    simp (disch := omega) only [forall_eq, true_and, and_true, false_and, and_false, forall_const, true_implies, implies_true, not_true_eq_false, not_false_eq_true, false_implies, if_true, if_false, ↓reduceIte, Int.toNat_natCast, Int.reduceEq, Int.reduceNe, Int.reduceLT, Int.reduceLE, Int.reduceToNat, Int.reduceAdd, Int.reduceSub, Int.reduceMul, Int.reduceNeg, Nat.reduceAdd, Nat.reduceMul, Nat.reduceSub, iI_lit, jI_lit, iI_add, iI_sub, iI_mul, iI_neg, jI_add, jI_sub, jI_mul, jI_neg, nI_i, lN_j, iI_le, iI_lt, iI_eq, jI_le, jI_lt, jI_eq, iI_in, iI_cl, iI_j, jI_i, cN, inN, wI_eq, wI_ne, wJ_1, wJ_eq, wJ_ne, wI_2, wJ_3, iI_div, iI_rem, jI_div, jI_rem, true_or, or_true, false_or, or_false, eq_self, Nat.add_zero]
    refine ⟨by omega, fun z => h0 (fun hf => ?_), fun z => h1 (hlt.mp (by omega))⟩
    have := hlt.mpr hf
    omega
  have hf0 : t = 0 ∨ u = 0 → ¬ far t u := by
    intro h
    unfold far
    rcases h with rfl | rfl <;> simp
  have hfb : u ≠ 0 → 2000000000000000000 < t.natAbs → far t u := by
    intro h1 h2
    unfold far
    have := Nat.mul_le_mul (Nat.le_refl t.natAbs) (show 1 ≤ u.natAbs by omega)
    omega
  refine vX12_isFar_0 hd ?_
  simp (disch := omega) only [forall_eq, true_and, and_true, false_and, and_false, forall_const, true_implies, implies_true, not_true_eq_false, not_false_eq_true, false_implies, if_true, if_false, ↓reduceIte, Int.toNat_natCast, Int.reduceEq, Int.reduceNe, Int.reduceLT, Int.reduceLE, Int.reduceToNat, Int.reduceAdd, Int.reduceSub, Int.reduceMul, Int.reduceNeg, Nat.reduceAdd, Nat.reduceMul, Nat.reduceSub, iI_lit, jI_lit, iI_add, iI_sub, iI_mul, iI_neg, jI_add, jI_sub, jI_mul, jI_neg, nI_i, lN_j, iI_le, iI_lt, iI_eq, jI_le, jI_lt, jI_eq, iI_in, iI_cl, iI_j, jI_i, cN, inN, wI_eq, wI_ne, wJ_1, wJ_eq, wJ_ne, wI_2, wJ_3, iI_div, iI_rem, jI_div, jI_rem, true_or, or_true, false_or, or_false, eq_self, Nat.add_zero]
  refine ⟨fun z => h0 (hf0 (Or.inr z)), fun z => ⟨fun z2 => ⟨fun z3 => h1 (hfb z (by omega)), fun z3 => ⟨fun z4 => ⟨fun z5 => ⟨fun z6 => ?_, fun z6 => ?_⟩, fun z5 => ?_⟩, fun z4 => h1 (hfb z (by omega))⟩⟩, fun z2 => h0 (hf0 (Or.inl z2))⟩⟩
  · exact g58 z2 (by omega) _ _ _ (by omega) (by omega)
  · exact g58 z2 (by omega) _ _ _ (by omega) (by omega)
  · exact ⟨fun z6 => g58 z2 (by omega) _ _ _ (by omega) (by omega), fun z6 => g58 z2 (by omega) _ _ _ (by omega) (by omega)⟩
theorem c12_value_loop {Q : Int64 → sm_M → Prop} {vs : List Value} {s : Nat} {sg hw wh : Int} {A : Nat → Int} (hly : ∀ S, L S → ly S) (hd : 2 ≤ d) (hs : s < 4) (hsg : sg = if hw = 0 then 1 else -1) (h01 : hw = 0 ∨ hw = 1) (w01 : wh = 0 ∨ wh = 1) (hA : ∀ k, k < 48 → -9223372036854775808 ≤ A k ∧ A k ≤ 9223372036854775807 ∧ m.2.1 120 (48 * s + k) = jI (A k)) : ∀ (j : Nat) (u v : Int), j ≤ 48 → u.natAbs ≤ 1000000000000000000 → v.natAbs ≤ 1000000000000000000 → (∀ U V, vgo sg A j u v = some (U, V) → Q (jI (if wh = 0 then U else V)) m) → (vgo sg A j u v = none → Q (jI (-9000000000000000000 - (6 : Nat))) (sm_wI m 110 6 (m.1 110 6 + 1))) → gX12_value_99 E L d vs (iI (s : Nat)) (iI hw) (iI wh) (jI u) (jI v) (iI ((j : Int) - 1)) m Q := by
  intro j
  induction j with
  | zero =>
    intro u v hj hu hv h1 h0
    refine vX12_value_99 hly hd ?_
    have : ((0 : Nat) : Int) - 1 < 0 := by omega
    simp (disch := omega) only [forall_eq, true_and, and_true, false_and, and_false, forall_const, true_implies, implies_true, not_true_eq_false, not_false_eq_true, false_implies, if_true, if_false, ↓reduceIte, Int.toNat_natCast, Int.reduceEq, Int.reduceNe, Int.reduceLT, Int.reduceLE, Int.reduceToNat, Int.reduceAdd, Int.reduceSub, Int.reduceMul, Int.reduceNeg, Nat.reduceAdd, Nat.reduceMul, Nat.reduceSub, iI_lit, jI_lit, iI_add, iI_sub, iI_mul, iI_neg, jI_add, jI_sub, jI_mul, jI_neg, nI_i, lN_j, iI_le, iI_lt, iI_eq, jI_le, jI_lt, jI_eq, iI_in, iI_cl, iI_j, jI_i, cN, inN, wI_eq, wI_ne, wJ_1, wJ_eq, wJ_ne, wI_2, wJ_3, iI_div, iI_rem, jI_div, jI_rem, true_or, or_true, false_or, or_false, eq_self, Nat.add_zero, this]
    have h9 := h1 u v rfl
    refine ⟨fun z => ?_, fun z => ?_⟩
    · rw [if_neg z] at h9; exact h9
    · rw [if_pos z] at h9; exact h9
  | succ j ih =>
    intro u v hj hu hv h1 h0
    obtain ⟨a1, a2, a3⟩ := hA j (by omega)
    have e1 : ((j + 1 : Nat) : Int) - 1 = (j : Int) := by omega
    have e6 : (48 : Int) * ((s : Nat) : Int) + ((j : Nat) : Int) = ((48 * s + j : Nat) : Int) := by omega
    have go : ¬ far (A j) u → ∀ (x y : Int), x = A j * u → y = sg * v → gX12_value_167 E L d vs (iI (s : Nat)) (iI hw) (iI wh) (jI u) (iI (j : Nat)) (jI x) (jI y) m Q := by
      intro hf x y hx hy
      have hm := mul_bd hf
      have hf' : ¬ 2000000000000000000 < (A j).natAbs * u.natAbs := hf
      have hs : -1000000000000000000 ≤ sg * v ∧ sg * v ≤ 1000000000000000000 := by
        rcases h01 with rfl | rfl
        · rw [hsg, if_pos rfl]; omega
        · rw [hsg, if_neg (by decide)]; omega
      refine vX12_value_167 hly hd ?_
      rw [hx, hy]
      simp (disch := omega) only [forall_eq, true_and, and_true, false_and, and_false, forall_const, true_implies, implies_true, not_true_eq_false, not_false_eq_true, false_implies, if_true, if_false, ↓reduceIte, Int.toNat_natCast, Int.reduceEq, Int.reduceNe, Int.reduceLT, Int.reduceLE, Int.reduceToNat, Int.reduceAdd, Int.reduceSub, Int.reduceMul, Int.reduceNeg, Nat.reduceAdd, Nat.reduceMul, Nat.reduceSub, iI_lit, jI_lit, iI_add, iI_sub, iI_mul, iI_neg, jI_add, jI_sub, jI_mul, jI_neg, nI_i, lN_j, iI_le, iI_lt, iI_eq, jI_le, jI_lt, jI_eq, iI_in, iI_cl, iI_j, jI_i, cN, inN, wI_eq, wI_ne, wJ_1, wJ_eq, wJ_ne, wI_2, wJ_3, iI_div, iI_rem, jI_div, jI_rem, true_or, or_true, false_or, or_false, eq_self, Nat.add_zero]
      refine c12_isBig (by omega) (by omega) (by omega) ?_
      by_cases hb : 1000000000000000000 < (A j * u + sg * v).natAbs
      · rw [if_pos hb]
        simp (disch := omega) only [forall_eq, true_and, and_true, false_and, and_false, forall_const, true_implies, implies_true, not_true_eq_false, not_false_eq_true, false_implies, if_true, if_false, ↓reduceIte, Int.toNat_natCast, Int.reduceEq, Int.reduceNe, Int.reduceLT, Int.reduceLE, Int.reduceToNat, Int.reduceAdd, Int.reduceSub, Int.reduceMul, Int.reduceNeg, Nat.reduceAdd, Nat.reduceMul, Nat.reduceSub, iI_lit, jI_lit, iI_add, iI_sub, iI_mul, iI_neg, jI_add, jI_sub, jI_mul, jI_neg, nI_i, lN_j, iI_le, iI_lt, iI_eq, jI_le, jI_lt, jI_eq, iI_in, iI_cl, iI_j, jI_i, cN, inN, wI_eq, wI_ne, wJ_1, wJ_eq, wJ_ne, wI_2, wJ_3, iI_div, iI_rem, jI_div, jI_rem, true_or, or_true, false_or, or_false, eq_self, Nat.add_zero]
        refine c12_findsFar (e := 6) hly (by decide) (by omega) (h0 ?_)
        rw [vgo, if_neg hf', if_pos hb]
      · rw [if_neg hb]
        simp (disch := omega) only [forall_eq, true_and, and_true, false_and, and_false, forall_const, true_implies, implies_true, not_true_eq_false, not_false_eq_true, false_implies, if_true, if_false, ↓reduceIte, Int.toNat_natCast, Int.reduceEq, Int.reduceNe, Int.reduceLT, Int.reduceLE, Int.reduceToNat, Int.reduceAdd, Int.reduceSub, Int.reduceMul, Int.reduceNeg, Nat.reduceAdd, Nat.reduceMul, Nat.reduceSub, iI_lit, jI_lit, iI_add, iI_sub, iI_mul, iI_neg, jI_add, jI_sub, jI_mul, jI_neg, nI_i, lN_j, iI_le, iI_lt, iI_eq, jI_le, jI_lt, jI_eq, iI_in, iI_cl, iI_j, jI_i, cN, inN, wI_eq, wI_ne, wJ_1, wJ_eq, wJ_ne, wI_2, wJ_3, iI_div, iI_rem, jI_div, jI_rem, true_or, or_true, false_or, or_false, eq_self, Nat.add_zero, show ((j : Nat) : Int) + -1 = (j : Int) - 1 by omega]
        refine ih _ _ (by omega) (by omega) hu (fun U V e => h1 U V ?_) (fun e => h0 ?_)
        · rw [vgo, if_neg hf', if_neg hb]; exact e
        · rw [vgo, if_neg hf', if_neg hb]; exact e
    refine vX12_value_99 hly hd ?_
    rw [e1]
    simp (disch := omega) only [forall_eq, true_and, and_true, false_and, and_false, forall_const, true_implies, implies_true, not_true_eq_false, not_false_eq_true, false_implies, if_true, if_false, ↓reduceIte, Int.toNat_natCast, Int.reduceEq, Int.reduceNe, Int.reduceLT, Int.reduceLE, Int.reduceToNat, Int.reduceAdd, Int.reduceSub, Int.reduceMul, Int.reduceNeg, Nat.reduceAdd, Nat.reduceMul, Nat.reduceSub, iI_lit, jI_lit, iI_add, iI_sub, iI_mul, iI_neg, jI_add, jI_sub, jI_mul, jI_neg, nI_i, lN_j, iI_le, iI_lt, iI_eq, jI_le, jI_lt, jI_eq, iI_in, iI_cl, iI_j, jI_i, cN, inN, wI_eq, wI_ne, wJ_1, wJ_eq, wJ_ne, wI_2, wJ_3, iI_div, iI_rem, jI_div, jI_rem, true_or, or_true, false_or, or_false, eq_self, Nat.add_zero, e6, a3]
    refine ⟨fun z => by omega, fun _ => ⟨by omega, c12_isFar (by omega) a1 a2 hu (fun hf => ?_) (fun hf => ?_)⟩⟩
    · simp (disch := omega) only [forall_eq, true_and, and_true, false_and, and_false, forall_const, true_implies, implies_true, not_true_eq_false, not_false_eq_true, false_implies, if_true, if_false, ↓reduceIte, Int.toNat_natCast, Int.reduceEq, Int.reduceNe, Int.reduceLT, Int.reduceLE, Int.reduceToNat, Int.reduceAdd, Int.reduceSub, Int.reduceMul, Int.reduceNeg, Nat.reduceAdd, Nat.reduceMul, Nat.reduceSub, iI_lit, jI_lit, iI_add, iI_sub, iI_mul, iI_neg, jI_add, jI_sub, jI_mul, jI_neg, nI_i, lN_j, iI_le, iI_lt, iI_eq, jI_le, jI_lt, jI_eq, iI_in, iI_cl, iI_j, jI_i, cN, inN, wI_eq, wI_ne, wJ_1, wJ_eq, wJ_ne, wI_2, wJ_3, iI_div, iI_rem, jI_div, jI_rem, true_or, or_true, false_or, or_false, eq_self, Nat.add_zero]
      refine c12_findsFar (e := 6) hly (by decide) (by omega) (h0 ?_)
      rw [vgo, if_pos (show 2000000000000000000 < (A j).natAbs * u.natAbs from hf)]
    · simp (disch := omega) only [forall_eq, true_and, and_true, false_and, and_false, forall_const, true_implies, implies_true, not_true_eq_false, not_false_eq_true, false_implies, if_true, if_false, ↓reduceIte, Int.toNat_natCast, Int.reduceEq, Int.reduceNe, Int.reduceLT, Int.reduceLE, Int.reduceToNat, Int.reduceAdd, Int.reduceSub, Int.reduceMul, Int.reduceNeg, Nat.reduceAdd, Nat.reduceMul, Nat.reduceSub, iI_lit, jI_lit, iI_add, iI_sub, iI_mul, iI_neg, jI_add, jI_sub, jI_mul, jI_neg, nI_i, lN_j, iI_le, iI_lt, iI_eq, jI_le, jI_lt, jI_eq, iI_in, iI_cl, iI_j, jI_i, cN, inN, wI_eq, wI_ne, wJ_1, wJ_eq, wJ_ne, wI_2, wJ_3, iI_div, iI_rem, jI_div, jI_rem, true_or, or_true, false_or, or_false, eq_self, Nat.add_zero]
      have go := go hf
      refine ⟨fun z => ⟨fun z2 => go _ _ rfl ?_, fun z2 => go _ _ rfl ?_⟩, fun z => ⟨fun z2 => go _ _ ?_ ?_, fun z2 => go _ _ ?_ ?_⟩⟩
      · rw [hsg, if_neg z2]; omega
      · rw [hsg, if_pos z2]; omega
      · rw [z, Int.mul_zero]
      · rw [hsg, if_neg z2]; omega
      · rw [z, Int.mul_zero]
      · rw [hsg, if_pos z2]; omega
theorem k_value {x1 x2 x3 : Int32} (hly : ∀ S, L S → ly S) (hd1 : 3 ≤ d1) (hd2 : 2 ≤ d2) (hI : Inv c m) : sm_callJ E L mX11_value d1 0 0 [.ref (sm_B E + 0), .int x1, .int x2, .int x3] m (fun r m1 => sm_callJ E L mX12_value d2 0 0 [.ref (sm_B E + 109), .int x1, .int x2, .int x3] m1 (fun r2 m2 => r = r2 ∧ Inv c m2)) := by
  obtain ⟨i, i1, i2, rfl⟩ := iI_ex x1
  obtain ⟨h, h1, h2, rfl⟩ := iI_ex x2
  obtain ⟨w, w1, w2, rfl⟩ := iI_ex x3
  by_cases hi : 0 ≤ i ∧ i < 4
  rotate_left
  · refine vX11_value_0 hly hd1 (c_isSheet i1 i2 (by omega) ?_)
    simp (disch := omega) only [forall_eq, true_and, and_true, false_and, and_false, forall_const, true_implies, implies_true, not_true_eq_false, not_false_eq_true, false_implies, if_true, if_false, ↓reduceIte, Int.toNat_natCast, Int.reduceEq, Int.reduceNe, Int.reduceLT, Int.reduceLE, Int.reduceToNat, Int.reduceAdd, Int.reduceSub, Int.reduceMul, Int.reduceNeg, Nat.reduceAdd, Nat.reduceMul, Nat.reduceSub, iI_lit, jI_lit, iI_add, iI_sub, iI_mul, iI_neg, jI_add, jI_sub, jI_mul, jI_neg, nI_i, lN_j, iI_le, iI_lt, iI_eq, jI_le, jI_lt, jI_eq, iI_in, iI_cl, iI_j, jI_i, cN, inN, wI_eq, wI_ne, wJ_1, wJ_eq, wJ_ne, wI_2, wJ_3, iI_div, iI_rem, jI_div, jI_rem, true_or, or_true, false_or, or_false, eq_self, Nat.add_zero, hi]
    refine c_longError (e := 1) hly (by decide) (by omega) (vX12_value_0 hly hd2 (c12_isSheet i1 i2 (by omega) ?_))
    simp (disch := omega) only [forall_eq, true_and, and_true, false_and, and_false, forall_const, true_implies, implies_true, not_true_eq_false, not_false_eq_true, false_implies, if_true, if_false, ↓reduceIte, Int.toNat_natCast, Int.reduceEq, Int.reduceNe, Int.reduceLT, Int.reduceLE, Int.reduceToNat, Int.reduceAdd, Int.reduceSub, Int.reduceMul, Int.reduceNeg, Nat.reduceAdd, Nat.reduceMul, Nat.reduceSub, iI_lit, jI_lit, iI_add, iI_sub, iI_mul, iI_neg, jI_add, jI_sub, jI_mul, jI_neg, nI_i, lN_j, iI_le, iI_lt, iI_eq, jI_le, jI_lt, jI_eq, iI_in, iI_cl, iI_j, jI_i, cN, inN, wI_eq, wI_ne, wJ_1, wJ_eq, wJ_ne, wI_2, wJ_3, iI_div, iI_rem, jI_div, jI_rem, true_or, or_true, false_or, or_false, eq_self, Nat.add_zero, hi]
    exact c12_findsFar (e := 1) hly (by decide) (by omega) ⟨rfl, hI.er frw.rf frw.rf⟩
  by_cases hh : h = 0 ∨ h = 1
  rotate_left
  · refine vX11_value_0 hly hd1 (c_isSheet i1 i2 (by omega) ?_)
    simp (disch := omega) only [forall_eq, true_and, and_true, false_and, and_false, forall_const, true_implies, implies_true, not_true_eq_false, not_false_eq_true, false_implies, if_true, if_false, ↓reduceIte, Int.toNat_natCast, Int.reduceEq, Int.reduceNe, Int.reduceLT, Int.reduceLE, Int.reduceToNat, Int.reduceAdd, Int.reduceSub, Int.reduceMul, Int.reduceNeg, Nat.reduceAdd, Nat.reduceMul, Nat.reduceSub, iI_lit, jI_lit, iI_add, iI_sub, iI_mul, iI_neg, jI_add, jI_sub, jI_mul, jI_neg, nI_i, lN_j, iI_le, iI_lt, iI_eq, jI_le, jI_lt, jI_eq, iI_in, iI_cl, iI_j, jI_i, cN, inN, wI_eq, wI_ne, wJ_1, wJ_eq, wJ_ne, wI_2, wJ_3, iI_div, iI_rem, jI_div, jI_rem, true_or, or_true, false_or, or_false, eq_self, Nat.add_zero, hi]
    refine c_isChoice h1 h2 (by omega) ?_
    rw [if_neg hh]
    simp (disch := omega) only [forall_eq, true_and, and_true, false_and, and_false, forall_const, true_implies, implies_true, not_true_eq_false, not_false_eq_true, false_implies, if_true, if_false, ↓reduceIte, Int.toNat_natCast, Int.reduceEq, Int.reduceNe, Int.reduceLT, Int.reduceLE, Int.reduceToNat, Int.reduceAdd, Int.reduceSub, Int.reduceMul, Int.reduceNeg, Nat.reduceAdd, Nat.reduceMul, Nat.reduceSub, iI_lit, jI_lit, iI_add, iI_sub, iI_mul, iI_neg, jI_add, jI_sub, jI_mul, jI_neg, nI_i, lN_j, iI_le, iI_lt, iI_eq, jI_le, jI_lt, jI_eq, iI_in, iI_cl, iI_j, jI_i, cN, inN, wI_eq, wI_ne, wJ_1, wJ_eq, wJ_ne, wI_2, wJ_3, iI_div, iI_rem, jI_div, jI_rem, true_or, or_true, false_or, or_false, eq_self, Nat.add_zero]
    refine c_longError (e := 1) hly (by decide) (by omega) (vX12_value_0 hly hd2 (c12_isSheet i1 i2 (by omega) ?_))
    simp (disch := omega) only [forall_eq, true_and, and_true, false_and, and_false, forall_const, true_implies, implies_true, not_true_eq_false, not_false_eq_true, false_implies, if_true, if_false, ↓reduceIte, Int.toNat_natCast, Int.reduceEq, Int.reduceNe, Int.reduceLT, Int.reduceLE, Int.reduceToNat, Int.reduceAdd, Int.reduceSub, Int.reduceMul, Int.reduceNeg, Nat.reduceAdd, Nat.reduceMul, Nat.reduceSub, iI_lit, jI_lit, iI_add, iI_sub, iI_mul, iI_neg, jI_add, jI_sub, jI_mul, jI_neg, nI_i, lN_j, iI_le, iI_lt, iI_eq, jI_le, jI_lt, jI_eq, iI_in, iI_cl, iI_j, jI_i, cN, inN, wI_eq, wI_ne, wJ_1, wJ_eq, wJ_ne, wI_2, wJ_3, iI_div, iI_rem, jI_div, jI_rem, true_or, or_true, false_or, or_false, eq_self, Nat.add_zero, hi]
    refine c12_isPart h1 h2 (by omega) ?_
    rw [if_neg hh]
    simp (disch := omega) only [forall_eq, true_and, and_true, false_and, and_false, forall_const, true_implies, implies_true, not_true_eq_false, not_false_eq_true, false_implies, if_true, if_false, ↓reduceIte, Int.toNat_natCast, Int.reduceEq, Int.reduceNe, Int.reduceLT, Int.reduceLE, Int.reduceToNat, Int.reduceAdd, Int.reduceSub, Int.reduceMul, Int.reduceNeg, Nat.reduceAdd, Nat.reduceMul, Nat.reduceSub, iI_lit, jI_lit, iI_add, iI_sub, iI_mul, iI_neg, jI_add, jI_sub, jI_mul, jI_neg, nI_i, lN_j, iI_le, iI_lt, iI_eq, jI_le, jI_lt, jI_eq, iI_in, iI_cl, iI_j, jI_i, cN, inN, wI_eq, wI_ne, wJ_1, wJ_eq, wJ_ne, wI_2, wJ_3, iI_div, iI_rem, jI_div, jI_rem, true_or, or_true, false_or, or_false, eq_self, Nat.add_zero]
    exact c12_findsFar (e := 1) hly (by decide) (by omega) ⟨rfl, hI.er frw.rf frw.rf⟩
  by_cases hw : w = 0 ∨ w = 1
  rotate_left
  · refine vX11_value_0 hly hd1 (c_isSheet i1 i2 (by omega) ?_)
    simp (disch := omega) only [forall_eq, true_and, and_true, false_and, and_false, forall_const, true_implies, implies_true, not_true_eq_false, not_false_eq_true, false_implies, if_true, if_false, ↓reduceIte, Int.toNat_natCast, Int.reduceEq, Int.reduceNe, Int.reduceLT, Int.reduceLE, Int.reduceToNat, Int.reduceAdd, Int.reduceSub, Int.reduceMul, Int.reduceNeg, Nat.reduceAdd, Nat.reduceMul, Nat.reduceSub, iI_lit, jI_lit, iI_add, iI_sub, iI_mul, iI_neg, jI_add, jI_sub, jI_mul, jI_neg, nI_i, lN_j, iI_le, iI_lt, iI_eq, jI_le, jI_lt, jI_eq, iI_in, iI_cl, iI_j, jI_i, cN, inN, wI_eq, wI_ne, wJ_1, wJ_eq, wJ_ne, wI_2, wJ_3, iI_div, iI_rem, jI_div, jI_rem, true_or, or_true, false_or, or_false, eq_self, Nat.add_zero, hi]
    refine c_isChoice h1 h2 (by omega) ?_
    rw [if_pos hh]
    simp (disch := omega) only [forall_eq, true_and, and_true, false_and, and_false, forall_const, true_implies, implies_true, not_true_eq_false, not_false_eq_true, false_implies, if_true, if_false, ↓reduceIte, Int.toNat_natCast, Int.reduceEq, Int.reduceNe, Int.reduceLT, Int.reduceLE, Int.reduceToNat, Int.reduceAdd, Int.reduceSub, Int.reduceMul, Int.reduceNeg, Nat.reduceAdd, Nat.reduceMul, Nat.reduceSub, iI_lit, jI_lit, iI_add, iI_sub, iI_mul, iI_neg, jI_add, jI_sub, jI_mul, jI_neg, nI_i, lN_j, iI_le, iI_lt, iI_eq, jI_le, jI_lt, jI_eq, iI_in, iI_cl, iI_j, jI_i, cN, inN, wI_eq, wI_ne, wJ_1, wJ_eq, wJ_ne, wI_2, wJ_3, iI_div, iI_rem, jI_div, jI_rem, true_or, or_true, false_or, or_false, eq_self, Nat.add_zero]
    refine c_isChoice w1 w2 (by omega) ?_
    rw [if_neg hw]
    simp (disch := omega) only [forall_eq, true_and, and_true, false_and, and_false, forall_const, true_implies, implies_true, not_true_eq_false, not_false_eq_true, false_implies, if_true, if_false, ↓reduceIte, Int.toNat_natCast, Int.reduceEq, Int.reduceNe, Int.reduceLT, Int.reduceLE, Int.reduceToNat, Int.reduceAdd, Int.reduceSub, Int.reduceMul, Int.reduceNeg, Nat.reduceAdd, Nat.reduceMul, Nat.reduceSub, iI_lit, jI_lit, iI_add, iI_sub, iI_mul, iI_neg, jI_add, jI_sub, jI_mul, jI_neg, nI_i, lN_j, iI_le, iI_lt, iI_eq, jI_le, jI_lt, jI_eq, iI_in, iI_cl, iI_j, jI_i, cN, inN, wI_eq, wI_ne, wJ_1, wJ_eq, wJ_ne, wI_2, wJ_3, iI_div, iI_rem, jI_div, jI_rem, true_or, or_true, false_or, or_false, eq_self, Nat.add_zero]
    refine c_longError (e := 1) hly (by decide) (by omega) (vX12_value_0 hly hd2 (c12_isSheet i1 i2 (by omega) ?_))
    simp (disch := omega) only [forall_eq, true_and, and_true, false_and, and_false, forall_const, true_implies, implies_true, not_true_eq_false, not_false_eq_true, false_implies, if_true, if_false, ↓reduceIte, Int.toNat_natCast, Int.reduceEq, Int.reduceNe, Int.reduceLT, Int.reduceLE, Int.reduceToNat, Int.reduceAdd, Int.reduceSub, Int.reduceMul, Int.reduceNeg, Nat.reduceAdd, Nat.reduceMul, Nat.reduceSub, iI_lit, jI_lit, iI_add, iI_sub, iI_mul, iI_neg, jI_add, jI_sub, jI_mul, jI_neg, nI_i, lN_j, iI_le, iI_lt, iI_eq, jI_le, jI_lt, jI_eq, iI_in, iI_cl, iI_j, jI_i, cN, inN, wI_eq, wI_ne, wJ_1, wJ_eq, wJ_ne, wI_2, wJ_3, iI_div, iI_rem, jI_div, jI_rem, true_or, or_true, false_or, or_false, eq_self, Nat.add_zero, hi]
    refine c12_isPart h1 h2 (by omega) ?_
    rw [if_pos hh]
    simp (disch := omega) only [forall_eq, true_and, and_true, false_and, and_false, forall_const, true_implies, implies_true, not_true_eq_false, not_false_eq_true, false_implies, if_true, if_false, ↓reduceIte, Int.toNat_natCast, Int.reduceEq, Int.reduceNe, Int.reduceLT, Int.reduceLE, Int.reduceToNat, Int.reduceAdd, Int.reduceSub, Int.reduceMul, Int.reduceNeg, Nat.reduceAdd, Nat.reduceMul, Nat.reduceSub, iI_lit, jI_lit, iI_add, iI_sub, iI_mul, iI_neg, jI_add, jI_sub, jI_mul, jI_neg, nI_i, lN_j, iI_le, iI_lt, iI_eq, jI_le, jI_lt, jI_eq, iI_in, iI_cl, iI_j, jI_i, cN, inN, wI_eq, wI_ne, wJ_1, wJ_eq, wJ_ne, wI_2, wJ_3, iI_div, iI_rem, jI_div, jI_rem, true_or, or_true, false_or, or_false, eq_self, Nat.add_zero]
    refine c12_isPart w1 w2 (by omega) ?_
    rw [if_neg hw]
    simp (disch := omega) only [forall_eq, true_and, and_true, false_and, and_false, forall_const, true_implies, implies_true, not_true_eq_false, not_false_eq_true, false_implies, if_true, if_false, ↓reduceIte, Int.toNat_natCast, Int.reduceEq, Int.reduceNe, Int.reduceLT, Int.reduceLE, Int.reduceToNat, Int.reduceAdd, Int.reduceSub, Int.reduceMul, Int.reduceNeg, Nat.reduceAdd, Nat.reduceMul, Nat.reduceSub, iI_lit, jI_lit, iI_add, iI_sub, iI_mul, iI_neg, jI_add, jI_sub, jI_mul, jI_neg, nI_i, lN_j, iI_le, iI_lt, iI_eq, jI_le, jI_lt, jI_eq, iI_in, iI_cl, iI_j, jI_i, cN, inN, wI_eq, wI_ne, wJ_1, wJ_eq, wJ_ne, wI_2, wJ_3, iI_div, iI_rem, jI_div, jI_rem, true_or, or_true, false_or, or_false, eq_self, Nat.add_zero]
    exact c12_findsFar (e := 1) hly (by decide) (by omega) ⟨rfl, hI.er frw.rf frw.rf⟩
  obtain ⟨s, rfl⟩ : ∃ s : Nat, i = (s : Int) := ⟨i.toNat, by omega⟩
  have hs : s < 4 := by omega
  obtain ⟨b, n, g1, g2, g3, g4, g5, g6, g7⟩ := hI.2.1.2.2.2.2.2.1 s hs
  have hT := ly_sheetT hly hs
  obtain ⟨A, hA⟩ : ∃ A : Nat → Int, ∀ k, -9223372036854775808 ≤ A k ∧ A k ≤ 9223372036854775807 ∧ m.2.1 (102 + 2 * s) k = jI (A k) := ⟨fun k => Classical.choose (jI_ex (m.2.1 (102 + 2 * s) k)), fun k => Classical.choose_spec (jI_ex (m.2.1 (102 + 2 * s) k))⟩
  obtain ⟨sg, hsg⟩ : ∃ sg : Int, sg = if h = 0 then 1 else -1 := ⟨_, rfl⟩
  have hsg1 : sg = 1 ∨ sg = -1 := by rw [hsg]; split <;> simp
  -- the whole answer
  have model : ∀ (m1 : sm_M) (Q : Int64 → sm_M → Prop), (∀ a, (a = 121 ∨ a = 122) → m1.1 a s = m.1 a s) → (∀ k, m1.2.1 120 k = m.2.1 120 k) → (b = 0 ∨ n = 0 → Q (jI (-9000000000000000000 - (2 : Nat))) (sm_wI m1 110 2 (m1.1 110 2 + 1))) → (b ≠ 0 → n ≠ 0 → (1000000000000000000 < (A (n - 1)).natAbs ∨ vgo sg A (n - 1) (A (n - 1)) 1 = none) → Q (jI (-9000000000000000000 - (6 : Nat))) (sm_wI m1 110 6 (m1.1 110 6 + 1))) → (b ≠ 0 → n ≠ 0 → ¬ 1000000000000000000 < (A (n - 1)).natAbs → ∀ U V, vgo sg A (n - 1) (A (n - 1)) 1 = some (U, V) → Q (jI (if w = 0 then U else V)) m1) → sm_callJ E L mX12_value d2 0 0 [.ref (sm_B E + 109), .int (iI (s : Nat)), .int (iI h), .int (iI w)] m1 Q := by
    intro m1 Q c1 c2 hQ2 hQ6 hQ
    have c4 : m1.1 121 s = iI b := (c1 121 (by omega)).trans g4
    have c5 : m1.1 122 s = iI (n : Nat) := (c1 122 (by omega)).trans g6
    have cA : ∀ k, k < 48 → -9223372036854775808 ≤ A k ∧ A k ≤ 9223372036854775807 ∧ m1.2.1 120 (48 * s + k) = jI (A k) := fun k hk => ⟨(hA k).1, (hA k).2.1, by rw [c2, ← g7 k hk]; exact (hA k).2.2⟩
    refine vX12_value_0 hly hd2 (c12_isSheet i1 i2 (by omega) ?_)
    simp (disch := omega) only [forall_eq, true_and, and_true, false_and, and_false, forall_const, true_implies, implies_true, not_true_eq_false, not_false_eq_true, false_implies, if_true, if_false, ↓reduceIte, Int.toNat_natCast, Int.reduceEq, Int.reduceNe, Int.reduceLT, Int.reduceLE, Int.reduceToNat, Int.reduceAdd, Int.reduceSub, Int.reduceMul, Int.reduceNeg, Nat.reduceAdd, Nat.reduceMul, Nat.reduceSub, iI_lit, jI_lit, iI_add, iI_sub, iI_mul, iI_neg, jI_add, jI_sub, jI_mul, jI_neg, nI_i, lN_j, iI_le, iI_lt, iI_eq, jI_le, jI_lt, jI_eq, iI_in, iI_cl, iI_j, jI_i, cN, inN, wI_eq, wI_ne, wJ_1, wJ_eq, wJ_ne, wI_2, wJ_3, iI_div, iI_rem, jI_div, jI_rem, true_or, or_true, false_or, or_false, eq_self, Nat.add_zero, hi]
    refine c12_isPart h1 h2 (by omega) ?_
    rw [if_pos hh]
    simp (disch := omega) only [forall_eq, true_and, and_true, false_and, and_false, forall_const, true_implies, implies_true, not_true_eq_false, not_false_eq_true, false_implies, if_true, if_false, ↓reduceIte, Int.toNat_natCast, Int.reduceEq, Int.reduceNe, Int.reduceLT, Int.reduceLE, Int.reduceToNat, Int.reduceAdd, Int.reduceSub, Int.reduceMul, Int.reduceNeg, Nat.reduceAdd, Nat.reduceMul, Nat.reduceSub, iI_lit, jI_lit, iI_add, iI_sub, iI_mul, iI_neg, jI_add, jI_sub, jI_mul, jI_neg, nI_i, lN_j, iI_le, iI_lt, iI_eq, jI_le, jI_lt, jI_eq, iI_in, iI_cl, iI_j, jI_i, cN, inN, wI_eq, wI_ne, wJ_1, wJ_eq, wJ_ne, wI_2, wJ_3, iI_div, iI_rem, jI_div, jI_rem, true_or, or_true, false_or, or_false, eq_self, Nat.add_zero]
    refine c12_isPart w1 w2 (by omega) ?_
    rw [if_pos hw]
    simp (disch := omega) only [forall_eq, true_and, and_true, false_and, and_false, forall_const, true_implies, implies_true, not_true_eq_false, not_false_eq_true, false_implies, if_true, if_false, ↓reduceIte, Int.toNat_natCast, Int.reduceEq, Int.reduceNe, Int.reduceLT, Int.reduceLE, Int.reduceToNat, Int.reduceAdd, Int.reduceSub, Int.reduceMul, Int.reduceNeg, Nat.reduceAdd, Nat.reduceMul, Nat.reduceSub, iI_lit, jI_lit, iI_add, iI_sub, iI_mul, iI_neg, jI_add, jI_sub, jI_mul, jI_neg, nI_i, lN_j, iI_le, iI_lt, iI_eq, jI_le, jI_lt, jI_eq, iI_in, iI_cl, iI_j, jI_i, cN, inN, wI_eq, wI_ne, wJ_1, wJ_eq, wJ_ne, wI_2, wJ_3, iI_div, iI_rem, jI_div, jI_rem, true_or, or_true, false_or, or_false, eq_self, Nat.add_zero, c4, c5]
    refine ⟨by omega, fun z => c12_findsFar (e := 2) hly (by decide) (by omega) (hQ2 (Or.inl z)), fun z => ⟨by omega, fun z2 => ⟨by omega, ?_⟩, fun z2 => c12_findsFar (e := 2) hly (by decide) (by omega) (hQ2 (Or.inr (by omega)))⟩⟩
    have e6 : (48 : Int) * ((s : Nat) : Int) + ((n : Int) - 1) = ((48 * s + (n - 1) : Nat) : Int) := by omega
    have a3 := (cA (n - 1) (by omega)).2.2
    simp (disch := omega) only [forall_eq, true_and, and_true, false_and, and_false, forall_const, true_implies, implies_true, not_true_eq_false, not_false_eq_true, false_implies, if_true, if_false, ↓reduceIte, Int.toNat_natCast, Int.reduceEq, Int.reduceNe, Int.reduceLT, Int.reduceLE, Int.reduceToNat, Int.reduceAdd, Int.reduceSub, Int.reduceMul, Int.reduceNeg, Nat.reduceAdd, Nat.reduceMul, Nat.reduceSub, iI_lit, jI_lit, iI_add, iI_sub, iI_mul, iI_neg, jI_add, jI_sub, jI_mul, jI_neg, nI_i, lN_j, iI_le, iI_lt, iI_eq, jI_le, jI_lt, jI_eq, iI_in, iI_cl, iI_j, jI_i, cN, inN, wI_eq, wI_ne, wJ_1, wJ_eq, wJ_ne, wI_2, wJ_3, iI_div, iI_rem, jI_div, jI_rem, true_or, or_true, false_or, or_false, eq_self, Nat.add_zero, e6, a3]
    have hb1 := (hA (n - 1)).1
    have hb2 := (hA (n - 1)).2.1
    refine ⟨by omega, c12_isBig (by omega) hb1 hb2 ?_⟩
    by_cases hb : 1000000000000000000 < (A (n - 1)).natAbs
    · rw [if_pos hb]
      simp (disch := omega) only [forall_eq, true_and, and_true, false_and, and_false, forall_const, true_implies, implies_true, not_true_eq_false, not_false_eq_true, false_implies, if_true, if_false, ↓reduceIte, Int.toNat_natCast, Int.reduceEq, Int.reduceNe, Int.reduceLT, Int.reduceLE, Int.reduceToNat, Int.reduceAdd, Int.reduceSub, Int.reduceMul, Int.reduceNeg, Nat.reduceAdd, Nat.reduceMul, Nat.reduceSub, iI_lit, jI_lit, iI_add, iI_sub, iI_mul, iI_neg, jI_add, jI_sub, jI_mul, jI_neg, nI_i, lN_j, iI_le, iI_lt, iI_eq, jI_le, jI_lt, jI_eq, iI_in, iI_cl, iI_j, jI_i, cN, inN, wI_eq, wI_ne, wJ_1, wJ_eq, wJ_ne, wI_2, wJ_3, iI_div, iI_rem, jI_div, jI_rem, true_or, or_true, false_or, or_false, eq_self, Nat.add_zero]
      exact c12_findsFar (e := 6) hly (by decide) (by omega) (hQ6 z (by omega) (Or.inl hb))
    · rw [if_neg hb]
      simp (disch := omega) only [forall_eq, true_and, and_true, false_and, and_false, forall_const, true_implies, implies_true, not_true_eq_false, not_false_eq_true, false_implies, if_true, if_false, ↓reduceIte, Int.toNat_natCast, Int.reduceEq, Int.reduceNe, Int.reduceLT, Int.reduceLE, Int.reduceToNat, Int.reduceAdd, Int.reduceSub, Int.reduceMul, Int.reduceNeg, Nat.reduceAdd, Nat.reduceMul, Nat.reduceSub, iI_lit, jI_lit, iI_add, iI_sub, iI_mul, iI_neg, jI_add, jI_sub, jI_mul, jI_neg, nI_i, lN_j, iI_le, iI_lt, iI_eq, jI_le, jI_lt, jI_eq, iI_in, iI_cl, iI_j, jI_i, cN, inN, wI_eq, wI_ne, wJ_1, wJ_eq, wJ_ne, wI_2, wJ_3, iI_div, iI_rem, jI_div, jI_rem, true_or, or_true, false_or, or_false, eq_self, Nat.add_zero, show (n : Int) - 1 - 1 = ((n - 1 : Nat) : Int) - 1 by omega]
      exact c12_value_loop hly hd2 hs hsg hh hw cA (n - 1) _ 1 (by omega) (by omega) (by omega) (fun U V e => hQ z (by omega) hb U V e) (fun e => hQ6 z (by omega) (Or.inr e))
  refine vX11_value_0 hly hd1 (c_isSheet i1 i2 (by omega) ?_)
  simp (disch := omega) only [forall_eq, true_and, and_true, false_and, and_false, forall_const, true_implies, implies_true, not_true_eq_false, not_false_eq_true, false_implies, if_true, if_false, ↓reduceIte, Int.toNat_natCast, Int.reduceEq, Int.reduceNe, Int.reduceLT, Int.reduceLE, Int.reduceToNat, Int.reduceAdd, Int.reduceSub, Int.reduceMul, Int.reduceNeg, Nat.reduceAdd, Nat.reduceMul, Nat.reduceSub, iI_lit, jI_lit, iI_add, iI_sub, iI_mul, iI_neg, jI_add, jI_sub, jI_mul, jI_neg, nI_i, lN_j, iI_le, iI_lt, iI_eq, jI_le, jI_lt, jI_eq, iI_in, iI_cl, iI_j, jI_i, cN, inN, wI_eq, wI_ne, wJ_1, wJ_eq, wJ_ne, wI_2, wJ_3, iI_div, iI_rem, jI_div, jI_rem, true_or, or_true, false_or, or_false, eq_self, Nat.add_zero, hi]
  refine c_isChoice h1 h2 (by omega) ?_
  rw [if_pos hh]
  simp (disch := omega) only [forall_eq, true_and, and_true, false_and, and_false, forall_const, true_implies, implies_true, not_true_eq_false, not_false_eq_true, false_implies, if_true, if_false, ↓reduceIte, Int.toNat_natCast, Int.reduceEq, Int.reduceNe, Int.reduceLT, Int.reduceLE, Int.reduceToNat, Int.reduceAdd, Int.reduceSub, Int.reduceMul, Int.reduceNeg, Nat.reduceAdd, Nat.reduceMul, Nat.reduceSub, iI_lit, jI_lit, iI_add, iI_sub, iI_mul, iI_neg, jI_add, jI_sub, jI_mul, jI_neg, nI_i, lN_j, iI_le, iI_lt, iI_eq, jI_le, jI_lt, jI_eq, iI_in, iI_cl, iI_j, jI_i, cN, inN, wI_eq, wI_ne, wJ_1, wJ_eq, wJ_ne, wI_2, wJ_3, iI_div, iI_rem, jI_div, jI_rem, true_or, or_true, false_or, or_false, eq_self, Nat.add_zero]
  refine c_isChoice w1 w2 (by omega) ?_
  rw [if_pos hw]
  simp (disch := omega) only [forall_eq, true_and, and_true, false_and, and_false, forall_const, true_implies, implies_true, not_true_eq_false, not_false_eq_true, false_implies, if_true, if_false, ↓reduceIte, Int.toNat_natCast, Int.reduceEq, Int.reduceNe, Int.reduceLT, Int.reduceLE, Int.reduceToNat, Int.reduceAdd, Int.reduceSub, Int.reduceMul, Int.reduceNeg, Nat.reduceAdd, Nat.reduceMul, Nat.reduceSub, iI_lit, jI_lit, iI_add, iI_sub, iI_mul, iI_neg, jI_add, jI_sub, jI_mul, jI_neg, nI_i, lN_j, iI_le, iI_lt, iI_eq, jI_le, jI_lt, jI_eq, iI_in, iI_cl, iI_j, jI_i, cN, inN, wI_eq, wI_ne, wJ_1, wJ_eq, wJ_ne, wI_2, wJ_3, iI_div, iI_rem, jI_div, jI_rem, true_or, or_true, false_or, or_false, eq_self, Nat.add_zero]
  have werr : ∀ e, fr (fun a _ => a = 76) m (sm_wI m 76 e (m.1 76 e + 1)) := fun e => fr.rf.wI rfl
  have cbad : (b = 0 ∨ n = 0) → sm_callJ E L mX12_value d2 0 0 [.ref (sm_B E + 109), .int (iI (s : Nat)), .int (iI h), .int (iI w)] (sm_wI m 76 2 (m.1 76 2 + 1)) (fun r2 m2 => jI (-9000000000000000000 - (2 : Nat)) = r2 ∧ Inv c m2) := fun hb => model _ _ (fun a ha => (werr 2).i (by omega)) (fun k => (werr 2).j (by omega)) (fun _ => ⟨rfl, hI.er frw.rf frw.rf⟩) (fun q1 q2 => by omega) (fun q1 q2 => by omega)
  refine ⟨by omega, c_isMissing hT (by omega) g3 (by omega) (by omega) ?_⟩
  by_cases hb : b = 0
  · rw [if_pos hb]
    simp (disch := omega) only [forall_eq, true_and, and_true, false_and, and_false, forall_const, true_implies, implies_true, not_true_eq_false, not_false_eq_true, false_implies, if_true, if_false, ↓reduceIte, Int.toNat_natCast, Int.reduceEq, Int.reduceNe, Int.reduceLT, Int.reduceLE, Int.reduceToNat, Int.reduceAdd, Int.reduceSub, Int.reduceMul, Int.reduceNeg, Nat.reduceAdd, Nat.reduceMul, Nat.reduceSub, iI_lit, jI_lit, iI_add, iI_sub, iI_mul, iI_neg, jI_add, jI_sub, jI_mul, jI_neg, nI_i, lN_j, iI_le, iI_lt, iI_eq, jI_le, jI_lt, jI_eq, iI_in, iI_cl, iI_j, jI_i, cN, inN, wI_eq, wI_ne, wJ_1, wJ_eq, wJ_ne, wI_2, wJ_3, iI_div, iI_rem, jI_div, jI_rem, true_or, or_true, false_or, or_false, eq_self, Nat.add_zero]
    exact c_longError (e := 2) hly (by decide) (by omega) (cbad (Or.inl hb))
  rw [if_neg hb]
  simp (disch := omega) only [forall_eq, true_and, and_true, false_and, and_false, forall_const, true_implies, implies_true, not_true_eq_false, not_false_eq_true, false_implies, if_true, if_false, ↓reduceIte, Int.toNat_natCast, Int.reduceEq, Int.reduceNe, Int.reduceLT, Int.reduceLE, Int.reduceToNat, Int.reduceAdd, Int.reduceSub, Int.reduceMul, Int.reduceNeg, Nat.reduceAdd, Nat.reduceMul, Nat.reduceSub, iI_lit, jI_lit, iI_add, iI_sub, iI_mul, iI_neg, jI_add, jI_sub, jI_mul, jI_neg, nI_i, lN_j, iI_le, iI_lt, iI_eq, jI_le, jI_lt, jI_eq, iI_in, iI_cl, iI_j, jI_i, cN, inN, wI_eq, wI_ne, wJ_1, wJ_eq, wJ_ne, wI_2, wJ_3, iI_div, iI_rem, jI_div, jI_rem, true_or, or_true, false_or, or_false, eq_self, Nat.add_zero, g5]
  refine ⟨fun hn => ?_, fun hn => c_longError (e := 2) hly (by decide) (by omega) (cbad (Or.inr (by omega)))⟩
  have g68 : ∀ vs, gX11_value_68 E L d1 vs (iI w) (101 + 2 * s) (101 + 2 * s) (iI sg) m (fun r m1 => sm_callJ E L mX12_value d2 0 0 [.ref (sm_B E + 109), .int (iI (s : Nat)), .int (iI h), .int (iI w)] m1 (fun r2 m2 => r = r2 ∧ Inv c m2)) := by
    intro vs
    have bad : (1000000000000000000 < (A (n - 1)).natAbs ∨ vgo sg A (n - 1) (A (n - 1)) 1 = none) → sm_callJ E L mX11_longError 1 0 0 [.ref (sm_B E + 0), .int (iI 6)] m (fun r m1 => sm_callJ E L mX12_value d2 0 0 [.ref (sm_B E + 109), .int (iI (s : Nat)), .int (iI h), .int (iI w)] m1 (fun r2 m2 => r = r2 ∧ Inv c m2)) := fun hbad => by
      refine c_longError (e := 6) hly (by decide) (by omega) (model _ _ (fun a ha => (werr 6).i (by omega)) (fun k => (werr 6).j (by omega)) (fun q => by omega) (fun _ _ _ => ⟨rfl, hI.er frw.rf frw.rf⟩) (fun _ _ q1 U V q2 => ?_))
      rcases hbad with q | q
      · exact absurd q q1
      · rw [q] at q2
        cases q2
    refine vX11_value_68 hly hd1 hT hT (vX7_workOut_0 (by omega) hT ?_)
    have e1 : (n : Int) - 1 = ((n - 1 : Nat) : Int) := by omega
    have a3 := (hA (n - 1)).2.2
    rw [show 102 + 2 * s = 101 + 2 * s + 1 by omega] at a3
    have hb1 := (hA (n - 1)).1
    have hb2 := (hA (n - 1)).2.1
    simp (disch := omega) only [forall_eq, true_and, and_true, false_and, and_false, forall_const, true_implies, implies_true, not_true_eq_false, not_false_eq_true, false_implies, if_true, if_false, ↓reduceIte, Int.toNat_natCast, Int.reduceEq, Int.reduceNe, Int.reduceLT, Int.reduceLE, Int.reduceToNat, Int.reduceAdd, Int.reduceSub, Int.reduceMul, Int.reduceNeg, Nat.reduceAdd, Nat.reduceMul, Nat.reduceSub, iI_lit, jI_lit, iI_add, iI_sub, iI_mul, iI_neg, jI_add, jI_sub, jI_mul, jI_neg, nI_i, lN_j, iI_le, iI_lt, iI_eq, jI_le, jI_lt, jI_eq, iI_in, iI_cl, iI_j, jI_i, cN, inN, wI_eq, wI_ne, wJ_1, wJ_eq, wJ_ne, wI_2, wJ_3, iI_div, iI_rem, jI_div, jI_rem, true_or, or_true, false_or, or_false, eq_self, Nat.add_zero, g5, e1, a3]
    refine ⟨fun _ => ⟨by omega, c_isTooBig (by omega) hb1 hb2 (by omega) (by omega) ?_⟩, fun q => by omega⟩
    by_cases hbg : 1000000000000000000 < (A (n - 1)).natAbs
    · rw [if_pos (by omega)]
      simp (disch := omega) only [forall_eq, true_and, and_true, false_and, and_false, forall_const, true_implies, implies_true, not_true_eq_false, not_false_eq_true, false_implies, if_true, if_false, ↓reduceIte, Int.toNat_natCast, Int.reduceEq, Int.reduceNe, Int.reduceLT, Int.reduceLE, Int.reduceToNat, Int.reduceAdd, Int.reduceSub, Int.reduceMul, Int.reduceNeg, Nat.reduceAdd, Nat.reduceMul, Nat.reduceSub, iI_lit, jI_lit, iI_add, iI_sub, iI_mul, iI_neg, jI_add, jI_sub, jI_mul, jI_neg, nI_i, lN_j, iI_le, iI_lt, iI_eq, jI_le, jI_lt, jI_eq, iI_in, iI_cl, iI_j, jI_i, cN, inN, wI_eq, wI_ne, wJ_1, wJ_eq, wJ_ne, wI_2, wJ_3, iI_div, iI_rem, jI_div, jI_rem, true_or, or_true, false_or, or_false, eq_self, Nat.add_zero]
      exact bad (Or.inl hbg)
    · rw [if_neg (by omega)]
      simp (disch := omega) only [forall_eq, true_and, and_true, false_and, and_false, forall_const, true_implies, implies_true, not_true_eq_false, not_false_eq_true, false_implies, if_true, if_false, ↓reduceIte, Int.toNat_natCast, Int.reduceEq, Int.reduceNe, Int.reduceLT, Int.reduceLE, Int.reduceToNat, Int.reduceAdd, Int.reduceSub, Int.reduceMul, Int.reduceNeg, Nat.reduceAdd, Nat.reduceMul, Nat.reduceSub, iI_lit, jI_lit, iI_add, iI_sub, iI_mul, iI_neg, jI_add, jI_sub, jI_mul, jI_neg, nI_i, lN_j, iI_le, iI_lt, iI_eq, jI_le, jI_lt, jI_eq, iI_in, iI_cl, iI_j, jI_i, cN, inN, wI_eq, wI_ne, wJ_1, wJ_eq, wJ_ne, wI_2, wJ_3, iI_div, iI_rem, jI_div, jI_rem, true_or, or_true, false_or, or_false, eq_self, Nat.add_zero, g5, show (n : Int) - 2 = ((n - 1 : Nat) : Int) - 1 by omega]
      refine c_workOut_loop (sg := sg) (A := A) hT (by omega) hsg1 (fun k hk => ⟨(hA k).1, (hA k).2.1, by rw [show 101 + 2 * s + 1 = 102 + 2 * s by omega]; exact (hA k).2.2⟩) (n - 1) _ 1 (by omega) (by omega) (by omega) (fun U V e => ?_) (fun e => ?_)
      · simp (disch := omega) only [forall_eq, true_and, and_true, false_and, and_false, forall_const, true_implies, implies_true, not_true_eq_false, not_false_eq_true, false_implies, if_true, if_false, ↓reduceIte, Int.toNat_natCast, Int.reduceEq, Int.reduceNe, Int.reduceLT, Int.reduceLE, Int.reduceToNat, Int.reduceAdd, Int.reduceSub, Int.reduceMul, Int.reduceNeg, Nat.reduceAdd, Nat.reduceMul, Nat.reduceSub, iI_lit, jI_lit, iI_add, iI_sub, iI_mul, iI_neg, jI_add, jI_sub, jI_mul, jI_neg, nI_i, lN_j, iI_le, iI_lt, iI_eq, jI_le, jI_lt, jI_eq, iI_in, iI_cl, iI_j, jI_i, cN, inN, wI_eq, wI_ne, wJ_1, wJ_eq, wJ_ne, wI_2, wJ_3, iI_div, iI_rem, jI_div, jI_rem, true_or, or_true, false_or, or_false, eq_self, Nat.add_zero]
        have fw : fr (fun a k => a = 101 + 2 * s ∧ (k = 3 ∨ k = 4)) m (sm_wJ (sm_wJ m (101 + 2 * s) 3 (jI U)) (101 + 2 * s) 4 (jI V)) := (fr.rf.wJ ⟨rfl, Or.inl rfl⟩).wJ ⟨rfl, Or.inr rfl⟩
        have fin : sm_callJ E L mX12_value d2 0 0 [.ref (sm_B E + 109), .int (iI (s : Nat)), .int (iI h), .int (iI w)] (sm_wJ (sm_wJ m (101 + 2 * s) 3 (jI U)) (101 + 2 * s) 4 (jI V)) (fun r2 m2 => jI (if w = 0 then U else V) = r2 ∧ Inv c m2) := by
          refine model _ _ (fun a ha => fw.i (by omega)) (fun k => fw.j (by omega)) (fun q => by omega) (fun _ _ q => ?_) (fun _ _ _ U' V' e' => ⟨?_, hI.sc (fw.w.mono (fun a k h => ?_)) frw.rf⟩)
          · rcases q with q | q
            · exact absurd q hbg
            · rw [e] at q
              cases q
          · rw [e] at e'
            cases e'
            rfl
          · unfold scC; omega
        refine ⟨fun z => ?_, fun z => ?_⟩
        · rw [if_neg z] at fin; exact fin
        · rw [if_pos z] at fin; exact fin
      · simp (disch := omega) only [forall_eq, true_and, and_true, false_and, and_false, forall_const, true_implies, implies_true, not_true_eq_false, not_false_eq_true, false_implies, if_true, if_false, ↓reduceIte, Int.toNat_natCast, Int.reduceEq, Int.reduceNe, Int.reduceLT, Int.reduceLE, Int.reduceToNat, Int.reduceAdd, Int.reduceSub, Int.reduceMul, Int.reduceNeg, Nat.reduceAdd, Nat.reduceMul, Nat.reduceSub, iI_lit, jI_lit, iI_add, iI_sub, iI_mul, iI_neg, jI_add, jI_sub, jI_mul, jI_neg, nI_i, lN_j, iI_le, iI_lt, iI_eq, jI_le, jI_lt, jI_eq, iI_in, iI_cl, iI_j, jI_i, cN, inN, wI_eq, wI_ne, wJ_1, wJ_eq, wJ_ne, wI_2, wJ_3, iI_div, iI_rem, jI_div, jI_rem, true_or, or_true, false_or, or_false, eq_self, Nat.add_zero]
        exact bad (Or.inr e)
  refine ⟨fun z => ?_, fun z => ?_⟩
  · rw [hsg, if_neg z] at g68; exact g68 _
  · rw [hsg, if_pos z] at g68; exact g68 _
end VAL
