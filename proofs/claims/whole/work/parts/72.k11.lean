/-! least: the call -/
section K11
variable {E : sm_E} {L : sm_S → Prop} {d d1 d2 : Nat} {m : sm_M} {c : Nat}
theorem exr_hi {g : Int × Int} : ∀ (l k : Nat) (s : Int × Int) (c : Int), k + l ≤ 8 → 1 ≤ c → c + 1 ≤ 2 * 10 ^ k → exr g l s c ≤ 2000000000 ∧ -1 ≤ exr g l s c := by
  intro l
  induction l with
  | zero =>
    intro k s c h1 h2 h3
    have : (10 : Nat) ^ k ≤ 10 ^ 8 := Nat.pow_le_pow_right (by decide) (by omega)
    have h2' : ((10 ^ k : Nat) : Int) = (10 : Int) ^ k := by simp
    have h3' : (10 : Nat) ^ 8 = 100000000 := by decide
    rw [exr]
    split <;> omega
  | succ l ih2 =>
    intro k s c h1 h2 h3
    have hp : (10 : Int) ^ (k + 1) = 10 * 10 ^ k := by rw [Int.pow_succ, Int.mul_comm]
    have q0 := ih2 (k + 1) (lSt s 0) (c * 10 + 0) (by omega) (by omega) (by omega)
    have q1 := ih2 (k + 1) (lSt s 1) (c * 10 + 1) (by omega) (by omega) (by omega)
    have q2 := ih2 (k + 1) (lSt s 2) (c * 10 + 2) (by omega) (by omega) (by omega)
    rw [exr]
    split
    · exact q0
    · split
      · exact q1
      · exact q2
/-- the class's loop -/
theorem c_least_loop {Q : Int32 → sm_M → Prop} {vs : List Value} {g s : Int × Int} {n a5 a6 n5 n6 : Nat} {w : Int} (hly : ∀ S, L S → ly S) (hd : 62 ≤ d) (hT5 : sm_tan L a5 n5) (hT6 : sm_tan L a6 n6) (hn : n ≤ 8) (w1 : -2147483648 ≤ w) (w2 : w ≤ 2147483647)
    (e1 : m.1 a5 9 = iI s.1) (e2 : m.1 a5 10 = iI s.2) (e3 : m.1 a6 9 = iI g.1) (e4 : m.1 a6 10 = iI g.2)
    (hg : (g.1.natAbs : Int) ≤ 33554432 ∧ (g.2.natAbs : Int) ≤ 33554432) (hs : nf s) (hB : lB 33554432 0 s)
    (hit : ∀ K, K ≤ n → sol g K s → (∀ j, j < K → ¬ sol g j s) → Q (iI (if w = 0 then (K : Int) else exr g K s 1)) m)
    (miss : (∀ j, j ≤ n → ¬ sol g j s) → sm_callI E L mX11_error 1 0 0 [.ref (sm_B E + 0), .int 2] m Q) : ∀ (r k : Nat), k + r = n + 1 → (∀ j, j < k → ¬ sol g j s) → gX11_least_79 E L d vs (iI (n : Nat)) (iI w) a5 a6 (iI (k : Nat)) m Q := by
  intro r
  induction r with
  | zero =>
    intro k hk hj
    refine vX11_least_79 hly hd hT5 hT6 ⟨fun _ => miss (fun j h => hj j (by omega)), fun z => ?_⟩
    simp (disch := omega) only [forall_eq, true_and, and_true, false_and, and_false, forall_const, true_implies, implies_true, not_true_eq_false, not_false_eq_true, false_implies, if_true, if_false, ↓reduceIte, Int.toNat_natCast, Int.reduceEq, Int.reduceNe, Int.reduceLT, Int.reduceLE, Int.reduceToNat, Int.reduceAdd, Int.reduceSub, Int.reduceMul, Int.reduceNeg, Nat.reduceAdd, Nat.reduceMul, Nat.reduceSub, iI_lit, jI_lit, iI_add, iI_sub, iI_mul, iI_neg, jI_add, jI_sub, jI_mul, jI_neg, nI_i, lN_j, iI_le, iI_lt, iI_eq, jI_le, jI_lt, jI_eq, iI_in, iI_cl, iI_j, jI_i, cN, inN, wI_eq, wI_ne, wJ_1, wJ_eq, wJ_ne, wI_2, wJ_3, iI_div, iI_rem, jI_div, jI_rem, true_or, or_true, false_or, or_false, eq_self, Nat.add_zero] at z
    omega
  | succ r ih =>
    intro k hk hj
    have ek : ((k : Nat) : Int) + 1 = ((k + 1 : Nat) : Int) := by omega
    have hsol := exr_sol (g := g) k s 1 (by decide)
    have hhi := exr_hi (g := g) k 0 s 1 (by omega) (by decide) (by decide)
    refine vX11_least_79 hly hd hT5 hT6 ⟨fun z => ?_, fun _ => vX3_rowOf_0 (by omega) hT5 hT6 (c_min (a := (k : Nat)) (b := 8) (by omega) (by omega) (by omega) (by omega) (by omega) ?_)⟩
    · simp (disch := omega) only [forall_eq, true_and, and_true, false_and, and_false, forall_const, true_implies, implies_true, not_true_eq_false, not_false_eq_true, false_implies, if_true, if_false, ↓reduceIte, Int.toNat_natCast, Int.reduceEq, Int.reduceNe, Int.reduceLT, Int.reduceLE, Int.reduceToNat, Int.reduceAdd, Int.reduceSub, Int.reduceMul, Int.reduceNeg, Nat.reduceAdd, Nat.reduceMul, Nat.reduceSub, iI_lit, jI_lit, iI_add, iI_sub, iI_mul, iI_neg, jI_add, jI_sub, jI_mul, jI_neg, nI_i, lN_j, iI_le, iI_lt, iI_eq, jI_le, jI_lt, jI_eq, iI_in, iI_cl, iI_j, jI_i, cN, inN, wI_eq, wI_ne, wJ_1, wJ_eq, wJ_ne, wI_2, wJ_3, iI_div, iI_rem, jI_div, jI_rem, true_or, or_true, false_or, or_false, eq_self, Nat.add_zero] at z
      omega
    · rw [e1, e2, e3, e4, show min ((k : Nat) : Int) 8 = ((k : Nat) : Int) by omega]
      refine c_path hg k 0 60 s 1 _ (by omega) (by omega) hs hB (by decide) (by decide) (fun h => hj _ (by omega)) (Or.inl rfl) ?_
      by_cases hk2 : sol g k s
      · have h1 := hsol.1.mpr hk2
        have h2 := hit k (by omega) hk2 hj
        simp (disch := omega) only [forall_eq, true_and, and_true, false_and, and_false, forall_const, true_implies, implies_true, not_true_eq_false, not_false_eq_true, false_implies, if_true, if_false, ↓reduceIte, Int.toNat_natCast, Int.reduceEq, Int.reduceNe, Int.reduceLT, Int.reduceLE, Int.reduceToNat, Int.reduceAdd, Int.reduceSub, Int.reduceMul, Int.reduceNeg, Nat.reduceAdd, Nat.reduceMul, Nat.reduceSub, iI_lit, jI_lit, iI_add, iI_sub, iI_mul, iI_neg, jI_add, jI_sub, jI_mul, jI_neg, nI_i, lN_j, iI_le, iI_lt, iI_eq, jI_le, jI_lt, jI_eq, iI_in, iI_cl, iI_j, jI_i, cN, inN, wI_eq, wI_ne, wJ_1, wJ_eq, wJ_ne, wI_2, wJ_3, iI_div, iI_rem, jI_div, jI_rem, true_or, or_true, false_or, or_false, eq_self, Nat.add_zero]
        refine ⟨fun z => by omega, fun _ => ⟨fun z => ?_, fun z => ?_⟩⟩
        · rw [if_neg z] at h2
          exact h2
        · rw [if_pos z] at h2
          exact h2
      · rw [hsol.2 hk2]
        simp (disch := omega) only [forall_eq, true_and, and_true, false_and, and_false, forall_const, true_implies, implies_true, not_true_eq_false, not_false_eq_true, false_implies, if_true, if_false, ↓reduceIte, Int.toNat_natCast, Int.reduceEq, Int.reduceNe, Int.reduceLT, Int.reduceLE, Int.reduceToNat, Int.reduceAdd, Int.reduceSub, Int.reduceMul, Int.reduceNeg, Nat.reduceAdd, Nat.reduceMul, Nat.reduceSub, iI_lit, jI_lit, iI_add, iI_sub, iI_mul, iI_neg, jI_add, jI_sub, jI_mul, jI_neg, nI_i, lN_j, iI_le, iI_lt, iI_eq, jI_le, jI_lt, jI_eq, iI_in, iI_cl, iI_j, jI_i, cN, inN, wI_eq, wI_ne, wJ_1, wJ_eq, wJ_ne, wI_2, wJ_3, iI_div, iI_rem, jI_div, jI_rem, true_or, or_true, false_or, or_false, eq_self, Nat.add_zero, ek]
        exact ih (k + 1) (by omega) (fun j h => by
          rcases Nat.lt_or_eq_of_le (Nat.le_of_lt_succ h) with h1 | h1
          · exact hj j h1
          · rw [h1]; exact hk2)
/-- the model's loop -/
theorem c12_least_loop {Q : Int32 → sm_M → Prop} {vs : List Value} {g s : Int × Int} {n : Nat} {w : Int} (hly : ∀ S, L S → ly S) (hd : 5 ≤ d) (hn : n ≤ 8) (w1 : -2147483648 ≤ w) (w2 : w ≤ 2147483647)
    (e3 : m.2.1 109 29 = jI g.1) (e4 : m.2.1 109 30 = jI g.2)
    (hg : (g.1.natAbs : Int) ≤ 33554432 ∧ (g.2.natAbs : Int) ≤ 33554432) (hB : lB 33554432 0 s)
    (hit : ∀ K, K ≤ n → sol g K s → (∀ j, j < K → ¬ sol g j s) → Q (iI (if w = 0 then (K : Int) else exr g K s 1)) m)
    (miss : (∀ j, j ≤ n → ¬ sol g j s) → sm_callI E L mX12_finds 1 0 0 [.ref (sm_B E + 109), .int 2] m Q) : ∀ (r k : Nat), k + r = n + 1 → (∀ j, j < k → ¬ sol g j s) → gX12_least_86 E L d vs (iI (n : Nat)) (iI w) (jI s.1) (jI s.2) (iI ((3 ^ k : Nat) : Int)) (iI (k : Nat)) m Q := by
  intro r
  induction r with
  | zero =>
    intro k hk hj
    refine vX12_least_86 hly hd ⟨fun _ => miss (fun j h => hj j (by omega)), fun z => ?_⟩
    simp (disch := omega) only [forall_eq, true_and, and_true, false_and, and_false, forall_const, true_implies, implies_true, not_true_eq_false, not_false_eq_true, false_implies, if_true, if_false, ↓reduceIte, Int.toNat_natCast, Int.reduceEq, Int.reduceNe, Int.reduceLT, Int.reduceLE, Int.reduceToNat, Int.reduceAdd, Int.reduceSub, Int.reduceMul, Int.reduceNeg, Nat.reduceAdd, Nat.reduceMul, Nat.reduceSub, iI_lit, jI_lit, iI_add, iI_sub, iI_mul, iI_neg, jI_add, jI_sub, jI_mul, jI_neg, nI_i, lN_j, iI_le, iI_lt, iI_eq, jI_le, jI_lt, jI_eq, iI_in, iI_cl, iI_j, jI_i, cN, inN, wI_eq, wI_ne, wJ_1, wJ_eq, wJ_ne, wI_2, wJ_3, iI_div, iI_rem, jI_div, jI_rem, true_or, or_true, false_or, or_false, eq_self, Nat.add_zero] at z
    omega
  | succ r ih =>
    intro k hk hj
    have ek : ((k : Nat) : Int) + 1 = ((k + 1 : Nat) : Int) := by omega
    have hp8 := pow3 k (by omega)
    have hpos : 0 < 3 ^ k := Nat.pow_pos (by decide)
    have e3k : ((3 ^ k : Nat) : Int) * 3 = ((3 ^ (k + 1) : Nat) : Int) := by
      rw [Nat.pow_succ]
      omega
    have hdv : iI ((3 ^ k : Nat) : Int) / 3 = iI ((3 ^ k / 3 : Nat) : Int) := by
      rw [iI_lit, iI_div (by omega) (by omega) (by omega) (by omega)]
      congr 1
    refine vX12_least_86 hly hd ⟨fun z => ?_, fun _ => ?_⟩
    · simp (disch := omega) only [forall_eq, true_and, and_true, false_and, and_false, forall_const, true_implies, implies_true, not_true_eq_false, not_false_eq_true, false_implies, if_true, if_false, ↓reduceIte, Int.toNat_natCast, Int.reduceEq, Int.reduceNe, Int.reduceLT, Int.reduceLE, Int.reduceToNat, Int.reduceAdd, Int.reduceSub, Int.reduceMul, Int.reduceNeg, Nat.reduceAdd, Nat.reduceMul, Nat.reduceSub, iI_lit, jI_lit, iI_add, iI_sub, iI_mul, iI_neg, jI_add, jI_sub, jI_mul, jI_neg, nI_i, lN_j, iI_le, iI_lt, iI_eq, jI_le, jI_lt, jI_eq, iI_in, iI_cl, iI_j, jI_i, cN, inN, wI_eq, wI_ne, wJ_1, wJ_eq, wJ_ne, wI_2, wJ_3, iI_div, iI_rem, jI_div, jI_rem, true_or, or_true, false_or, or_false, eq_self, Nat.add_zero] at z
      omega
    -- the rows of k moves
    have lp : ∀ (R row : Nat), row + R = 3 ^ k → (∀ x, x < row → rn x k s ≠ g) → gX12_least_95 E L d vs (iI (n : Nat)) (iI w) (jI s.1) (jI s.2) (iI ((3 ^ k : Nat) : Int)) (iI (k : Nat)) (iI (row : Nat)) m Q := by
      intro R
      induction R with
      | zero =>
        intro row hrow hx
        have hns : ¬ sol g k s := fun q => by
          obtain ⟨R, r1, r2, -, -⟩ := exr_row (g := g) k s 1 (by decide) q
          exact hx R (by omega) r2
        refine vX12_least_95 hly hd ⟨fun _ => ?_, fun z => ?_⟩
        · intro x9 e9 x10 e10
          rw [iI_lit, iI_mul, e3k] at e9
          rw [iI_lit, iI_add, ek] at e10
          subst e9
          subst e10
          exact ih (k + 1) (by omega) (fun j h => by
            rcases Nat.lt_or_eq_of_le (Nat.le_of_lt_succ h) with h1 | h1
            · exact hj j h1
            · rw [h1]; exact hns)
        · rw [show row = 3 ^ k by omega] at z
          exact absurd (Int32.le_refl _) z
      | succ R ih2 =>
        intro row hrow hx
        have er : ((row : Nat) : Int) + 1 = ((row + 1 : Nat) : Int) := by omega
        refine vX12_least_95 hly hd ⟨fun z => ?_, fun _ => ?_⟩
        · simp (disch := omega) only [forall_eq, true_and, and_true, false_and, and_false, forall_const, true_implies, implies_true, not_true_eq_false, not_false_eq_true, false_implies, if_true, if_false, ↓reduceIte, Int.toNat_natCast, Int.reduceEq, Int.reduceNe, Int.reduceLT, Int.reduceLE, Int.reduceToNat, Int.reduceAdd, Int.reduceSub, Int.reduceMul, Int.reduceNeg, Nat.reduceAdd, Nat.reduceMul, Nat.reduceSub, iI_lit, jI_lit, iI_add, iI_sub, iI_mul, iI_neg, jI_add, jI_sub, jI_mul, jI_neg, nI_i, lN_j, iI_le, iI_lt, iI_eq, jI_le, jI_lt, jI_eq, iI_in, iI_cl, iI_j, jI_i, cN, inN, wI_eq, wI_ne, wJ_1, wJ_eq, wJ_ne, wI_2, wJ_3, iI_div, iI_rem, jI_div, jI_rem, true_or, or_true, false_or, or_false, eq_self, Nat.add_zero] at z
          omega
        rw [e3, e4, hdv]
        refine vX12_leads_0 (by omega) ?_
        refine c12_leads (K := k) hg (by omega) (by omega) (by omega) k 0 s (by omega) hB ?_
        by_cases hh : rn row k s = g
        · rw [if_pos hh]
          have hs := rn_sol _ _ hh
          have h2 := hit k (by omega) hs hj
          refine ⟨fun z => absurd z (by decide), fun _ => ⟨fun z => ?_, fun z => ?_⟩⟩
          · rw [if_neg (fun q => z (by rw [q]; rfl))] at h2
            obtain ⟨R', r1, r2, r3, r4⟩ := exr_row (g := g) k s 1 (by decide) hs
            have : R' = row := by
              rcases Nat.lt_trichotomy R' row with h | h | h
              · exact absurd r2 (hx R' h)
              · exact h
              · exact absurd hh (r3 row h)
            rw [r4, this] at h2
            refine vX12_asDigits_0 (by omega) ?_
            exact c12_asDigits (K := k) (by omega) (by omega) (by omega) k 0 1 (by omega) (by decide) (by decide) h2
          · simp (disch := omega) only [forall_eq, true_and, and_true, false_and, and_false, forall_const, true_implies, implies_true, not_true_eq_false, not_false_eq_true, false_implies, if_true, if_false, ↓reduceIte, Int.toNat_natCast, Int.reduceEq, Int.reduceNe, Int.reduceLT, Int.reduceLE, Int.reduceToNat, Int.reduceAdd, Int.reduceSub, Int.reduceMul, Int.reduceNeg, Nat.reduceAdd, Nat.reduceMul, Nat.reduceSub, iI_lit, jI_lit, iI_add, iI_sub, iI_mul, iI_neg, jI_add, jI_sub, jI_mul, jI_neg, nI_i, lN_j, iI_le, iI_lt, iI_eq, jI_le, jI_lt, jI_eq, iI_in, iI_cl, iI_j, jI_i, cN, inN, wI_eq, wI_ne, wJ_1, wJ_eq, wJ_ne, wI_2, wJ_3, iI_div, iI_rem, jI_div, jI_rem, true_or, or_true, false_or, or_false, eq_self, Nat.add_zero] at z
            rw [if_pos z] at h2
            exact h2
        · rw [if_neg hh]
          refine ⟨fun _ x11 e11 => ?_, fun z => absurd rfl z⟩
          rw [iI_lit, iI_add, er] at e11
          subst e11
          exact ih2 (row + 1) (by omega) (fun x h => by
            rcases Nat.lt_or_eq_of_le (Nat.le_of_lt_succ h) with h1 | h1
            · exact hx x h1
            · rw [h1]; exact hh)
    exact lp (3 ^ k) 0 (by omega) (fun x hx => absurd hx (Nat.not_lt_zero _))
theorem k_least {x1 x2 x3 x4 : Int32} (hly : ∀ S, L S → ly S) (hd1 : 62 ≤ d1) (hd2 : 5 ≤ d2) (hI : Inv c m) : sm_callI E L mX11_least d1 0 0 [.ref (sm_B E + 0), .int x1, .int x2, .int x3, .int x4] m (fun r m1 => sm_callI E L mX12_least d2 0 0 [.ref (sm_B E + 109), .int x1, .int x2, .int x3, .int x4] m1 (fun r2 m2 => r = r2 ∧ Inv c m2)) := by
  obtain ⟨i, i1, i2, rfl⟩ := iI_ex x1
  obtain ⟨o, o1, o2, rfl⟩ := iI_ex x2
  obtain ⟨n, n1, n2, rfl⟩ := iI_ex x3
  obtain ⟨w, w1, w2, rfl⟩ := iI_ex x4
  by_cases hi : 0 ≤ i ∧ i < 6
  rotate_left
  · refine vX11_least_0 hly hd1 (c_isSlot i1 i2 (by omega) ?_)
    simp (disch := omega) only [forall_eq, true_and, and_true, false_and, and_false, forall_const, true_implies, implies_true, not_true_eq_false, not_false_eq_true, false_implies, if_true, if_false, ↓reduceIte, Int.toNat_natCast, Int.reduceEq, Int.reduceNe, Int.reduceLT, Int.reduceLE, Int.reduceToNat, Int.reduceAdd, Int.reduceSub, Int.reduceMul, Int.reduceNeg, Nat.reduceAdd, Nat.reduceMul, Nat.reduceSub, iI_lit, jI_lit, iI_add, iI_sub, iI_mul, iI_neg, jI_add, jI_sub, jI_mul, jI_neg, nI_i, lN_j, iI_le, iI_lt, iI_eq, jI_le, jI_lt, jI_eq, iI_in, iI_cl, iI_j, jI_i, cN, inN, wI_eq, wI_ne, wJ_1, wJ_eq, wJ_ne, wI_2, wJ_3, iI_div, iI_rem, jI_div, jI_rem, true_or, or_true, false_or, or_false, eq_self, Nat.add_zero, hi]
    refine c_error (e := 1) hly (by decide) (by omega) (vX12_least_0 hly hd2 (c12_isSlot i1 i2 (by omega) ?_))
    simp (disch := omega) only [forall_eq, true_and, and_true, false_and, and_false, forall_const, true_implies, implies_true, not_true_eq_false, not_false_eq_true, false_implies, if_true, if_false, ↓reduceIte, Int.toNat_natCast, Int.reduceEq, Int.reduceNe, Int.reduceLT, Int.reduceLE, Int.reduceToNat, Int.reduceAdd, Int.reduceSub, Int.reduceMul, Int.reduceNeg, Nat.reduceAdd, Nat.reduceMul, Nat.reduceSub, iI_lit, jI_lit, iI_add, iI_sub, iI_mul, iI_neg, jI_add, jI_sub, jI_mul, jI_neg, nI_i, lN_j, iI_le, iI_lt, iI_eq, jI_le, jI_lt, jI_eq, iI_in, iI_cl, iI_j, jI_i, cN, inN, wI_eq, wI_ne, wJ_1, wJ_eq, wJ_ne, wI_2, wJ_3, iI_div, iI_rem, jI_div, jI_rem, true_or, or_true, false_or, or_false, eq_self, Nat.add_zero, hi]
    exact c12_finds (e := 1) hly (by decide) (by omega) ⟨rfl, hI.er frw.rf frw.rf⟩
  by_cases ho : 0 ≤ o ∧ o < 6
  rotate_left
  · refine vX11_least_0 hly hd1 (c_isSlot i1 i2 (by omega) ?_)
    simp (disch := omega) only [forall_eq, true_and, and_true, false_and, and_false, forall_const, true_implies, implies_true, not_true_eq_false, not_false_eq_true, false_implies, if_true, if_false, ↓reduceIte, Int.toNat_natCast, Int.reduceEq, Int.reduceNe, Int.reduceLT, Int.reduceLE, Int.reduceToNat, Int.reduceAdd, Int.reduceSub, Int.reduceMul, Int.reduceNeg, Nat.reduceAdd, Nat.reduceMul, Nat.reduceSub, iI_lit, jI_lit, iI_add, iI_sub, iI_mul, iI_neg, jI_add, jI_sub, jI_mul, jI_neg, nI_i, lN_j, iI_le, iI_lt, iI_eq, jI_le, jI_lt, jI_eq, iI_in, iI_cl, iI_j, jI_i, cN, inN, wI_eq, wI_ne, wJ_1, wJ_eq, wJ_ne, wI_2, wJ_3, iI_div, iI_rem, jI_div, jI_rem, true_or, or_true, false_or, or_false, eq_self, Nat.add_zero, hi]
    refine c_isSlot o1 o2 (by omega) ?_
    simp (disch := omega) only [forall_eq, true_and, and_true, false_and, and_false, forall_const, true_implies, implies_true, not_true_eq_false, not_false_eq_true, false_implies, if_true, if_false, ↓reduceIte, Int.toNat_natCast, Int.reduceEq, Int.reduceNe, Int.reduceLT, Int.reduceLE, Int.reduceToNat, Int.reduceAdd, Int.reduceSub, Int.reduceMul, Int.reduceNeg, Nat.reduceAdd, Nat.reduceMul, Nat.reduceSub, iI_lit, jI_lit, iI_add, iI_sub, iI_mul, iI_neg, jI_add, jI_sub, jI_mul, jI_neg, nI_i, lN_j, iI_le, iI_lt, iI_eq, jI_le, jI_lt, jI_eq, iI_in, iI_cl, iI_j, jI_i, cN, inN, wI_eq, wI_ne, wJ_1, wJ_eq, wJ_ne, wI_2, wJ_3, iI_div, iI_rem, jI_div, jI_rem, true_or, or_true, false_or, or_false, eq_self, Nat.add_zero, ho]
    refine c_error (e := 1) hly (by decide) (by omega) (vX12_least_0 hly hd2 (c12_isSlot i1 i2 (by omega) ?_))
    simp (disch := omega) only [forall_eq, true_and, and_true, false_and, and_false, forall_const, true_implies, implies_true, not_true_eq_false, not_false_eq_true, false_implies, if_true, if_false, ↓reduceIte, Int.toNat_natCast, Int.reduceEq, Int.reduceNe, Int.reduceLT, Int.reduceLE, Int.reduceToNat, Int.reduceAdd, Int.reduceSub, Int.reduceMul, Int.reduceNeg, Nat.reduceAdd, Nat.reduceMul, Nat.reduceSub, iI_lit, jI_lit, iI_add, iI_sub, iI_mul, iI_neg, jI_add, jI_sub, jI_mul, jI_neg, nI_i, lN_j, iI_le, iI_lt, iI_eq, jI_le, jI_lt, jI_eq, iI_in, iI_cl, iI_j, jI_i, cN, inN, wI_eq, wI_ne, wJ_1, wJ_eq, wJ_ne, wI_2, wJ_3, iI_div, iI_rem, jI_div, jI_rem, true_or, or_true, false_or, or_false, eq_self, Nat.add_zero, hi]
    refine c12_isSlot o1 o2 (by omega) ?_
    simp (disch := omega) only [forall_eq, true_and, and_true, false_and, and_false, forall_const, true_implies, implies_true, not_true_eq_false, not_false_eq_true, false_implies, if_true, if_false, ↓reduceIte, Int.toNat_natCast, Int.reduceEq, Int.reduceNe, Int.reduceLT, Int.reduceLE, Int.reduceToNat, Int.reduceAdd, Int.reduceSub, Int.reduceMul, Int.reduceNeg, Nat.reduceAdd, Nat.reduceMul, Nat.reduceSub, iI_lit, jI_lit, iI_add, iI_sub, iI_mul, iI_neg, jI_add, jI_sub, jI_mul, jI_neg, nI_i, lN_j, iI_le, iI_lt, iI_eq, jI_le, jI_lt, jI_eq, iI_in, iI_cl, iI_j, jI_i, cN, inN, wI_eq, wI_ne, wJ_1, wJ_eq, wJ_ne, wI_2, wJ_3, iI_div, iI_rem, jI_div, jI_rem, true_or, or_true, false_or, or_false, eq_self, Nat.add_zero, ho]
    exact c12_finds (e := 1) hly (by decide) (by omega) ⟨rfl, hI.er frw.rf frw.rf⟩
  by_cases hn : 0 ≤ n ∧ n ≤ 8
  rotate_left
  · refine vX11_least_0 hly hd1 (c_isSlot i1 i2 (by omega) ?_)
    simp (disch := omega) only [forall_eq, true_and, and_true, false_and, and_false, forall_const, true_implies, implies_true, not_true_eq_false, not_false_eq_true, false_implies, if_true, if_false, ↓reduceIte, Int.toNat_natCast, Int.reduceEq, Int.reduceNe, Int.reduceLT, Int.reduceLE, Int.reduceToNat, Int.reduceAdd, Int.reduceSub, Int.reduceMul, Int.reduceNeg, Nat.reduceAdd, Nat.reduceMul, Nat.reduceSub, iI_lit, jI_lit, iI_add, iI_sub, iI_mul, iI_neg, jI_add, jI_sub, jI_mul, jI_neg, nI_i, lN_j, iI_le, iI_lt, iI_eq, jI_le, jI_lt, jI_eq, iI_in, iI_cl, iI_j, jI_i, cN, inN, wI_eq, wI_ne, wJ_1, wJ_eq, wJ_ne, wI_2, wJ_3, iI_div, iI_rem, jI_div, jI_rem, true_or, or_true, false_or, or_false, eq_self, Nat.add_zero, hi]
    refine c_isSlot o1 o2 (by omega) ?_
    simp (disch := omega) only [forall_eq, true_and, and_true, false_and, and_false, forall_const, true_implies, implies_true, not_true_eq_false, not_false_eq_true, false_implies, if_true, if_false, ↓reduceIte, Int.toNat_natCast, Int.reduceEq, Int.reduceNe, Int.reduceLT, Int.reduceLE, Int.reduceToNat, Int.reduceAdd, Int.reduceSub, Int.reduceMul, Int.reduceNeg, Nat.reduceAdd, Nat.reduceMul, Nat.reduceSub, iI_lit, jI_lit, iI_add, iI_sub, iI_mul, iI_neg, jI_add, jI_sub, jI_mul, jI_neg, nI_i, lN_j, iI_le, iI_lt, iI_eq, jI_le, jI_lt, jI_eq, iI_in, iI_cl, iI_j, jI_i, cN, inN, wI_eq, wI_ne, wJ_1, wJ_eq, wJ_ne, wI_2, wJ_3, iI_div, iI_rem, jI_div, jI_rem, true_or, or_true, false_or, or_false, eq_self, Nat.add_zero, ho]
    have fin : sm_callI E L mX11_error 1 0 0 [.ref (sm_B E + 0), .int 1] m (fun r m1 => sm_callI E L mX12_least d2 0 0 [.ref (sm_B E + 109), .int (iI i), .int (iI o), .int (iI n), .int (iI w)] m1 (fun r2 m2 => r = r2 ∧ Inv c m2)) := by
      refine c_error (e := 1) hly (by decide) (by omega) (vX12_least_0 hly hd2 (c12_isSlot i1 i2 (by omega) ?_))
      simp (disch := omega) only [forall_eq, true_and, and_true, false_and, and_false, forall_const, true_implies, implies_true, not_true_eq_false, not_false_eq_true, false_implies, if_true, if_false, ↓reduceIte, Int.toNat_natCast, Int.reduceEq, Int.reduceNe, Int.reduceLT, Int.reduceLE, Int.reduceToNat, Int.reduceAdd, Int.reduceSub, Int.reduceMul, Int.reduceNeg, Nat.reduceAdd, Nat.reduceMul, Nat.reduceSub, iI_lit, jI_lit, iI_add, iI_sub, iI_mul, iI_neg, jI_add, jI_sub, jI_mul, jI_neg, nI_i, lN_j, iI_le, iI_lt, iI_eq, jI_le, jI_lt, jI_eq, iI_in, iI_cl, iI_j, jI_i, cN, inN, wI_eq, wI_ne, wJ_1, wJ_eq, wJ_ne, wI_2, wJ_3, iI_div, iI_rem, jI_div, jI_rem, true_or, or_true, false_or, or_false, eq_self, Nat.add_zero, hi]
      refine c12_isSlot o1 o2 (by omega) ?_
      simp (disch := omega) only [forall_eq, true_and, and_true, false_and, and_false, forall_const, true_implies, implies_true, not_true_eq_false, not_false_eq_true, false_implies, if_true, if_false, ↓reduceIte, Int.toNat_natCast, Int.reduceEq, Int.reduceNe, Int.reduceLT, Int.reduceLE, Int.reduceToNat, Int.reduceAdd, Int.reduceSub, Int.reduceMul, Int.reduceNeg, Nat.reduceAdd, Nat.reduceMul, Nat.reduceSub, iI_lit, jI_lit, iI_add, iI_sub, iI_mul, iI_neg, jI_add, jI_sub, jI_mul, jI_neg, nI_i, lN_j, iI_le, iI_lt, iI_eq, jI_le, jI_lt, jI_eq, iI_in, iI_cl, iI_j, jI_i, cN, inN, wI_eq, wI_ne, wJ_1, wJ_eq, wJ_ne, wI_2, wJ_3, iI_div, iI_rem, jI_div, jI_rem, true_or, or_true, false_or, or_false, eq_self, Nat.add_zero, ho]
      refine c12_isIn (by omega) (by omega) (by omega) (by omega) (by omega) (by omega) (by omega) ?_
      rw [if_neg hn]
      exact ⟨fun _ => c12_finds (e := 1) hly (by decide) (by omega) ⟨rfl, hI.er frw.rf frw.rf⟩, fun z => absurd rfl z⟩
    exact ⟨fun _ => fin, fun _ => ⟨fun _ => fin, fun _ => by omega⟩⟩
  by_cases hw : w = 0 ∨ w = 1
  rotate_left
  · refine vX11_least_0 hly hd1 (c_isSlot i1 i2 (by omega) ?_)
    simp (disch := omega) only [forall_eq, true_and, and_true, false_and, and_false, forall_const, true_implies, implies_true, not_true_eq_false, not_false_eq_true, false_implies, if_true, if_false, ↓reduceIte, Int.toNat_natCast, Int.reduceEq, Int.reduceNe, Int.reduceLT, Int.reduceLE, Int.reduceToNat, Int.reduceAdd, Int.reduceSub, Int.reduceMul, Int.reduceNeg, Nat.reduceAdd, Nat.reduceMul, Nat.reduceSub, iI_lit, jI_lit, iI_add, iI_sub, iI_mul, iI_neg, jI_add, jI_sub, jI_mul, jI_neg, nI_i, lN_j, iI_le, iI_lt, iI_eq, jI_le, jI_lt, jI_eq, iI_in, iI_cl, iI_j, jI_i, cN, inN, wI_eq, wI_ne, wJ_1, wJ_eq, wJ_ne, wI_2, wJ_3, iI_div, iI_rem, jI_div, jI_rem, true_or, or_true, false_or, or_false, eq_self, Nat.add_zero, hi]
    refine c_isSlot o1 o2 (by omega) ?_
    simp (disch := omega) only [forall_eq, true_and, and_true, false_and, and_false, forall_const, true_implies, implies_true, not_true_eq_false, not_false_eq_true, false_implies, if_true, if_false, ↓reduceIte, Int.toNat_natCast, Int.reduceEq, Int.reduceNe, Int.reduceLT, Int.reduceLE, Int.reduceToNat, Int.reduceAdd, Int.reduceSub, Int.reduceMul, Int.reduceNeg, Nat.reduceAdd, Nat.reduceMul, Nat.reduceSub, iI_lit, jI_lit, iI_add, iI_sub, iI_mul, iI_neg, jI_add, jI_sub, jI_mul, jI_neg, nI_i, lN_j, iI_le, iI_lt, iI_eq, jI_le, jI_lt, jI_eq, iI_in, iI_cl, iI_j, jI_i, cN, inN, wI_eq, wI_ne, wJ_1, wJ_eq, wJ_ne, wI_2, wJ_3, iI_div, iI_rem, jI_div, jI_rem, true_or, or_true, false_or, or_false, eq_self, Nat.add_zero, ho]
    refine ⟨fun _ => by omega, fun _ => ⟨fun _ => by omega, fun _ => ?_⟩⟩
    refine c_isChoice w1 w2 (by omega) ?_
    rw [if_neg hw]
    simp (disch := omega) only [forall_eq, true_and, and_true, false_and, and_false, forall_const, true_implies, implies_true, not_true_eq_false, not_false_eq_true, false_implies, if_true, if_false, ↓reduceIte, Int.toNat_natCast, Int.reduceEq, Int.reduceNe, Int.reduceLT, Int.reduceLE, Int.reduceToNat, Int.reduceAdd, Int.reduceSub, Int.reduceMul, Int.reduceNeg, Nat.reduceAdd, Nat.reduceMul, Nat.reduceSub, iI_lit, jI_lit, iI_add, iI_sub, iI_mul, iI_neg, jI_add, jI_sub, jI_mul, jI_neg, nI_i, lN_j, iI_le, iI_lt, iI_eq, jI_le, jI_lt, jI_eq, iI_in, iI_cl, iI_j, jI_i, cN, inN, wI_eq, wI_ne, wJ_1, wJ_eq, wJ_ne, wI_2, wJ_3, iI_div, iI_rem, jI_div, jI_rem, true_or, or_true, false_or, or_false, eq_self, Nat.add_zero]
    refine c_error (e := 1) hly (by decide) (by omega) (vX12_least_0 hly hd2 (c12_isSlot i1 i2 (by omega) ?_))
    simp (disch := omega) only [forall_eq, true_and, and_true, false_and, and_false, forall_const, true_implies, implies_true, not_true_eq_false, not_false_eq_true, false_implies, if_true, if_false, ↓reduceIte, Int.toNat_natCast, Int.reduceEq, Int.reduceNe, Int.reduceLT, Int.reduceLE, Int.reduceToNat, Int.reduceAdd, Int.reduceSub, Int.reduceMul, Int.reduceNeg, Nat.reduceAdd, Nat.reduceMul, Nat.reduceSub, iI_lit, jI_lit, iI_add, iI_sub, iI_mul, iI_neg, jI_add, jI_sub, jI_mul, jI_neg, nI_i, lN_j, iI_le, iI_lt, iI_eq, jI_le, jI_lt, jI_eq, iI_in, iI_cl, iI_j, jI_i, cN, inN, wI_eq, wI_ne, wJ_1, wJ_eq, wJ_ne, wI_2, wJ_3, iI_div, iI_rem, jI_div, jI_rem, true_or, or_true, false_or, or_false, eq_self, Nat.add_zero, hi]
    refine c12_isSlot o1 o2 (by omega) ?_
    simp (disch := omega) only [forall_eq, true_and, and_true, false_and, and_false, forall_const, true_implies, implies_true, not_true_eq_false, not_false_eq_true, false_implies, if_true, if_false, ↓reduceIte, Int.toNat_natCast, Int.reduceEq, Int.reduceNe, Int.reduceLT, Int.reduceLE, Int.reduceToNat, Int.reduceAdd, Int.reduceSub, Int.reduceMul, Int.reduceNeg, Nat.reduceAdd, Nat.reduceMul, Nat.reduceSub, iI_lit, jI_lit, iI_add, iI_sub, iI_mul, iI_neg, jI_add, jI_sub, jI_mul, jI_neg, nI_i, lN_j, iI_le, iI_lt, iI_eq, jI_le, jI_lt, jI_eq, iI_in, iI_cl, iI_j, jI_i, cN, inN, wI_eq, wI_ne, wJ_1, wJ_eq, wJ_ne, wI_2, wJ_3, iI_div, iI_rem, jI_div, jI_rem, true_or, or_true, false_or, or_false, eq_self, Nat.add_zero, ho]
    refine c12_isIn (by omega) (by omega) (by omega) (by omega) (by omega) (by omega) (by omega) ?_
    rw [if_pos hn]
    refine ⟨fun z => absurd z (by decide), fun _ => c12_isPart w1 w2 (by omega) ?_⟩
    rw [if_neg hw]
    simp (disch := omega) only [forall_eq, true_and, and_true, false_and, and_false, forall_const, true_implies, implies_true, not_true_eq_false, not_false_eq_true, false_implies, if_true, if_false, ↓reduceIte, Int.toNat_natCast, Int.reduceEq, Int.reduceNe, Int.reduceLT, Int.reduceLE, Int.reduceToNat, Int.reduceAdd, Int.reduceSub, Int.reduceMul, Int.reduceNeg, Nat.reduceAdd, Nat.reduceMul, Nat.reduceSub, iI_lit, jI_lit, iI_add, iI_sub, iI_mul, iI_neg, jI_add, jI_sub, jI_mul, jI_neg, nI_i, lN_j, iI_le, iI_lt, iI_eq, jI_le, jI_lt, jI_eq, iI_in, iI_cl, iI_j, jI_i, cN, inN, wI_eq, wI_ne, wJ_1, wJ_eq, wJ_ne, wI_2, wJ_3, iI_div, iI_rem, jI_div, jI_rem, true_or, or_true, false_or, or_false, eq_self, Nat.add_zero]
    exact c12_finds (e := 1) hly (by decide) (by omega) ⟨rfl, hI.er frw.rf frw.rf⟩
  obtain ⟨j, rfl⟩ : ∃ j : Nat, i = (j : Int) := ⟨i.toNat, by omega⟩
  obtain ⟨j2, rfl⟩ : ∃ j : Nat, o = (j : Int) := ⟨o.toNat, by omega⟩
  obtain ⟨k, rfl⟩ : ∃ j : Nat, n = (j : Int) := ⟨n.toNat, by omega⟩
  have hj : j < 6 := by omega
  have hj2 : j2 < 6 := by omega
  obtain ⟨t, nt, hv, hg, hh⟩ := hI.2.1.1 j hj
  obtain ⟨t2, nt2, hv2, hg2, hh2⟩ := hI.2.1.1 j2 hj2
  have hT := ly_slotT hly hj
  have hT2 := ly_slotT hly hj2
  have hbd := hv.bd
  have hbd2 := hv2.bd
  have model : ∀ (m1 : sm_M) (Q : Int32 → sm_M → Prop), hl m1 j t nt → hl m1 j2 t2 nt2 → ((Int.gcd (Tt t nt) (Tb t nt) = 0 ∨ Int.gcd (Tt t2 nt2) (Tb t2 nt2) = 0) → ∀ m2, frw scM m1 m2 → Q (iI (-1000000000 - (2 : Nat))) (sm_wI m2 110 2 (m2.1 110 2 + 1))) → (Int.gcd (Tt t nt) (Tb t nt) ≠ 0 → Int.gcd (Tt t2 nt2) (Tb t2 nt2) ≠ 0 → ∀ m2, frw scM m1 m2 → m2.2.1 109 29 = jI (fP (Tt t2 nt2) (Tb t2 nt2)) → m2.2.1 109 30 = jI (fQ (Tt t2 nt2) (Tb t2 nt2)) → gX12_least_86 E L d2 ([.ref (sm_B E + 109), .int (iI (j : Nat)), .int (iI (j2 : Nat)), .int (iI (k : Nat)), .int (iI w)]) (iI (k : Nat)) (iI w) (jI (fP (Tt t nt) (Tb t nt))) (jI (fQ (Tt t nt) (Tb t nt))) (iI ((3 ^ 0 : Nat) : Int)) (iI ((0 : Nat) : Int)) m2 Q) → sm_callI E L mX12_least d2 0 0 [.ref (sm_B E + 109), .int (iI (j : Nat)), .int (iI (j2 : Nat)), .int (iI (k : Nat)), .int (iI w)] m1 Q := by
    intro m1 Q h1 h2 hQ0 hQ1
    refine vX12_least_0 hly hd2 (c12_isSlot i1 i2 (by omega) ?_)
    simp (disch := omega) only [forall_eq, true_and, and_true, false_and, and_false, forall_const, true_implies, implies_true, not_true_eq_false, not_false_eq_true, false_implies, if_true, if_false, ↓reduceIte, Int.toNat_natCast, Int.reduceEq, Int.reduceNe, Int.reduceLT, Int.reduceLE, Int.reduceToNat, Int.reduceAdd, Int.reduceSub, Int.reduceMul, Int.reduceNeg, Nat.reduceAdd, Nat.reduceMul, Nat.reduceSub, iI_lit, jI_lit, iI_add, iI_sub, iI_mul, iI_neg, jI_add, jI_sub, jI_mul, jI_neg, nI_i, lN_j, iI_le, iI_lt, iI_eq, jI_le, jI_lt, jI_eq, iI_in, iI_cl, iI_j, jI_i, cN, inN, wI_eq, wI_ne, wJ_1, wJ_eq, wJ_ne, wI_2, wJ_3, iI_div, iI_rem, jI_div, jI_rem, true_or, or_true, false_or, or_false, eq_self, Nat.add_zero, hi]
    refine c12_isSlot o1 o2 (by omega) ?_
    simp (disch := omega) only [forall_eq, true_and, and_true, false_and, and_false, forall_const, true_implies, implies_true, not_true_eq_false, not_false_eq_true, false_implies, if_true, if_false, ↓reduceIte, Int.toNat_natCast, Int.reduceEq, Int.reduceNe, Int.reduceLT, Int.reduceLE, Int.reduceToNat, Int.reduceAdd, Int.reduceSub, Int.reduceMul, Int.reduceNeg, Nat.reduceAdd, Nat.reduceMul, Nat.reduceSub, iI_lit, jI_lit, iI_add, iI_sub, iI_mul, iI_neg, jI_add, jI_sub, jI_mul, jI_neg, nI_i, lN_j, iI_le, iI_lt, iI_eq, jI_le, jI_lt, jI_eq, iI_in, iI_cl, iI_j, jI_i, cN, inN, wI_eq, wI_ne, wJ_1, wJ_eq, wJ_ne, wI_2, wJ_3, iI_div, iI_rem, jI_div, jI_rem, true_or, or_true, false_or, or_false, eq_self, Nat.add_zero, ho]
    refine c12_isIn (by omega) (by omega) (by omega) (by omega) (by omega) (by omega) (by omega) ?_
    rw [if_pos hn]
    refine ⟨fun z => absurd z (by decide), fun _ => c12_isPart w1 w2 (by omega) ?_⟩
    rw [if_pos hw]
    simp (disch := omega) only [forall_eq, true_and, and_true, false_and, and_false, forall_const, true_implies, implies_true, not_true_eq_false, not_false_eq_true, false_implies, if_true, if_false, ↓reduceIte, Int.toNat_natCast, Int.reduceEq, Int.reduceNe, Int.reduceLT, Int.reduceLE, Int.reduceToNat, Int.reduceAdd, Int.reduceSub, Int.reduceMul, Int.reduceNeg, Nat.reduceAdd, Nat.reduceMul, Nat.reduceSub, iI_lit, jI_lit, iI_add, iI_sub, iI_mul, iI_neg, jI_add, jI_sub, jI_mul, jI_neg, nI_i, lN_j, iI_le, iI_lt, iI_eq, jI_le, jI_lt, jI_eq, iI_in, iI_cl, iI_j, jI_i, cN, inN, wI_eq, wI_ne, wJ_1, wJ_eq, wJ_ne, wI_2, wJ_3, iI_div, iI_rem, jI_div, jI_rem, true_or, or_true, false_or, or_false, eq_self, Nat.add_zero]
    refine c12_fraction hly (by omega) h1 hj hv (fun m2 f2 g2 r2 => ?_)
    have s2 : frw scM m1 m2 := f2.w.mono (fun a k h => frP_sc h)
    by_cases hg0 : Int.gcd (Tt t nt) (Tb t nt) = 0
    · rw [if_pos hg0]
      simp (disch := omega) only [forall_eq, true_and, and_true, false_and, and_false, forall_const, true_implies, implies_true, not_true_eq_false, not_false_eq_true, false_implies, if_true, if_false, ↓reduceIte, Int.toNat_natCast, Int.reduceEq, Int.reduceNe, Int.reduceLT, Int.reduceLE, Int.reduceToNat, Int.reduceAdd, Int.reduceSub, Int.reduceMul, Int.reduceNeg, Nat.reduceAdd, Nat.reduceMul, Nat.reduceSub, iI_lit, jI_lit, iI_add, iI_sub, iI_mul, iI_neg, jI_add, jI_sub, jI_mul, jI_neg, nI_i, lN_j, iI_le, iI_lt, iI_eq, jI_le, jI_lt, jI_eq, iI_in, iI_cl, iI_j, jI_i, cN, inN, wI_eq, wI_ne, wJ_1, wJ_eq, wJ_ne, wI_2, wJ_3, iI_div, iI_rem, jI_div, jI_rem, true_or, or_true, false_or, or_false, eq_self, Nat.add_zero]
      exact c12_finds (e := 2) hly (by decide) (by omega) (hQ0 (Or.inl hg0) m2 s2)
    rw [if_neg hg0]
    obtain ⟨e1, e2⟩ := r2 hg0
    rw [e1, e2]
    simp (disch := omega) only [forall_eq, true_and, and_true, false_and, and_false, forall_const, true_implies, implies_true, not_true_eq_false, not_false_eq_true, false_implies, if_true, if_false, ↓reduceIte, Int.toNat_natCast, Int.reduceEq, Int.reduceNe, Int.reduceLT, Int.reduceLE, Int.reduceToNat, Int.reduceAdd, Int.reduceSub, Int.reduceMul, Int.reduceNeg, Nat.reduceAdd, Nat.reduceMul, Nat.reduceSub, iI_lit, jI_lit, iI_add, iI_sub, iI_mul, iI_neg, jI_add, jI_sub, jI_mul, jI_neg, nI_i, lN_j, iI_le, iI_lt, iI_eq, jI_le, jI_lt, jI_eq, iI_in, iI_cl, iI_j, jI_i, cN, inN, wI_eq, wI_ne, wJ_1, wJ_eq, wJ_ne, wI_2, wJ_3, iI_div, iI_rem, jI_div, jI_rem, true_or, or_true, false_or, or_false, eq_self, Nat.add_zero]
    refine c12_fraction hly (by omega) (h2.frw s2 (by unfold scM; omega) (fun k _ => by unfold scM; omega)) hj2 hv2 (fun m3 f3 g3 r3 => ?_)
    have s3 : frw scM m1 m3 := s2.tr (f3.w.mono (fun a k h => frP_sc h))
    by_cases hg1 : Int.gcd (Tt t2 nt2) (Tb t2 nt2) = 0
    · rw [if_pos hg1]
      simp (disch := omega) only [forall_eq, true_and, and_true, false_and, and_false, forall_const, true_implies, implies_true, not_true_eq_false, not_false_eq_true, false_implies, if_true, if_false, ↓reduceIte, Int.toNat_natCast, Int.reduceEq, Int.reduceNe, Int.reduceLT, Int.reduceLE, Int.reduceToNat, Int.reduceAdd, Int.reduceSub, Int.reduceMul, Int.reduceNeg, Nat.reduceAdd, Nat.reduceMul, Nat.reduceSub, iI_lit, jI_lit, iI_add, iI_sub, iI_mul, iI_neg, jI_add, jI_sub, jI_mul, jI_neg, nI_i, lN_j, iI_le, iI_lt, iI_eq, jI_le, jI_lt, jI_eq, iI_in, iI_cl, iI_j, jI_i, cN, inN, wI_eq, wI_ne, wJ_1, wJ_eq, wJ_ne, wI_2, wJ_3, iI_div, iI_rem, jI_div, jI_rem, true_or, or_true, false_or, or_false, eq_self, Nat.add_zero]
      exact c12_finds (e := 2) hly (by decide) (by omega) (hQ0 (Or.inr hg1) m3 s3)
    rw [if_neg hg1]
    obtain ⟨e3, e4⟩ := r3 hg1
    have h9 := hQ1 hg0 hg1 m3 s3 e3 e4
    simp (disch := omega) only [forall_eq, true_and, and_true, false_and, and_false, forall_const, true_implies, implies_true, not_true_eq_false, not_false_eq_true, false_implies, if_true, if_false, ↓reduceIte, Int.toNat_natCast, Int.reduceEq, Int.reduceNe, Int.reduceLT, Int.reduceLE, Int.reduceToNat, Int.reduceAdd, Int.reduceSub, Int.reduceMul, Int.reduceNeg, Nat.reduceAdd, Nat.reduceMul, Nat.reduceSub, iI_lit, jI_lit, iI_add, iI_sub, iI_mul, iI_neg, jI_add, jI_sub, jI_mul, jI_neg, nI_i, lN_j, iI_le, iI_lt, iI_eq, jI_le, jI_lt, jI_eq, iI_in, iI_cl, iI_j, jI_i, cN, inN, wI_eq, wI_ne, wJ_1, wJ_eq, wJ_ne, wI_2, wJ_3, iI_div, iI_rem, jI_div, jI_rem, true_or, or_true, false_or, or_false, eq_self, Nat.add_zero]
    exact h9
  refine vX11_least_0 hly hd1 (c_isSlot i1 i2 (by omega) ?_)
  simp (disch := omega) only [forall_eq, true_and, and_true, false_and, and_false, forall_const, true_implies, implies_true, not_true_eq_false, not_false_eq_true, false_implies, if_true, if_false, ↓reduceIte, Int.toNat_natCast, Int.reduceEq, Int.reduceNe, Int.reduceLT, Int.reduceLE, Int.reduceToNat, Int.reduceAdd, Int.reduceSub, Int.reduceMul, Int.reduceNeg, Nat.reduceAdd, Nat.reduceMul, Nat.reduceSub, iI_lit, jI_lit, iI_add, iI_sub, iI_mul, iI_neg, jI_add, jI_sub, jI_mul, jI_neg, nI_i, lN_j, iI_le, iI_lt, iI_eq, jI_le, jI_lt, jI_eq, iI_in, iI_cl, iI_j, jI_i, cN, inN, wI_eq, wI_ne, wJ_1, wJ_eq, wJ_ne, wI_2, wJ_3, iI_div, iI_rem, jI_div, jI_rem, true_or, or_true, false_or, or_false, eq_self, Nat.add_zero, hi]
  refine c_isSlot o1 o2 (by omega) ?_
  simp (disch := omega) only [forall_eq, true_and, and_true, false_and, and_false, forall_const, true_implies, implies_true, not_true_eq_false, not_false_eq_true, false_implies, if_true, if_false, ↓reduceIte, Int.toNat_natCast, Int.reduceEq, Int.reduceNe, Int.reduceLT, Int.reduceLE, Int.reduceToNat, Int.reduceAdd, Int.reduceSub, Int.reduceMul, Int.reduceNeg, Nat.reduceAdd, Nat.reduceMul, Nat.reduceSub, iI_lit, jI_lit, iI_add, iI_sub, iI_mul, iI_neg, jI_add, jI_sub, jI_mul, jI_neg, nI_i, lN_j, iI_le, iI_lt, iI_eq, jI_le, jI_lt, jI_eq, iI_in, iI_cl, iI_j, jI_i, cN, inN, wI_eq, wI_ne, wJ_1, wJ_eq, wJ_ne, wI_2, wJ_3, iI_div, iI_rem, jI_div, jI_rem, true_or, or_true, false_or, or_false, eq_self, Nat.add_zero, ho]
  refine ⟨fun _ => by omega, fun _ => ⟨fun _ => by omega, fun _ => ?_⟩⟩
  refine c_isChoice w1 w2 (by omega) ?_
  rw [if_pos hw]
  simp (disch := omega) only [forall_eq, true_and, and_true, false_and, and_false, forall_const, true_implies, implies_true, not_true_eq_false, not_false_eq_true, false_implies, if_true, if_false, ↓reduceIte, Int.toNat_natCast, Int.reduceEq, Int.reduceNe, Int.reduceLT, Int.reduceLE, Int.reduceToNat, Int.reduceAdd, Int.reduceSub, Int.reduceMul, Int.reduceNeg, Nat.reduceAdd, Nat.reduceMul, Nat.reduceSub, iI_lit, jI_lit, iI_add, iI_sub, iI_mul, iI_neg, jI_add, jI_sub, jI_mul, jI_neg, nI_i, lN_j, iI_le, iI_lt, iI_eq, jI_le, jI_lt, jI_eq, iI_in, iI_cl, iI_j, jI_i, cN, inN, wI_eq, wI_ne, wJ_1, wJ_eq, wJ_ne, wI_2, wJ_3, iI_div, iI_rem, jI_div, jI_rem, true_or, or_true, false_or, or_false, eq_self, Nat.add_zero]
  refine ⟨by omega, by omega, ?_⟩
  rw [hg.2.2.2.2.2.1, hg2.2.2.2.2.2.1]
  have none : (Int.gcd (Tt t nt) (Tb t nt) = 0 ∨ Int.gcd (Tt t2 nt2) (Tb t2 nt2) = 0) → sm_callI E L mX11_error 1 0 0 [.ref (sm_B E + 0), .int 2] m (fun r m1 => sm_callI E L mX12_least d2 0 0 [.ref (sm_B E + 109), .int (iI (j : Nat)), .int (iI (j2 : Nat)), .int (iI (k : Nat)), .int (iI w)] m1 (fun r2 m2 => r = r2 ∧ Inv c m2)) := by
    intro h0
    exact c_error (e := 2) hly (by decide) (by omega) (model _ _ (hh.fr (fr.rf.wI (P := fun a k => a = 76) rfl) (by omega) (fun k => by omega)) (hh2.fr (fr.rf.wI (P := fun a k => a = 76) rfl) (by omega) (fun k => by omega)) (fun _ m2 f2 => ⟨rfl, hI.er frw.rf f2⟩) (fun h h' => absurd h0 (fun q => q.elim h h')))
  by_cases hg0 : Int.gcd (Tt t nt) (Tb t nt) = 0
  · rw [if_pos hg0]
    exact ⟨fun _ => none (Or.inl hg0), fun z => absurd rfl z⟩
  rw [if_neg hg0]
  refine ⟨fun z => absurd z (by decide), fun _ => ?_⟩
  by_cases hg1 : Int.gcd (Tt t2 nt2) (Tb t2 nt2) = 0
  · rw [if_pos hg1]
    exact ⟨fun z => absurd rfl z, fun _ => none (Or.inr hg1)⟩
  rw [if_neg hg1]
  refine ⟨fun _ => ?_, fun z => absurd z (by decide)⟩
  obtain ⟨y1, y2⟩ := hg.2.2.2.2.2.2 hg0
  obtain ⟨y3, y4⟩ := hg2.2.2.2.2.2.2 hg1
  obtain ⟨b1, b2, b3, b4, b5⟩ := f_bd hbd hg0
  obtain ⟨d1', d2', d3', d4', d5'⟩ := f_bd hbd2 hg1
  generalize hs1 : fP (Tt t nt) (Tb t nt) = p at *
  generalize hs2 : fQ (Tt t nt) (Tb t nt) = q at *
  generalize hs3 : fP (Tt t2 nt2) (Tb t2 nt2) = gp at *
  generalize hs4 : fQ (Tt t2 nt2) (Tb t2 nt2) = gq at *
  have hB : lB 33554432 0 (p, q) := by
    have e0 : (fib 0 : Int) = 1 := by decide
    have e1 : (fib (0 + 1) : Int) = 2 := by decide
    unfold lB
    rw [e0, e1]
    show (p.natAbs : Int) + q.natAbs ≤ _ ∧ (p.natAbs : Int) + 2 * q.natAbs ≤ _ ∧ 2 * (p.natAbs : Int) + q.natAbs ≤ _
    omega
  have hnf : nf (p, q) := ⟨gcd_cop b5, by show 0 < q ∨ (p = 1 ∧ q = 0); omega⟩
  have hgb : ((((gp, gq) : Int × Int).1.natAbs : Int) ≤ 33554432 ∧ (((gp, gq) : Int × Int).2.natAbs : Int) ≤ 33554432) := by
    show (gp.natAbs : Int) ≤ 33554432 ∧ (gq.natAbs : Int) ≤ 33554432
    omega
  refine c_least_loop (g := (gp, gq)) (s := (p, q)) hly hd1 hT hT2 (by omega) w1 w2 y1 y2 y3 y4 hgb hnf hB (fun K hK hs hm => ?_) (fun hno => ?_) (k + 1) 0 (by omega) (fun j h => absurd h (Nat.not_lt_zero _))
  · refine model m _ hh hh2 (fun h => absurd h (fun q => q.elim hg0 hg1)) (fun _ _ m2 f2 e3 e4 => ?_)
    refine c12_least_loop (g := (gp, gq)) (s := (p, q)) hly hd2 (by omega) w1 w2 e3 e4 hgb hB (fun K2 hK2 hs2 hm2 => ⟨?_, hI.sc frw.rf f2⟩) (fun hno => absurd hs (hno K hK)) (k + 1) 0 (by omega) (fun j h => absurd h (Nat.not_lt_zero _))
    have : K = K2 := by
      rcases Nat.lt_trichotomy K K2 with h | h | h
      · exact absurd hs (hm2 K h)
      · exact h
      · exact absurd hs2 (hm K2 h)
    rw [this]
  · refine c_error (e := 2) hly (by decide) (by omega) (model _ _ (hh.fr (fr.rf.wI (P := fun a k => a = 76) rfl) (by omega) (fun k => by omega)) (hh2.fr (fr.rf.wI (P := fun a k => a = 76) rfl) (by omega) (fun k => by omega)) (fun h => absurd h (fun q => q.elim hg0 hg1)) (fun _ _ m2 f2 e3 e4 => ?_))
    exact c12_least_loop (g := (gp, gq)) (s := (p, q)) hly hd2 (by omega) w1 w2 e3 e4 hgb hB (fun K2 hK2 hs2 hm2 => absurd hs2 (hno K2 hK2)) (fun _ => c12_finds (e := 2) hly (by decide) (by omega) ⟨rfl, hI.er frw.rf f2⟩) (k + 1) 0 (by omega) (fun j h => absurd h (Nat.not_lt_zero _))
end K11
