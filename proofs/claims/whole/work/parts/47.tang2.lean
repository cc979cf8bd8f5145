/-! tangles of the class: copies, moves, what is measured -/
def fby (a b : Int) : Int := if b < 0 ∨ (b = 0 ∧ a < 0) then -(Int.gcd a b : Int) else (Int.gcd a b : Int)
def fP (a b : Int) : Int := a.tdiv (fby a b)
def fQ (a b : Int) : Int := b.tdiv (fby a b)
abbrev Tt (t : Nat → Int) (n : Nat) : Int := (ev t n).2.1 0
abbrev Tb (t : Nat → Int) (n : Nat) : Int := (ev t n).2.2.1 0
abbrev Tr (t : Nat → Int) (n : Nat) : Int := (ev t n).2.2.2.1 0
abbrev Td (t : Nat → Int) (n : Nat) : Int := (ev t n).2.2.2.2 0
/-- the tangle at a holds the tokens, and what they are worked out to -/
def tgx (m : sm_M) (a : Nat) (t : Nat → Int) (n : Nat) : Prop := m.1 a 4 = iI (Td t n) ∧ m.1 a 5 = iI (Tt t n) ∧ m.1 a 6 = iI (Tb t n) ∧ m.1 a 7 = iI (Tr t n) ∧ m.1 a 8 = iI (if Int.gcd (Tt t n) (Tb t n) = 0 then 0 else 1) ∧ (Int.gcd (Tt t n) (Tb t n) ≠ 0 → m.1 a 9 = iI (fP (Tt t n) (Tb t n)) ∧ m.1 a 10 = iI (fQ (Tt t n) (Tb t n)))
def tgm (m : sm_M) (a : Nat) (t : Nat → Int) (n : Nat) : Prop := tg m a t n ∧ tgx m a t n
def fit (t : Nat → Int) (n : Nat) : Prop := lvs t n ≤ 24 ∧ crs t n ≤ 24 ∧ n ≤ 60
def vT (t : Nat → Int) (n : Nat) : Prop := okT t n ∧ (ev t n).1 = 1 ∧ fit t n
theorem vT.bd {t : Nat → Int} {n : Nat} (h : vT t n) : (Tt t n).natAbs + (Tb t n).natAbs ≤ 16777216 := by
  have h1 := (evB_at (ev_B h.1) (k := 0) (by rw [h.2.1]; decide)).1
  have h2 : (2 : Nat) ^ crs t n ≤ 2 ^ 24 := Nat.pow_le_pow_right (by decide) h.2.2.2.1
  have h3 : (2 : Nat) ^ 24 = 16777216 := by decide
  unfold Tt Tb
  omega
theorem vT.dep {t : Nat → Int} {n : Nat} (h : vT t n) : 0 ≤ Td t n ∧ Td t n ≤ 60 := by
  have h1 := (evB_at (ev_B h.1) (k := 0) (by rw [h.2.1]; decide)).2
  have h2 := ev_dep t n 0
  have h3 := h.2.2.2.2
  unfold Td
  omega
def tmP (a : Nat) : Nat → Nat → Prop := fun b _ => b = a ∨ b = a + 1
def meP (a : Nat) : Nat → Nat → Prop := fun b k => gaP b k ∨ (b = a ∧ 4 ≤ k ∧ k ≤ 10)
theorem tgx.fr {P : Nat → Nat → Prop} {m m' : sm_M} {a n : Nat} {t : Nat → Int} (h : tgx m a t n) (hf : fr P m m') (h1 : ∀ k, 4 ≤ k → k ≤ 10 → ¬ P a k) : tgx m' a t n :=
  ⟨(hf.i (h1 4 (by decide) (by decide))).trans h.1, (hf.i (h1 5 (by decide) (by decide))).trans h.2.1, (hf.i (h1 6 (by decide) (by decide))).trans h.2.2.1, (hf.i (h1 7 (by decide) (by decide))).trans h.2.2.2.1, (hf.i (h1 8 (by decide) (by decide))).trans h.2.2.2.2.1, fun hg => ⟨(hf.i (h1 9 (by decide) (by decide))).trans (h.2.2.2.2.2 hg).1, (hf.i (h1 10 (by decide) (by decide))).trans (h.2.2.2.2.2 hg).2⟩⟩
theorem tgm.fr {P : Nat → Nat → Prop} {m m' : sm_M} {a n : Nat} {t : Nat → Int} (h : tgm m a t n) (hf : fr P m m') (h1 : ∀ k, 1 ≤ k → k ≤ 10 → ¬ P a k) (h2 : ∀ k, ¬ P (a + 1) k) : tgm m' a t n := ⟨h.1.fr hf (fun k a b => h1 k a (by omega)) h2, h.2.fr hf (fun k a b => h1 k (by omega) b)⟩
theorem tgx.congr {m : sm_M} {a n : Nat} {t u : Nat → Int} (h : tgx m a t n) (hu : ∀ k, k < n → t k = u k) : tgx m a u n := by
  have e := ev_congr hu
  unfold tgx Tt Tb Tr Td at *
  rw [← e]
  exact h
theorem ev_01' (t : Nat → Int) (n : Nat) : Tr t n = 0 ∨ Tr t n = 1 := ev_01 t n 0
section TN2
variable {E : sm_E} {L : sm_S → Prop} {d : Nat} {m : sm_M}
theorem c_reduce {Q : sm_M → Prop} {a na : Nat} {A B : Int} (hT : sm_tan L a na) (hd : 3 ≤ d) (hA : m.1 a 5 = iI A) (hB : m.1 a 6 = iI B) (hb : A.natAbs + B.natAbs ≤ 16777216)
    (h : ∀ m', fr (fun b k => b = a ∧ 8 ≤ k ∧ k ≤ 10) m m' → m'.1 a 8 = iI (if Int.gcd A B = 0 then 0 else 1) → (Int.gcd A B ≠ 0 → m'.1 a 9 = iI (fP A B) ∧ m'.1 a 10 = iI (fQ A B)) → Q m') : sm_callV E L mX4_reduce d 0 0 [.ref (sm_B E + a)] m Q := by
  have hg1 : (Int.gcd A B : Int) ≤ 16777216 := by
    by_cases hA0 : A = 0
    · subst hA0
      rw [Int.gcd_zero_left]
      omega
    · have := Int.gcd_le_natAbs_left B hA0
      omega
  refine vX4_reduce_0 hd hT ?_
  rw [hA, hB]
  refine c_divisorOf (by omega) (by omega) (by omega) (by omega) (by omega) ?_
  generalize hgg : Int.gcd A B = g at *
  simp (disch := omega) only [forall_eq, true_and, and_true, false_and, and_false, forall_const, true_implies, implies_true, not_true_eq_false, not_false_eq_true, false_implies, if_true, if_false, ↓reduceIte, Int.toNat_natCast, Int.reduceEq, Int.reduceNe, Int.reduceLT, Int.reduceLE, Int.reduceToNat, Int.reduceAdd, Int.reduceSub, Int.reduceMul, Int.reduceNeg, Nat.reduceAdd, Nat.reduceMul, Nat.reduceSub, iI_lit, jI_lit, iI_add, iI_sub, iI_mul, iI_neg, jI_add, jI_sub, jI_mul, jI_neg, nI_i, lN_j, iI_le, iI_lt, iI_eq, jI_le, jI_lt, jI_eq, iI_in, iI_cl, iI_j, jI_i, cN, inN, wI_eq, wI_ne, wJ_1, wJ_eq, wJ_ne, wI_2, wJ_3, iI_div, iI_rem, jI_div, jI_rem, true_or, or_true, false_or, or_false, eq_self, Nat.add_zero]
  refine ⟨fun hg => ?_, fun hg => ?_⟩
  · have hg0 : g = 0 := by omega
    refine vX4_reduce_22 hd hT hT ?_
    simp (disch := omega) only [forall_eq, true_and, and_true, false_and, and_false, forall_const, true_implies, implies_true, not_true_eq_false, not_false_eq_true, false_implies, if_true, if_false, ↓reduceIte, Int.toNat_natCast, Int.reduceEq, Int.reduceNe, Int.reduceLT, Int.reduceLE, Int.reduceToNat, Int.reduceAdd, Int.reduceSub, Int.reduceMul, Int.reduceNeg, Nat.reduceAdd, Nat.reduceMul, Nat.reduceSub, iI_lit, jI_lit, iI_add, iI_sub, iI_mul, iI_neg, jI_add, jI_sub, jI_mul, jI_neg, nI_i, lN_j, iI_le, iI_lt, iI_eq, jI_le, jI_lt, jI_eq, iI_in, iI_cl, iI_j, jI_i, cN, inN, wI_eq, wI_ne, wJ_1, wJ_eq, wJ_ne, wI_2, wJ_3, iI_div, iI_rem, jI_div, jI_rem, true_or, or_true, false_or, or_false, eq_self, Nat.add_zero]
    refine ⟨fun hq => by omega, fun _ => ?_⟩
    refine h _ (fr.rf.wI ⟨rfl, by decide, by decide⟩) ?_ (fun hn => absurd hg0 hn)
    simp (disch := omega) only [forall_eq, true_and, and_true, false_and, and_false, forall_const, true_implies, implies_true, not_true_eq_false, not_false_eq_true, false_implies, if_true, if_false, ↓reduceIte, Int.toNat_natCast, Int.reduceEq, Int.reduceNe, Int.reduceLT, Int.reduceLE, Int.reduceToNat, Int.reduceAdd, Int.reduceSub, Int.reduceMul, Int.reduceNeg, Nat.reduceAdd, Nat.reduceMul, Nat.reduceSub, iI_lit, jI_lit, iI_add, iI_sub, iI_mul, iI_neg, jI_add, jI_sub, jI_mul, jI_neg, nI_i, lN_j, iI_le, iI_lt, iI_eq, jI_le, jI_lt, jI_eq, iI_in, iI_cl, iI_j, jI_i, cN, inN, wI_eq, wI_ne, wJ_1, wJ_eq, wJ_ne, wI_2, wJ_3, iI_div, iI_rem, jI_div, jI_rem, true_or, or_true, false_or, or_false, eq_self, Nat.add_zero, hg0]
  · have hg0 : g ≠ 0 := by omega
    have go67 : ∀ s : Int, s = fby A B → gX4_reduce_67 E L d [.ref (sm_B E + a)] a (iI s) (sm_wI m a 8 (iI 1)) Q := by
      intro s hs
      have hs0 : s ≠ 0 ∧ -16777216 ≤ s ∧ s ≤ 16777216 := by
        rw [hs, fby, hgg]
        split <;> omega
      refine vX4_reduce_67 hd hT ?_
      simp (disch := omega) only [forall_eq, true_and, and_true, false_and, and_false, forall_const, true_implies, implies_true, not_true_eq_false, not_false_eq_true, false_implies, if_true, if_false, ↓reduceIte, Int.toNat_natCast, Int.reduceEq, Int.reduceNe, Int.reduceLT, Int.reduceLE, Int.reduceToNat, Int.reduceAdd, Int.reduceSub, Int.reduceMul, Int.reduceNeg, Nat.reduceAdd, Nat.reduceMul, Nat.reduceSub, iI_lit, jI_lit, iI_add, iI_sub, iI_mul, iI_neg, jI_add, jI_sub, jI_mul, jI_neg, nI_i, lN_j, iI_le, iI_lt, iI_eq, jI_le, jI_lt, jI_eq, iI_in, iI_cl, iI_j, jI_i, cN, inN, wI_eq, wI_ne, wJ_1, wJ_eq, wJ_ne, wI_2, wJ_3, iI_div, iI_rem, jI_div, jI_rem, true_or, or_true, false_or, or_false, eq_self, Nat.add_zero, hA, hB]
      refine ⟨hs0.1, hs0.1, h _ (((fr.rf.wI ⟨rfl, by decide, by decide⟩).wI ⟨rfl, by decide, by decide⟩).wI ⟨rfl, by decide, by decide⟩) ?_ (fun hn => ⟨?_, ?_⟩)⟩
      · simp (disch := omega) only [forall_eq, true_and, and_true, false_and, and_false, forall_const, true_implies, implies_true, not_true_eq_false, not_false_eq_true, false_implies, if_true, if_false, ↓reduceIte, Int.toNat_natCast, Int.reduceEq, Int.reduceNe, Int.reduceLT, Int.reduceLE, Int.reduceToNat, Int.reduceAdd, Int.reduceSub, Int.reduceMul, Int.reduceNeg, Nat.reduceAdd, Nat.reduceMul, Nat.reduceSub, iI_lit, jI_lit, iI_add, iI_sub, iI_mul, iI_neg, jI_add, jI_sub, jI_mul, jI_neg, nI_i, lN_j, iI_le, iI_lt, iI_eq, jI_le, jI_lt, jI_eq, iI_in, iI_cl, iI_j, jI_i, cN, inN, wI_eq, wI_ne, wJ_1, wJ_eq, wJ_ne, wI_2, wJ_3, iI_div, iI_rem, jI_div, jI_rem, true_or, or_true, false_or, or_false, eq_self, Nat.add_zero, if_neg hg0]
      · simp (disch := omega) only [forall_eq, true_and, and_true, false_and, and_false, forall_const, true_implies, implies_true, not_true_eq_false, not_false_eq_true, false_implies, if_true, if_false, ↓reduceIte, Int.toNat_natCast, Int.reduceEq, Int.reduceNe, Int.reduceLT, Int.reduceLE, Int.reduceToNat, Int.reduceAdd, Int.reduceSub, Int.reduceMul, Int.reduceNeg, Nat.reduceAdd, Nat.reduceMul, Nat.reduceSub, iI_lit, jI_lit, iI_add, iI_sub, iI_mul, iI_neg, jI_add, jI_sub, jI_mul, jI_neg, nI_i, lN_j, iI_le, iI_lt, iI_eq, jI_le, jI_lt, jI_eq, iI_in, iI_cl, iI_j, jI_i, cN, inN, wI_eq, wI_ne, wJ_1, wJ_eq, wJ_ne, wI_2, wJ_3, iI_div, iI_rem, jI_div, jI_rem, true_or, or_true, false_or, or_false, eq_self, Nat.add_zero, fP, ← hs]
      · simp (disch := omega) only [forall_eq, true_and, and_true, false_and, and_false, forall_const, true_implies, implies_true, not_true_eq_false, not_false_eq_true, false_implies, if_true, if_false, ↓reduceIte, Int.toNat_natCast, Int.reduceEq, Int.reduceNe, Int.reduceLT, Int.reduceLE, Int.reduceToNat, Int.reduceAdd, Int.reduceSub, Int.reduceMul, Int.reduceNeg, Nat.reduceAdd, Nat.reduceMul, Nat.reduceSub, iI_lit, jI_lit, iI_add, iI_sub, iI_mul, iI_neg, jI_add, jI_sub, jI_mul, jI_neg, nI_i, lN_j, iI_le, iI_lt, iI_eq, jI_le, jI_lt, jI_eq, iI_in, iI_cl, iI_j, jI_i, cN, inN, wI_eq, wI_ne, wJ_1, wJ_eq, wJ_ne, wI_2, wJ_3, iI_div, iI_rem, jI_div, jI_rem, true_or, or_true, false_or, or_false, eq_self, Nat.add_zero, fQ, ← hs]
    have fb : fby A B = if B < 0 ∨ (B = 0 ∧ A < 0) then -(g : Int) else (g : Int) := by rw [fby, hgg]
    refine vX4_reduce_22 hd hT hT ?_
    simp (disch := omega) only [forall_eq, true_and, and_true, false_and, and_false, forall_const, true_implies, implies_true, not_true_eq_false, not_false_eq_true, false_implies, if_true, if_false, ↓reduceIte, Int.toNat_natCast, Int.reduceEq, Int.reduceNe, Int.reduceLT, Int.reduceLE, Int.reduceToNat, Int.reduceAdd, Int.reduceSub, Int.reduceMul, Int.reduceNeg, Nat.reduceAdd, Nat.reduceMul, Nat.reduceSub, iI_lit, jI_lit, iI_add, iI_sub, iI_mul, iI_neg, jI_add, jI_sub, jI_mul, jI_neg, nI_i, lN_j, iI_le, iI_lt, iI_eq, jI_le, jI_lt, jI_eq, iI_in, iI_cl, iI_j, jI_i, cN, inN, wI_eq, wI_ne, wJ_1, wJ_eq, wJ_ne, wI_2, wJ_3, iI_div, iI_rem, jI_div, jI_rem, true_or, or_true, false_or, or_false, eq_self, Nat.add_zero, hA, hB]
    refine ⟨fun _ => ⟨fun h1 => go67 _ ?_, fun h1 => ⟨fun h2 => go67 _ ?_, fun h2 => ⟨fun h3 => go67 _ ?_, fun h3 => go67 _ ?_⟩⟩⟩, fun hq => by omega⟩
    · rw [fb, if_pos (Or.inl h1)]
    · rw [fb, if_neg (by omega)]
    · rw [fb, if_neg (by omega)]
    · rw [fb, if_pos (Or.inr ⟨h2, by omega⟩)]
theorem c_measure_loop {Q : sm_M → Prop} {vs : List Value} {a na n : Nat} {t : Nat → Int} (hly : ∀ S, L S → ly S) (hd : 4 ≤ d) (hT : sm_tan L a na) (ha : a = 3 ∨ a = 14 ∨ 77 ≤ a) (hna : n ≤ na) (hna2 : na ≤ 100) (hok : okT t n) (hh1 : (ev t n).1 = 1) (hft : lvs t n ≤ 24 ∧ crs t n ≤ 24) (m0 : sm_M)
    (h : ∀ m', fr (meP a) m0 m' → tg m' a t n → tgx m' a t n → Q m') :
    ∀ (j i : Nat) (m : sm_M), i + j = n → fr (meP a) m0 m → tg m a t n → gm m (ev t i) → gX4_measure_7 E L d vs a (iI (i : Nat)) m Q := by
  have hmo : ∀ i, i ≤ n → lvs t i ≤ lvs t n ∧ crs t i ≤ crs t n := by
    intro i hi
    have : ∀ r, i + r ≤ n → lvs t i ≤ lvs t (i + r) ∧ crs t i ≤ crs t (i + r) := by
      intro r
      induction r with
      | zero => exact fun _ => ⟨Nat.le_refl _, Nat.le_refl _⟩
      | succ r ih =>
        intro hr
        have := ih (by omega)
        rw [show i + (r + 1) = (i + r) + 1 by omega, lvs, crs]
        omega
    have h9 := this (n - i) (by omega)
    rw [show i + (n - i) = n by omega] at h9
    exact h9
  intro j
  induction j with
  | zero =>
    intro i m hij hf hg hm
    have hin : i = n := by omega
    subst hin
    have hg0 := hg.1
    obtain ⟨v1, v2, v3, v4⟩ := hm.2 0 (by omega)
    have hbd := evB_at (ev_B hok) (k := 0) (by omega)
    have hp : (2 : Nat) ^ crs t i ≤ 2 ^ 24 := Nat.pow_le_pow_right (by decide) hft.2
    have hp2 : (2 : Nat) ^ 24 = 16777216 := by decide
    have h01 := ev_01' t i
    refine vX4_measure_7 hly hd hT ?_
    have hcc : ((i : Nat) : Int) ≤ ((i : Nat) : Int) := Int.le_refl _
    simp (disch := omega) only [forall_eq, true_and, and_true, false_and, and_false, forall_const, true_implies, implies_true, not_true_eq_false, not_false_eq_true, false_implies, if_true, if_false, ↓reduceIte, Int.toNat_natCast, Int.reduceEq, Int.reduceNe, Int.reduceLT, Int.reduceLE, Int.reduceToNat, Int.reduceAdd, Int.reduceSub, Int.reduceMul, Int.reduceNeg, Nat.reduceAdd, Nat.reduceMul, Nat.reduceSub, iI_lit, jI_lit, iI_add, iI_sub, iI_mul, iI_neg, jI_add, jI_sub, jI_mul, jI_neg, nI_i, lN_j, iI_le, iI_lt, iI_eq, jI_le, jI_lt, jI_eq, iI_in, iI_cl, iI_j, jI_i, cN, inN, wI_eq, wI_ne, wJ_1, wJ_eq, wJ_ne, wI_2, wJ_3, iI_div, iI_rem, jI_div, jI_rem, true_or, or_true, false_or, or_false, eq_self, Nat.add_zero, hg0, v1, v2, v3, v4, hcc]
    refine ⟨h01.imp (congrArg iI) (congrArg iI), c_reduce (A := Tt t i) (B := Tb t i) hT (by omega) ?_ ?_ (by unfold Tt Tb; omega) (fun m' f' r8 r9 => ?_)⟩
    · simp (disch := omega) only [forall_eq, true_and, and_true, false_and, and_false, forall_const, true_implies, implies_true, not_true_eq_false, not_false_eq_true, false_implies, if_true, if_false, ↓reduceIte, Int.toNat_natCast, Int.reduceEq, Int.reduceNe, Int.reduceLT, Int.reduceLE, Int.reduceToNat, Int.reduceAdd, Int.reduceSub, Int.reduceMul, Int.reduceNeg, Nat.reduceAdd, Nat.reduceMul, Nat.reduceSub, iI_lit, jI_lit, iI_add, iI_sub, iI_mul, iI_neg, jI_add, jI_sub, jI_mul, jI_neg, nI_i, lN_j, iI_le, iI_lt, iI_eq, jI_le, jI_lt, jI_eq, iI_in, iI_cl, iI_j, jI_i, cN, inN, wI_eq, wI_ne, wJ_1, wJ_eq, wJ_ne, wI_2, wJ_3, iI_div, iI_rem, jI_div, jI_rem, true_or, or_true, false_or, or_false, eq_self, Nat.add_zero]
    · simp (disch := omega) only [forall_eq, true_and, and_true, false_and, and_false, forall_const, true_implies, implies_true, not_true_eq_false, not_false_eq_true, false_implies, if_true, if_false, ↓reduceIte, Int.toNat_natCast, Int.reduceEq, Int.reduceNe, Int.reduceLT, Int.reduceLE, Int.reduceToNat, Int.reduceAdd, Int.reduceSub, Int.reduceMul, Int.reduceNeg, Nat.reduceAdd, Nat.reduceMul, Nat.reduceSub, iI_lit, jI_lit, iI_add, iI_sub, iI_mul, iI_neg, jI_add, jI_sub, jI_mul, jI_neg, nI_i, lN_j, iI_le, iI_lt, iI_eq, jI_le, jI_lt, jI_eq, iI_in, iI_cl, iI_j, jI_i, cN, inN, wI_eq, wI_ne, wJ_1, wJ_eq, wJ_ne, wI_2, wJ_3, iI_div, iI_rem, jI_div, jI_rem, true_or, or_true, false_or, or_false, eq_self, Nat.add_zero]
    · have f0 : fr (meP a) m (sm_wI (sm_wI (sm_wI (sm_wI m a 4 (iI (Td t i))) a 5 (iI (Tt t i))) a 6 (iI (Tb t i))) a 7 (iI (Tr t i))) := (((fr.rf.wI (Or.inr (by omega))).wI (Or.inr (by omega))).wI (Or.inr (by omega))).wI (Or.inr (by omega))
      have f1 : fr (meP a) m m' := f0.tr (f'.mono (fun b k hb => Or.inr (by omega)))
      refine h m' (hf.tr f1) (hg.fr f1 (fun k h1 h2 => by unfold meP gaP; omega) (fun k => by unfold meP gaP; omega)) ⟨?_, ?_, ?_, ?_, r8, r9⟩
      · rw [f'.i (by omega)]
        simp (disch := omega) only [forall_eq, true_and, and_true, false_and, and_false, forall_const, true_implies, implies_true, not_true_eq_false, not_false_eq_true, false_implies, if_true, if_false, ↓reduceIte, Int.toNat_natCast, Int.reduceEq, Int.reduceNe, Int.reduceLT, Int.reduceLE, Int.reduceToNat, Int.reduceAdd, Int.reduceSub, Int.reduceMul, Int.reduceNeg, Nat.reduceAdd, Nat.reduceMul, Nat.reduceSub, iI_lit, jI_lit, iI_add, iI_sub, iI_mul, iI_neg, jI_add, jI_sub, jI_mul, jI_neg, nI_i, lN_j, iI_le, iI_lt, iI_eq, jI_le, jI_lt, jI_eq, iI_in, iI_cl, iI_j, jI_i, cN, inN, wI_eq, wI_ne, wJ_1, wJ_eq, wJ_ne, wI_2, wJ_3, iI_div, iI_rem, jI_div, jI_rem, true_or, or_true, false_or, or_false, eq_self, Nat.add_zero]
      · rw [f'.i (by omega)]
        simp (disch := omega) only [forall_eq, true_and, and_true, false_and, and_false, forall_const, true_implies, implies_true, not_true_eq_false, not_false_eq_true, false_implies, if_true, if_false, ↓reduceIte, Int.toNat_natCast, Int.reduceEq, Int.reduceNe, Int.reduceLT, Int.reduceLE, Int.reduceToNat, Int.reduceAdd, Int.reduceSub, Int.reduceMul, Int.reduceNeg, Nat.reduceAdd, Nat.reduceMul, Nat.reduceSub, iI_lit, jI_lit, iI_add, iI_sub, iI_mul, iI_neg, jI_add, jI_sub, jI_mul, jI_neg, nI_i, lN_j, iI_le, iI_lt, iI_eq, jI_le, jI_lt, jI_eq, iI_in, iI_cl, iI_j, jI_i, cN, inN, wI_eq, wI_ne, wJ_1, wJ_eq, wJ_ne, wI_2, wJ_3, iI_div, iI_rem, jI_div, jI_rem, true_or, or_true, false_or, or_false, eq_self, Nat.add_zero]
      · rw [f'.i (by omega)]
        simp (disch := omega) only [forall_eq, true_and, and_true, false_and, and_false, forall_const, true_implies, implies_true, not_true_eq_false, not_false_eq_true, false_implies, if_true, if_false, ↓reduceIte, Int.toNat_natCast, Int.reduceEq, Int.reduceNe, Int.reduceLT, Int.reduceLE, Int.reduceToNat, Int.reduceAdd, Int.reduceSub, Int.reduceMul, Int.reduceNeg, Nat.reduceAdd, Nat.reduceMul, Nat.reduceSub, iI_lit, jI_lit, iI_add, iI_sub, iI_mul, iI_neg, jI_add, jI_sub, jI_mul, jI_neg, nI_i, lN_j, iI_le, iI_lt, iI_eq, jI_le, jI_lt, jI_eq, iI_in, iI_cl, iI_j, jI_i, cN, inN, wI_eq, wI_ne, wJ_1, wJ_eq, wJ_ne, wI_2, wJ_3, iI_div, iI_rem, jI_div, jI_rem, true_or, or_true, false_or, or_false, eq_self, Nat.add_zero]
      · rw [f'.i (by omega)]
        simp (disch := omega) only [forall_eq, true_and, and_true, false_and, and_false, forall_const, true_implies, implies_true, not_true_eq_false, not_false_eq_true, false_implies, if_true, if_false, ↓reduceIte, Int.toNat_natCast, Int.reduceEq, Int.reduceNe, Int.reduceLT, Int.reduceLE, Int.reduceToNat, Int.reduceAdd, Int.reduceSub, Int.reduceMul, Int.reduceNeg, Nat.reduceAdd, Nat.reduceMul, Nat.reduceSub, iI_lit, jI_lit, iI_add, iI_sub, iI_mul, iI_neg, jI_add, jI_sub, jI_mul, jI_neg, nI_i, lN_j, iI_le, iI_lt, iI_eq, jI_le, jI_lt, jI_eq, iI_in, iI_cl, iI_j, jI_i, cN, inN, wI_eq, wI_ne, wJ_1, wJ_eq, wJ_ne, wI_2, wJ_3, iI_div, iI_rem, jI_div, jI_rem, true_or, or_true, false_or, or_false, eq_self, Nat.add_zero]
  | succ j ih =>
    intro i m hij hf hg hm
    have K := ih (i + 1)
    clear ih
    have hg0 := hg.1
    have hrow := hg.2.1 i (by omega)
    have hz := hok i (by omega)
    have hB := ev_B (hok.le (show i ≤ n by omega))
    have hh := ev_h t i
    have hmi := hmo i (by omega)
    have hmi1 := hmo (i + 1) (by omega)
    have hdp := ev_dep t i
    have h01 := ev_01 t i
    have hs : ev t (i + 1) = evStep (ev t i) (t i) := rfl
    have hl1 : lvs t (i + 1) = lvs t i + (if t i ≤ 10 then 1 else 0) := rfl
    rw [hs] at K
    generalize ev t i = s at *
    generalize hzz : t i = z at *
    have e5 : ((i : Nat) : Int) + 1 = ((i + 1 : Nat) : Int) := by omega
    have hu : ¬ ((n : Int) ≤ ((i : Nat) : Int)) := by omega
    have hfm : ∀ m', fr gaP m m' → fr (meP a) m0 m' ∧ tg m' a t n := fun m' f' => ⟨hf.tr (f'.mono (fun b k hb => Or.inl hb)), hg.fr f' (fun k h1 h2 => by unfold gaP; omega) (fun k => by unfold gaP; omega)⟩
    refine vX4_measure_7 hly hd hT ?_
    simp (disch := omega) only [forall_eq, true_and, and_true, false_and, and_false, forall_const, true_implies, implies_true, not_true_eq_false, not_false_eq_true, false_implies, if_true, if_false, ↓reduceIte, Int.toNat_natCast, Int.reduceEq, Int.reduceNe, Int.reduceLT, Int.reduceLE, Int.reduceToNat, Int.reduceAdd, Int.reduceSub, Int.reduceMul, Int.reduceNeg, Nat.reduceAdd, Nat.reduceMul, Nat.reduceSub, iI_lit, jI_lit, iI_add, iI_sub, iI_mul, iI_neg, jI_add, jI_sub, jI_mul, jI_neg, nI_i, lN_j, iI_le, iI_lt, iI_eq, jI_le, jI_lt, jI_eq, iI_in, iI_cl, iI_j, jI_i, cN, inN, wI_eq, wI_ne, wJ_1, wJ_eq, wJ_ne, wI_2, wJ_3, iI_div, iI_rem, jI_div, jI_rem, true_or, or_true, false_or, or_false, eq_self, Nat.add_zero, hg0, hrow, hu]
    refine ⟨by omega, fun hbig => ⟨fun q11 => ?_, fun q11 => ⟨fun q12 => ⟨fun q13 => ?_, fun q13 => ?_⟩, fun q12 => ?_⟩⟩, fun hsmall => ?_⟩
    · refine vX4_measure_48 hly hd hT ?_
      subst q11
      simp (disch := omega) only [forall_eq, true_and, and_true, false_and, and_false, forall_const, true_implies, implies_true, not_true_eq_false, not_false_eq_true, false_implies, if_true, if_false, ↓reduceIte, Int.toNat_natCast, Int.reduceEq, Int.reduceNe, Int.reduceLT, Int.reduceLE, Int.reduceToNat, Int.reduceAdd, Int.reduceSub, Int.reduceMul, Int.reduceNeg, Nat.reduceAdd, Nat.reduceMul, Nat.reduceSub, iI_lit, jI_lit, iI_add, iI_sub, iI_mul, iI_neg, jI_add, jI_sub, jI_mul, jI_neg, nI_i, lN_j, iI_le, iI_lt, iI_eq, jI_le, jI_lt, jI_eq, iI_in, iI_cl, iI_j, jI_i, cN, inN, wI_eq, wI_ne, wJ_1, wJ_eq, wJ_ne, wI_2, wJ_3, iI_div, iI_rem, jI_div, jI_rem, true_or, or_true, false_or, or_false, eq_self, Nat.add_zero, e5]
      refine c_combine (b := 1) hly (by omega) hm (by omega) (hz.2.2.2 (by omega) (by omega)) (Or.inr rfl) hB (by omega) h01 (fun k => by have := hdp k; omega) (fun m' f' g' => ?_)
      exact K m' (by omega) (hfm m' f').1 (hfm m' f').2 g'
    · have hz14 : z = 14 := by omega
      subst hz14
      refine c_alter (b := 0) hly (by omega) hm (by omega) (hz.2.2.1 (by omega)) (Or.inl rfl) (fun m' f' g' => ?_)
      simp (disch := omega) only [forall_eq, true_and, and_true, false_and, and_false, forall_const, true_implies, implies_true, not_true_eq_false, not_false_eq_true, false_implies, if_true, if_false, ↓reduceIte, Int.toNat_natCast, Int.reduceEq, Int.reduceNe, Int.reduceLT, Int.reduceLE, Int.reduceToNat, Int.reduceAdd, Int.reduceSub, Int.reduceMul, Int.reduceNeg, Nat.reduceAdd, Nat.reduceMul, Nat.reduceSub, iI_lit, jI_lit, iI_add, iI_sub, iI_mul, iI_neg, jI_add, jI_sub, jI_mul, jI_neg, nI_i, lN_j, iI_le, iI_lt, iI_eq, jI_le, jI_lt, jI_eq, iI_in, iI_cl, iI_j, jI_i, cN, inN, wI_eq, wI_ne, wJ_1, wJ_eq, wJ_ne, wI_2, wJ_3, iI_div, iI_rem, jI_div, jI_rem, true_or, or_true, false_or, or_false, eq_self, Nat.add_zero, e5]
      exact K m' (by omega) (hfm m' f').1 (hfm m' f').2 g'
    · subst q13
      refine c_alter (b := 1) hly (by omega) hm (by omega) (hz.2.2.1 (by omega)) (Or.inr rfl) (fun m' f' g' => ?_)
      simp (disch := omega) only [forall_eq, true_and, and_true, false_and, and_false, forall_const, true_implies, implies_true, not_true_eq_false, not_false_eq_true, false_implies, if_true, if_false, ↓reduceIte, Int.toNat_natCast, Int.reduceEq, Int.reduceNe, Int.reduceLT, Int.reduceLE, Int.reduceToNat, Int.reduceAdd, Int.reduceSub, Int.reduceMul, Int.reduceNeg, Nat.reduceAdd, Nat.reduceMul, Nat.reduceSub, iI_lit, jI_lit, iI_add, iI_sub, iI_mul, iI_neg, jI_add, jI_sub, jI_mul, jI_neg, nI_i, lN_j, iI_le, iI_lt, iI_eq, jI_le, jI_lt, jI_eq, iI_in, iI_cl, iI_j, jI_i, cN, inN, wI_eq, wI_ne, wJ_1, wJ_eq, wJ_ne, wI_2, wJ_3, iI_div, iI_rem, jI_div, jI_rem, true_or, or_true, false_or, or_false, eq_self, Nat.add_zero, e5]
      exact K m' (by omega) (hfm m' f').1 (hfm m' f').2 g'
    · refine vX4_measure_48 hly hd hT ?_
      subst q12
      simp (disch := omega) only [forall_eq, true_and, and_true, false_and, and_false, forall_const, true_implies, implies_true, not_true_eq_false, not_false_eq_true, false_implies, if_true, if_false, ↓reduceIte, Int.toNat_natCast, Int.reduceEq, Int.reduceNe, Int.reduceLT, Int.reduceLE, Int.reduceToNat, Int.reduceAdd, Int.reduceSub, Int.reduceMul, Int.reduceNeg, Nat.reduceAdd, Nat.reduceMul, Nat.reduceSub, iI_lit, jI_lit, iI_add, iI_sub, iI_mul, iI_neg, jI_add, jI_sub, jI_mul, jI_neg, nI_i, lN_j, iI_le, iI_lt, iI_eq, jI_le, jI_lt, jI_eq, iI_in, iI_cl, iI_j, jI_i, cN, inN, wI_eq, wI_ne, wJ_1, wJ_eq, wJ_ne, wI_2, wJ_3, iI_div, iI_rem, jI_div, jI_rem, true_or, or_true, false_or, or_false, eq_self, Nat.add_zero, e5]
      refine c_combine (b := 0) hly (by omega) hm (by omega) (hz.2.2.2 (by omega) (by omega)) (Or.inl rfl) hB (by omega) h01 (fun k => by have := hdp k; omega) (fun m' f' g' => ?_)
      exact K m' (by omega) (hfm m' f').1 (hfm m' f').2 g'
    · rw [if_pos (by omega)] at hl1
      refine c_push hly (by omega) hm (by omega) (by omega) (by omega) (fun m' f' g' => ?_)
      simp (disch := omega) only [forall_eq, true_and, and_true, false_and, and_false, forall_const, true_implies, implies_true, not_true_eq_false, not_false_eq_true, false_implies, if_true, if_false, ↓reduceIte, Int.toNat_natCast, Int.reduceEq, Int.reduceNe, Int.reduceLT, Int.reduceLE, Int.reduceToNat, Int.reduceAdd, Int.reduceSub, Int.reduceMul, Int.reduceNeg, Nat.reduceAdd, Nat.reduceMul, Nat.reduceSub, iI_lit, jI_lit, iI_add, iI_sub, iI_mul, iI_neg, jI_add, jI_sub, jI_mul, jI_neg, nI_i, lN_j, iI_le, iI_lt, iI_eq, jI_le, jI_lt, jI_eq, iI_in, iI_cl, iI_j, jI_i, cN, inN, wI_eq, wI_ne, wJ_1, wJ_eq, wJ_ne, wI_2, wJ_3, iI_div, iI_rem, jI_div, jI_rem, true_or, or_true, false_or, or_false, eq_self, Nat.add_zero, e5]
      refine K m' (by omega) (hfm m' f').1 (hfm m' f').2 ?_
      rw [evStep, if_pos (by omega)]
      exact g'
theorem c_measure {Q : sm_M → Prop} {a na n : Nat} {t : Nat → Int} (hly : ∀ S, L S → ly S) (hd : 4 ≤ d) (hT : sm_tan L a na) (ha : a = 3 ∨ a = 14 ∨ 77 ≤ a) (hna : n ≤ na) (hna2 : na ≤ 100) (hok : okT t n) (hh1 : (ev t n).1 = 1) (hft : lvs t n ≤ 24 ∧ crs t n ≤ 24) (hg : tg m a t n)
    (h : ∀ m', fr (meP a) m m' → tgm m' a t n → Q m') : sm_callV E L mX4_measure d 0 0 [.ref (sm_B E + 5), .ref (sm_B E + a)] m Q := by
  refine vX4_measure_0 hly hd hT ?_
  simp (disch := omega) only [forall_eq, true_and, and_true, false_and, and_false, forall_const, true_implies, implies_true, not_true_eq_false, not_false_eq_true, false_implies, if_true, if_false, ↓reduceIte, Int.toNat_natCast, Int.reduceEq, Int.reduceNe, Int.reduceLT, Int.reduceLE, Int.reduceToNat, Int.reduceAdd, Int.reduceSub, Int.reduceMul, Int.reduceNeg, Nat.reduceAdd, Nat.reduceMul, Nat.reduceSub, iI_lit, jI_lit, iI_add, iI_sub, iI_mul, iI_neg, jI_add, jI_sub, jI_mul, jI_neg, nI_i, lN_j, iI_le, iI_lt, iI_eq, jI_le, jI_lt, jI_eq, iI_in, iI_cl, iI_j, jI_i, cN, inN, wI_eq, wI_ne, wJ_1, wJ_eq, wJ_ne, wI_2, wJ_3, iI_div, iI_rem, jI_div, jI_rem, true_or, or_true, false_or, or_false, eq_self, Nat.add_zero]
  have f0 : fr (meP a) m (sm_wI m 5 4 (iI 0)) := fr.rf.wI (Or.inl (Or.inl ⟨rfl, rfl⟩))
  have h9 := c_measure_loop (E := E) (vs := [.ref (sm_B E + 5), .ref (sm_B E + a)]) hly hd hT ha hna hna2 hok hh1 hft m (fun m' f' g1 g2 => h m' f' ⟨g1, g2⟩) n 0 (sm_wI m 5 4 (iI 0)) (by omega) f0 (hg.fr f0 (fun k h1 h2 => by unfold meP gaP; omega) (fun k => by unfold meP gaP; omega)) ⟨by simp (disch := omega) only [forall_eq, true_and, and_true, false_and, and_false, forall_const, true_implies, implies_true, not_true_eq_false, not_false_eq_true, false_implies, if_true, if_false, ↓reduceIte, Int.toNat_natCast, Int.reduceEq, Int.reduceNe, Int.reduceLT, Int.reduceLE, Int.reduceToNat, Int.reduceAdd, Int.reduceSub, Int.reduceMul, Int.reduceNeg, Nat.reduceAdd, Nat.reduceMul, Nat.reduceSub, iI_lit, jI_lit, iI_add, iI_sub, iI_mul, iI_neg, jI_add, jI_sub, jI_mul, jI_neg, nI_i, lN_j, iI_le, iI_lt, iI_eq, jI_le, jI_lt, jI_eq, iI_in, iI_cl, iI_j, jI_i, cN, inN, wI_eq, wI_ne, wJ_1, wJ_eq, wJ_ne, wI_2, wJ_3, iI_div, iI_rem, jI_div, jI_rem, true_or, or_true, false_or, or_false, eq_self, Nat.add_zero]; rfl, fun k hk => absurd hk (Nat.not_lt_zero _)⟩
  exact h9
theorem c_copy {Q : sm_M → Prop} {a b na nb n : Nat} {t : Nat → Int} (hTa : sm_tan L a na) (hTb : sm_tan L b nb) (hd : 1 ≤ d) (hn : n ≤ na) (hn2 : n ≤ nb) (hna : na ≤ 100) (hab : a ≠ b) (hab1 : a ≠ b + 1) (hab2 : b ≠ a + 1) (hg : tgm m b t n) (h : ∀ m', fr (tmP a) m m' → tgm m' a t n → Q m') : sm_callV E L mX8_copy d 0 0 [.ref (sm_B E + a), .ref (sm_B E + b)] m Q := by
  obtain ⟨⟨g1, g2, g3, g4, g5⟩, x1, x2, x3, x4, x5, x6⟩ := hg
  have h01 := ev_01' t n
  have hg01 : (if Int.gcd (Tt t n) (Tb t n) = 0 then (0 : Int) else 1) = 0 ∨ (if Int.gcd (Tt t n) (Tb t n) = 0 then (0 : Int) else 1) = 1 := by
    split
    · exact Or.inl rfl
    · exact Or.inr rfl
  have hW : ∀ (f : Nat → Int32) (c k : Nat), c ≠ a + 1 → (sm_wIs m (a + 1) f).1 c k = m.1 c k := fun f c k hc => by rw [wIs_1, if_neg hc]
  refine vX8_copy_0 hd hTa hTb ?_
  rw [g1]
  simp (disch := omega) only [forall_eq, true_and, and_true, false_and, and_false, forall_const, true_implies, implies_true, not_true_eq_false, not_false_eq_true, false_implies, if_true, if_false, ↓reduceIte, Int.toNat_natCast, Int.reduceEq, Int.reduceNe, Int.reduceLT, Int.reduceLE, Int.reduceToNat, Int.reduceAdd, Int.reduceSub, Int.reduceMul, Int.reduceNeg, Nat.reduceAdd, Nat.reduceMul, Nat.reduceSub, iI_lit, jI_lit, iI_add, iI_sub, iI_mul, iI_neg, jI_add, jI_sub, jI_mul, jI_neg, nI_i, lN_j, iI_le, iI_lt, iI_eq, jI_le, jI_lt, jI_eq, iI_in, iI_cl, iI_j, jI_i, cN, inN, wI_eq, wI_ne, wJ_1, wJ_eq, wJ_ne, wI_2, wJ_3, iI_div, iI_rem, jI_div, jI_rem, true_or, or_true, false_or, or_false, eq_self, Nat.add_zero]
  refine ⟨fun _ => ⟨by omega, by omega, by omega, ?_⟩, fun hc => by omega⟩
  simp (disch := omega) only [forall_eq, true_and, and_true, false_and, and_false, forall_const, true_implies, implies_true, not_true_eq_false, not_false_eq_true, false_implies, if_true, if_false, ↓reduceIte, Int.toNat_natCast, Int.reduceEq, Int.reduceNe, Int.reduceLT, Int.reduceLE, Int.reduceToNat, Int.reduceAdd, Int.reduceSub, Int.reduceMul, Int.reduceNeg, Nat.reduceAdd, Nat.reduceMul, Nat.reduceSub, iI_lit, jI_lit, iI_add, iI_sub, iI_mul, iI_neg, jI_add, jI_sub, jI_mul, jI_neg, nI_i, lN_j, iI_le, iI_lt, iI_eq, jI_le, jI_lt, jI_eq, iI_in, iI_cl, iI_j, jI_i, cN, inN, wI_eq, wI_ne, wJ_1, wJ_eq, wJ_ne, wI_2, wJ_3, iI_div, iI_rem, jI_div, jI_rem, true_or, or_true, false_or, or_false, eq_self, Nat.add_zero, hW, g1, g3, g4, x1, x2, x3, x4, x5]
  refine ⟨h01, hg01, h _ ?_ ⟨⟨?_, fun k hk => ?_, ?_, ?_, g5⟩, ?_, ?_, ?_, ?_, ?_, fun hg => ⟨?_, ?_⟩⟩⟩
  · exact ((((((((((fr.rf.wIs (fun _ => Or.inr rfl)).wI (Or.inl rfl)).wI (Or.inl rfl)).wI (Or.inl rfl)).wI (Or.inl rfl)).wI (Or.inl rfl)).wI (Or.inl rfl)).wI (Or.inl rfl)).wI (Or.inl rfl)).wI (Or.inl rfl)).wI (Or.inl rfl)
  · simp (disch := omega) only [forall_eq, true_and, and_true, false_and, and_false, forall_const, true_implies, implies_true, not_true_eq_false, not_false_eq_true, false_implies, if_true, if_false, ↓reduceIte, Int.toNat_natCast, Int.reduceEq, Int.reduceNe, Int.reduceLT, Int.reduceLE, Int.reduceToNat, Int.reduceAdd, Int.reduceSub, Int.reduceMul, Int.reduceNeg, Nat.reduceAdd, Nat.reduceMul, Nat.reduceSub, iI_lit, jI_lit, iI_add, iI_sub, iI_mul, iI_neg, jI_add, jI_sub, jI_mul, jI_neg, nI_i, lN_j, iI_le, iI_lt, iI_eq, jI_le, jI_lt, jI_eq, iI_in, iI_cl, iI_j, jI_i, cN, inN, wI_eq, wI_ne, wJ_1, wJ_eq, wJ_ne, wI_2, wJ_3, iI_div, iI_rem, jI_div, jI_rem, true_or, or_true, false_or, or_false, eq_self, Nat.add_zero]
  · simp (disch := omega) only [forall_eq, true_and, and_true, false_and, and_false, forall_const, true_implies, implies_true, not_true_eq_false, not_false_eq_true, false_implies, if_true, if_false, ↓reduceIte, Int.toNat_natCast, Int.reduceEq, Int.reduceNe, Int.reduceLT, Int.reduceLE, Int.reduceToNat, Int.reduceAdd, Int.reduceSub, Int.reduceMul, Int.reduceNeg, Nat.reduceAdd, Nat.reduceMul, Nat.reduceSub, iI_lit, jI_lit, iI_add, iI_sub, iI_mul, iI_neg, jI_add, jI_sub, jI_mul, jI_neg, nI_i, lN_j, iI_le, iI_lt, iI_eq, jI_le, jI_lt, jI_eq, iI_in, iI_cl, iI_j, jI_i, cN, inN, wI_eq, wI_ne, wJ_1, wJ_eq, wJ_ne, wI_2, wJ_3, iI_div, iI_rem, jI_div, jI_rem, true_or, or_true, false_or, or_false, eq_self, Nat.add_zero]
    rw [wIs_1, if_pos rfl]
    unfold va_cpy
    rw [if_pos (by omega)]
    simp only [Nat.zero_add, Nat.sub_zero]
    exact g2 k hk
  · simp (disch := omega) only [forall_eq, true_and, and_true, false_and, and_false, forall_const, true_implies, implies_true, not_true_eq_false, not_false_eq_true, false_implies, if_true, if_false, ↓reduceIte, Int.toNat_natCast, Int.reduceEq, Int.reduceNe, Int.reduceLT, Int.reduceLE, Int.reduceToNat, Int.reduceAdd, Int.reduceSub, Int.reduceMul, Int.reduceNeg, Nat.reduceAdd, Nat.reduceMul, Nat.reduceSub, iI_lit, jI_lit, iI_add, iI_sub, iI_mul, iI_neg, jI_add, jI_sub, jI_mul, jI_neg, nI_i, lN_j, iI_le, iI_lt, iI_eq, jI_le, jI_lt, jI_eq, iI_in, iI_cl, iI_j, jI_i, cN, inN, wI_eq, wI_ne, wJ_1, wJ_eq, wJ_ne, wI_2, wJ_3, iI_div, iI_rem, jI_div, jI_rem, true_or, or_true, false_or, or_false, eq_self, Nat.add_zero]
  · simp (disch := omega) only [forall_eq, true_and, and_true, false_and, and_false, forall_const, true_implies, implies_true, not_true_eq_false, not_false_eq_true, false_implies, if_true, if_false, ↓reduceIte, Int.toNat_natCast, Int.reduceEq, Int.reduceNe, Int.reduceLT, Int.reduceLE, Int.reduceToNat, Int.reduceAdd, Int.reduceSub, Int.reduceMul, Int.reduceNeg, Nat.reduceAdd, Nat.reduceMul, Nat.reduceSub, iI_lit, jI_lit, iI_add, iI_sub, iI_mul, iI_neg, jI_add, jI_sub, jI_mul, jI_neg, nI_i, lN_j, iI_le, iI_lt, iI_eq, jI_le, jI_lt, jI_eq, iI_in, iI_cl, iI_j, jI_i, cN, inN, wI_eq, wI_ne, wJ_1, wJ_eq, wJ_ne, wI_2, wJ_3, iI_div, iI_rem, jI_div, jI_rem, true_or, or_true, false_or, or_false, eq_self, Nat.add_zero]
  · simp (disch := omega) only [forall_eq, true_and, and_true, false_and, and_false, forall_const, true_implies, implies_true, not_true_eq_false, not_false_eq_true, false_implies, if_true, if_false, ↓reduceIte, Int.toNat_natCast, Int.reduceEq, Int.reduceNe, Int.reduceLT, Int.reduceLE, Int.reduceToNat, Int.reduceAdd, Int.reduceSub, Int.reduceMul, Int.reduceNeg, Nat.reduceAdd, Nat.reduceMul, Nat.reduceSub, iI_lit, jI_lit, iI_add, iI_sub, iI_mul, iI_neg, jI_add, jI_sub, jI_mul, jI_neg, nI_i, lN_j, iI_le, iI_lt, iI_eq, jI_le, jI_lt, jI_eq, iI_in, iI_cl, iI_j, jI_i, cN, inN, wI_eq, wI_ne, wJ_1, wJ_eq, wJ_ne, wI_2, wJ_3, iI_div, iI_rem, jI_div, jI_rem, true_or, or_true, false_or, or_false, eq_self, Nat.add_zero]
  · simp (disch := omega) only [forall_eq, true_and, and_true, false_and, and_false, forall_const, true_implies, implies_true, not_true_eq_false, not_false_eq_true, false_implies, if_true, if_false, ↓reduceIte, Int.toNat_natCast, Int.reduceEq, Int.reduceNe, Int.reduceLT, Int.reduceLE, Int.reduceToNat, Int.reduceAdd, Int.reduceSub, Int.reduceMul, Int.reduceNeg, Nat.reduceAdd, Nat.reduceMul, Nat.reduceSub, iI_lit, jI_lit, iI_add, iI_sub, iI_mul, iI_neg, jI_add, jI_sub, jI_mul, jI_neg, nI_i, lN_j, iI_le, iI_lt, iI_eq, jI_le, jI_lt, jI_eq, iI_in, iI_cl, iI_j, jI_i, cN, inN, wI_eq, wI_ne, wJ_1, wJ_eq, wJ_ne, wI_2, wJ_3, iI_div, iI_rem, jI_div, jI_rem, true_or, or_true, false_or, or_false, eq_self, Nat.add_zero]
  · simp (disch := omega) only [forall_eq, true_and, and_true, false_and, and_false, forall_const, true_implies, implies_true, not_true_eq_false, not_false_eq_true, false_implies, if_true, if_false, ↓reduceIte, Int.toNat_natCast, Int.reduceEq, Int.reduceNe, Int.reduceLT, Int.reduceLE, Int.reduceToNat, Int.reduceAdd, Int.reduceSub, Int.reduceMul, Int.reduceNeg, Nat.reduceAdd, Nat.reduceMul, Nat.reduceSub, iI_lit, jI_lit, iI_add, iI_sub, iI_mul, iI_neg, jI_add, jI_sub, jI_mul, jI_neg, nI_i, lN_j, iI_le, iI_lt, iI_eq, jI_le, jI_lt, jI_eq, iI_in, iI_cl, iI_j, jI_i, cN, inN, wI_eq, wI_ne, wJ_1, wJ_eq, wJ_ne, wI_2, wJ_3, iI_div, iI_rem, jI_div, jI_rem, true_or, or_true, false_or, or_false, eq_self, Nat.add_zero]
  · simp (disch := omega) only [forall_eq, true_and, and_true, false_and, and_false, forall_const, true_implies, implies_true, not_true_eq_false, not_false_eq_true, false_implies, if_true, if_false, ↓reduceIte, Int.toNat_natCast, Int.reduceEq, Int.reduceNe, Int.reduceLT, Int.reduceLE, Int.reduceToNat, Int.reduceAdd, Int.reduceSub, Int.reduceMul, Int.reduceNeg, Nat.reduceAdd, Nat.reduceMul, Nat.reduceSub, iI_lit, jI_lit, iI_add, iI_sub, iI_mul, iI_neg, jI_add, jI_sub, jI_mul, jI_neg, nI_i, lN_j, iI_le, iI_lt, iI_eq, jI_le, jI_lt, jI_eq, iI_in, iI_cl, iI_j, jI_i, cN, inN, wI_eq, wI_ne, wJ_1, wJ_eq, wJ_ne, wI_2, wJ_3, iI_div, iI_rem, jI_div, jI_rem, true_or, or_true, false_or, or_false, eq_self, Nat.add_zero]
  · simp (disch := omega) only [forall_eq, true_and, and_true, false_and, and_false, forall_const, true_implies, implies_true, not_true_eq_false, not_false_eq_true, false_implies, if_true, if_false, ↓reduceIte, Int.toNat_natCast, Int.reduceEq, Int.reduceNe, Int.reduceLT, Int.reduceLE, Int.reduceToNat, Int.reduceAdd, Int.reduceSub, Int.reduceMul, Int.reduceNeg, Nat.reduceAdd, Nat.reduceMul, Nat.reduceSub, iI_lit, jI_lit, iI_add, iI_sub, iI_mul, iI_neg, jI_add, jI_sub, jI_mul, jI_neg, nI_i, lN_j, iI_le, iI_lt, iI_eq, jI_le, jI_lt, jI_eq, iI_in, iI_cl, iI_j, jI_i, cN, inN, wI_eq, wI_ne, wJ_1, wJ_eq, wJ_ne, wI_2, wJ_3, iI_div, iI_rem, jI_div, jI_rem, true_or, or_true, false_or, or_false, eq_self, Nat.add_zero]
  · simp (disch := omega) only [forall_eq, true_and, and_true, false_and, and_false, forall_const, true_implies, implies_true, not_true_eq_false, not_false_eq_true, false_implies, if_true, if_false, ↓reduceIte, Int.toNat_natCast, Int.reduceEq, Int.reduceNe, Int.reduceLT, Int.reduceLE, Int.reduceToNat, Int.reduceAdd, Int.reduceSub, Int.reduceMul, Int.reduceNeg, Nat.reduceAdd, Nat.reduceMul, Nat.reduceSub, iI_lit, jI_lit, iI_add, iI_sub, iI_mul, iI_neg, jI_add, jI_sub, jI_mul, jI_neg, nI_i, lN_j, iI_le, iI_lt, iI_eq, jI_le, jI_lt, jI_eq, iI_in, iI_cl, iI_j, jI_i, cN, inN, wI_eq, wI_ne, wJ_1, wJ_eq, wJ_ne, wI_2, wJ_3, iI_div, iI_rem, jI_div, jI_rem, true_or, or_true, false_or, or_false, eq_self, Nat.add_zero, (x6 hg).1]
  · simp (disch := omega) only [forall_eq, true_and, and_true, false_and, and_false, forall_const, true_implies, implies_true, not_true_eq_false, not_false_eq_true, false_implies, if_true, if_false, ↓reduceIte, Int.toNat_natCast, Int.reduceEq, Int.reduceNe, Int.reduceLT, Int.reduceLE, Int.reduceToNat, Int.reduceAdd, Int.reduceSub, Int.reduceMul, Int.reduceNeg, Nat.reduceAdd, Nat.reduceMul, Nat.reduceSub, iI_lit, jI_lit, iI_add, iI_sub, iI_mul, iI_neg, jI_add, jI_sub, jI_mul, jI_neg, nI_i, lN_j, iI_le, iI_lt, iI_eq, jI_le, jI_lt, jI_eq, iI_in, iI_cl, iI_j, jI_i, cN, inN, wI_eq, wI_ne, wJ_1, wJ_eq, wJ_ne, wI_2, wJ_3, iI_div, iI_rem, jI_div, jI_rem, true_or, or_true, false_or, or_false, eq_self, Nat.add_zero, (x6 hg).2]
end TN2
