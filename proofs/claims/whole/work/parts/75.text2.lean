/-! the class reads a text: all of it -/
def nt (P : List Int) : Prop := tp P ≠ 116 ∧ tp P ≠ 109 ∧ tp P ≠ 42
theorem eU_nt {P : List Int} {t : Nat → Int} {n o : Nat} (h : nt P) : eU P t n o = (t, n, P, o) := by
  cases P with
  | nil => rfl
  | cons x P =>
    have h1 : x ≠ 116 := h.1
    have h2 : x ≠ 109 := h.2.1
    have h3 : x ≠ 42 := h.2.2
    rw [eU, if_neg h1, if_neg h2, if_neg h3]
def cs (m0 m : sm_M) (t : Nat → Int) (n : Nat) (P : List Int) (o : Nat) : Prop := ck m0 m t n P o ∨ ∃ t1 n1, t = tup t1 n1 11 ∧ n = n1 + 1 ∧ ck m0 m t1 n1 (43 :: P) o
section TX2
variable {E : sm_E} {L : sm_S → Prop} {d : Nat} {m m0 : sm_M}
theorem c_endUnit {Q : sm_M → Prop} {P : List Int} {t : Nat → Int} {n o : Nat} (hly : ∀ S, L S → ly S) (hT : sm_tan L 14 100) (hd : 3 ≤ d) (hc : ck m0 m t n P o) (hl : P.length + n ≤ 100) (ho : o ≤ 6) (h : ∀ m', ckx m0 m' (eU P t n o) → Q m') : sm_callV E L mX9_endUnit d 0 0 [.ref (sm_B E + 10)] m Q :=
  vX9_endUnit_0 hd (c_endUnit_loop hly hT hd P 0 m t n o hc hl (by omega) h)
theorem c_isOpener {Q : Int32 → sm_M → Prop} {x : Int} (hd : 1 ≤ d) (x1 : -1 ≤ x) (x2 : x ≤ 255) (h : Q (iI (if x = 40 ∨ x = 116 ∨ x = 109 then 1 else 0)) m) : sm_callI E L mX9_isOpener d 0 0 [.int (iI x)] m Q := by
  refine vX9_isOpener_0 hd ?_
  simp (disch := omega) only [forall_eq, true_and, and_true, false_and, and_false, forall_const, true_implies, implies_true, not_true_eq_false, not_false_eq_true, false_implies, if_true, if_false, ↓reduceIte, Int.toNat_natCast, Int.reduceEq, Int.reduceNe, Int.reduceLT, Int.reduceLE, Int.reduceToNat, Int.reduceAdd, Int.reduceSub, Int.reduceMul, Int.reduceNeg, Nat.reduceAdd, Nat.reduceMul, Nat.reduceSub, iI_lit, jI_lit, iI_add, iI_sub, iI_mul, iI_neg, jI_add, jI_sub, jI_mul, jI_neg, nI_i, lN_j, iI_le, iI_lt, iI_eq, jI_le, jI_lt, jI_eq, iI_in, iI_cl, iI_j, jI_i, cN, inN, wI_eq, wI_ne, wJ_1, wJ_eq, wJ_ne, wI_2, wJ_3, iI_div, iI_rem, jI_div, jI_rem, true_or, or_true, false_or, or_false, eq_self, Nat.add_zero]
  refine ⟨fun z => ?_, fun z => ⟨fun z2 => ?_, fun z2 => ⟨fun z3 => ?_, fun z3 => ?_⟩⟩⟩
  · rw [if_pos (by omega)] at h; exact h
  · rw [if_pos (by omega)] at h; exact h
  · rw [if_neg (by omega)] at h; exact h
  · rw [if_pos (by omega)] at h; exact h
theorem c_postpone {Q : sm_M → Prop} {t : Nat → Int} {n o : Nat} {P : List Int} {x : Int32} (hly : ∀ S, L S → ly S) (hd : 1 ≤ d) (h6 : m.1 10 6 = iI (P.length : Nat)) (hl : P.length < 100) (h : Q (sm_wI (sm_wI m 12 P.length x) 10 6 (iI ((P.length + 1 : Nat) : Int)))) : sm_callV E L mX9_postpone d 0 0 [.ref (sm_B E + 10), .int x] m Q := by
  have e5 : ((P.length : Nat) : Int) + 1 = ((P.length + 1 : Nat) : Int) := by omega
  refine vX9_postpone_0 hly hd ?_
  rw [h6]
  refine ⟨fun z => ?_, fun _ => ⟨?_, ?_⟩⟩
  · simp (disch := omega) only [forall_eq, true_and, and_true, false_and, and_false, forall_const, true_implies, implies_true, not_true_eq_false, not_false_eq_true, false_implies, if_true, if_false, ↓reduceIte, Int.toNat_natCast, Int.reduceEq, Int.reduceNe, Int.reduceLT, Int.reduceLE, Int.reduceToNat, Int.reduceAdd, Int.reduceSub, Int.reduceMul, Int.reduceNeg, Nat.reduceAdd, Nat.reduceMul, Nat.reduceSub, iI_lit, jI_lit, iI_add, iI_sub, iI_mul, iI_neg, jI_add, jI_sub, jI_mul, jI_neg, nI_i, lN_j, iI_le, iI_lt, iI_eq, jI_le, jI_lt, jI_eq, iI_in, iI_cl, iI_j, jI_i, cN, inN, wI_eq, wI_ne, wJ_1, wJ_eq, wJ_ne, wI_2, wJ_3, iI_div, iI_rem, jI_div, jI_rem, true_or, or_true, false_or, or_false, eq_self, Nat.add_zero] at z
    omega
  · simp (disch := omega) only [forall_eq, true_and, and_true, false_and, and_false, forall_const, true_implies, implies_true, not_true_eq_false, not_false_eq_true, false_implies, if_true, if_false, ↓reduceIte, Int.toNat_natCast, Int.reduceEq, Int.reduceNe, Int.reduceLT, Int.reduceLE, Int.reduceToNat, Int.reduceAdd, Int.reduceSub, Int.reduceMul, Int.reduceNeg, Nat.reduceAdd, Nat.reduceMul, Nat.reduceSub, iI_lit, jI_lit, iI_add, iI_sub, iI_mul, iI_neg, jI_add, jI_sub, jI_mul, jI_neg, nI_i, lN_j, iI_le, iI_lt, iI_eq, jI_le, jI_lt, jI_eq, iI_in, iI_cl, iI_j, jI_i, cN, inN, wI_eq, wI_ne, wJ_1, wJ_eq, wJ_ne, wI_2, wJ_3, iI_div, iI_rem, jI_div, jI_rem, true_or, or_true, false_or, or_false, eq_self, Nat.add_zero]
    omega
  · intro m1 e1 m3 e3
    rw [cN (by omega)] at e1
    subst e1
    rw [wI_ne (by omega), h6, iI_lit, iI_add, e5] at e3
    subst e3
    exact h
variable {b : Nat → Int} {N : Nat}
/-- what the reader stands on -/
def base (m0 : sm_M) (b : Nat → Int) (N : Nat) : Prop := N ≤ 100 ∧ m0.1 10 4 = iI (N : Nat) ∧ ∀ k, k < N → 0 ≤ b k ∧ b k ≤ 255 ∧ m0.1 11 k = iI (b k)
theorem base.len (hb : base m0 b N) {t : Nat → Int} {n o : Nat} {P : List Int} (hc : fr rdP m0 m) : m.1 10 4 = iI (N : Nat) := (hc.i (by unfold rdP; omega)).trans hb.2.1
theorem base.at (hb : base m0 b N) (hc : fr rdP m0 m) {i : Nat} (hi : i < N) : m.1 11 i = iI (b i) := (hc.i (by unfold rdP; omega)).trans (hb.2.2 i hi).2.2
theorem t_opn {Q : Int32 → sm_M → Prop} {vs : List Value} {t : Nat → Int} {n o i : Nat} {P : List Int} (hly : ∀ S, L S → ly S) (hd : 5 ≤ d) (hb : base m0 b N) (hc : ck m0 m t n P o) (hi : i < N) (hx : b i = 40 ∨ b i = 116 ∨ b i = 109) (hl : P.length + n ≤ i) (h6 : ¬ o < 6 → Q (iI (i : Nat)) m) (h : o < 6 → ∀ m', ck m0 m' t n (b i :: P) (o + 1) → gX9_readText_21 E L d vs 1 (iI ((i + 1 : Nat) : Int)) m' Q) (ho : o ≤ 6) : gX9_readText_21 E L d vs 1 (iI (i : Nat)) m Q := by
  have hN := hb.1
  have hlen := hb.len (t := t) (n := n) (o := o) (P := P) hc.1
  have hat := hb.at hc.1 hi
  have e5 : ((i : Nat) : Int) + 1 = ((i + 1 : Nat) : Int) := by omega
  have e7 : ((o : Nat) : Int) + 1 = ((o + 1 : Nat) : Int) := by omega
  refine vX9_readText_21 hly hd ⟨fun z => ?_, fun _ => ⟨?_, ?_⟩⟩
  · rw [hlen] at z
    simp (disch := omega) only [forall_eq, true_and, and_true, false_and, and_false, forall_const, true_implies, implies_true, not_true_eq_false, not_false_eq_true, false_implies, if_true, if_false, ↓reduceIte, Int.toNat_natCast, Int.reduceEq, Int.reduceNe, Int.reduceLT, Int.reduceLE, Int.reduceToNat, Int.reduceAdd, Int.reduceSub, Int.reduceMul, Int.reduceNeg, Nat.reduceAdd, Nat.reduceMul, Nat.reduceSub, iI_lit, jI_lit, iI_add, iI_sub, iI_mul, iI_neg, jI_add, jI_sub, jI_mul, jI_neg, nI_i, lN_j, iI_le, iI_lt, iI_eq, jI_le, jI_lt, jI_eq, iI_in, iI_cl, iI_j, jI_i, cN, inN, wI_eq, wI_ne, wJ_1, wJ_eq, wJ_ne, wI_2, wJ_3, iI_div, iI_rem, jI_div, jI_rem, true_or, or_true, false_or, or_false, eq_self, Nat.add_zero] at z
    omega
  · simp (disch := omega) only [forall_eq, true_and, and_true, false_and, and_false, forall_const, true_implies, implies_true, not_true_eq_false, not_false_eq_true, false_implies, if_true, if_false, ↓reduceIte, Int.toNat_natCast, Int.reduceEq, Int.reduceNe, Int.reduceLT, Int.reduceLE, Int.reduceToNat, Int.reduceAdd, Int.reduceSub, Int.reduceMul, Int.reduceNeg, Nat.reduceAdd, Nat.reduceMul, Nat.reduceSub, iI_lit, jI_lit, iI_add, iI_sub, iI_mul, iI_neg, jI_add, jI_sub, jI_mul, jI_neg, nI_i, lN_j, iI_le, iI_lt, iI_eq, jI_le, jI_lt, jI_eq, iI_in, iI_cl, iI_j, jI_i, cN, inN, wI_eq, wI_ne, wJ_1, wJ_eq, wJ_ne, wI_2, wJ_3, iI_div, iI_rem, jI_div, jI_rem, true_or, or_true, false_or, or_false, eq_self, Nat.add_zero]
    omega
  intro x3 e3
  rw [cN (by omega), hat] at e3
  subst e3
  refine ⟨fun z => absurd z (by decide), fun _ => c_isOpener (by omega) (by omega) (by omega) ?_⟩
  rw [if_pos hx]
  refine ⟨fun z => absurd z (by decide), fun _ => ⟨fun z => ?_, fun z => h6 (fun q => z ?_)⟩⟩
  · rw [hc.2.2.2.2.1] at z ⊢
    simp (disch := omega) only [forall_eq, true_and, and_true, false_and, and_false, forall_const, true_implies, implies_true, not_true_eq_false, not_false_eq_true, false_implies, if_true, if_false, ↓reduceIte, Int.toNat_natCast, Int.reduceEq, Int.reduceNe, Int.reduceLT, Int.reduceLE, Int.reduceToNat, Int.reduceAdd, Int.reduceSub, Int.reduceMul, Int.reduceNeg, Nat.reduceAdd, Nat.reduceMul, Nat.reduceSub, iI_lit, jI_lit, iI_add, iI_sub, iI_mul, iI_neg, jI_add, jI_sub, jI_mul, jI_neg, nI_i, lN_j, iI_le, iI_lt, iI_eq, jI_le, jI_lt, jI_eq, iI_in, iI_cl, iI_j, jI_i, cN, inN, wI_eq, wI_ne, wJ_1, wJ_eq, wJ_ne, wI_2, wJ_3, iI_div, iI_rem, jI_div, jI_rem, true_or, or_true, false_or, or_false, eq_self, Nat.add_zero] at z
    intro m6 e6
    rw [iI_lit, iI_add, e7] at e6
    subst e6
    refine c_postpone (P := P) (t := t) (n := n) (o := o) hly (by omega) ((wI_ne (by omega)).trans hc.2.2.1) (by omega) ?_
    intro x2 e2
    rw [iI_lit, iI_add, e5] at e2
    subst e2
    exact h (by omega) _ (hc.opn hx)
  · rw [hc.2.2.2.2.1]
    simp (disch := omega) only [forall_eq, true_and, and_true, false_and, and_false, forall_const, true_implies, implies_true, not_true_eq_false, not_false_eq_true, false_implies, if_true, if_false, ↓reduceIte, Int.toNat_natCast, Int.reduceEq, Int.reduceNe, Int.reduceLT, Int.reduceLE, Int.reduceToNat, Int.reduceAdd, Int.reduceSub, Int.reduceMul, Int.reduceNeg, Nat.reduceAdd, Nat.reduceMul, Nat.reduceSub, iI_lit, jI_lit, iI_add, iI_sub, iI_mul, iI_neg, jI_add, jI_sub, jI_mul, jI_neg, nI_i, lN_j, iI_le, iI_lt, iI_eq, jI_le, jI_lt, jI_eq, iI_in, iI_cl, iI_j, jI_i, cN, inN, wI_eq, wI_ne, wJ_1, wJ_eq, wJ_ne, wI_2, wJ_3, iI_div, iI_rem, jI_div, jI_rem, true_or, or_true, false_or, or_false, eq_self, Nat.add_zero]
    omega
theorem t_end {Q : Int32 → sm_M → Prop} {vs : List Value} {t : Nat → Int} {n o : Nat} {P : List Int} (hly : ∀ S, L S → ly S) (hT : sm_tan L 14 100) (hd : 5 ≤ d) (hb : base m0 b N) (hc : ck m0 m t n P o) (hl : P.length + n ≤ N) (h : ∀ m', fr rdP m0 m' → Q (iI (N : Nat)) m') : gX9_readText_21 E L d vs 1 (iI (N : Nat)) m Q := by
  have hN := hb.1
  have hlen := hb.len (t := t) (n := n) (o := o) (P := P) hc.1
  have fin : ∀ m', fr rdP m0 m' → Q (m'.1 10 4) m' := fun m' f' => by
    rw [hb.len (t := t) (n := n) (o := o) (P := P) f']
    exact h m' f'
  refine vX9_readText_21 hly hd ⟨fun _ => c_endSum hly hT (by omega) hc (by omega) (fun _ => ?_) (fun P' e m' hc' => ?_), fun z => ?_⟩
  · exact ⟨fun _ => fin m hc.1, fun z => absurd z (by decide)⟩
  · exact ⟨fun _ => fin m' hc'.1, fun z => absurd z (by decide)⟩
  · rw [hlen] at z
    exact absurd (Int32.le_refl _) z
/-- a leaf, or a fault -/
theorem t_leaf {Q : Int32 → sm_M → Prop} {vs : List Value} {t : Nat → Int} {n o i : Nat} {P : List Int} (hly : ∀ S, L S → ly S) (hT : sm_tan L 14 100) (hd : 5 ≤ d) (hb : base m0 b N) (hc : ck m0 m t n P o) (hi : i < N) (ho : o ≤ 6) (hx : ¬ (b i = 40 ∨ b i = 116 ∨ b i = 109)) (hl : P.length + n ≤ i)
    (h1 : b i ≠ 45 → (48 ≤ b i ∧ b i ≤ 57) → ∀ m', ckx m0 m' (eU P (tup t n (b i - 48)) (n + 1) o) → gX9_readText_21 E L d vs 0 (iI ((i + 1 : Nat) : Int)) m' Q)
    (h2 : b i = 105 → ∀ m', ckx m0 m' (eU P (tup t n 10) (n + 1) o) → gX9_readText_21 E L d vs 0 (iI ((i + 1 : Nat) : Int)) m' Q)
    (h3 : b i ≠ 45 → b i ≠ 105 → ¬ (48 ≤ b i ∧ b i ≤ 57) → Q (iI (i : Nat)) m)
    (h4 : b i = 45 → (48 ≤ bt b N (i + 1) ∧ bt b N (i + 1) ≤ 57) → ∀ m', ckx m0 m' (eU P (tup t n (48 - bt b N (i + 1))) (n + 1) o) → gX9_readText_21 E L d vs 0 (iI ((i + 2 : Nat) : Int)) m' Q)
    (h5 : b i = 45 → ¬ (48 ≤ bt b N (i + 1) ∧ bt b N (i + 1) ≤ 57) → Q (iI ((i + 1 : Nat) : Int)) m) : gX9_readText_21 E L d vs 1 (iI (i : Nat)) m Q := by
  have hN := hb.1
  have hlen := hb.len (t := t) (n := n) (o := o) (P := P) hc.1
  have hat := hb.at hc.1 hi
  have hbi := hb.2.2 i hi
  have e5 : ((i : Nat) : Int) + 1 = ((i + 1 : Nat) : Int) := by omega
  have e6 : ((i + 1 : Nat) : Int) + 1 = ((i + 2 : Nat) : Int) := by omega
  refine vX9_readText_21 hly hd ⟨fun z => ?_, fun _ => ⟨?_, ?_⟩⟩
  · rw [hlen] at z
    simp (disch := omega) only [forall_eq, true_and, and_true, false_and, and_false, forall_const, true_implies, implies_true, not_true_eq_false, not_false_eq_true, false_implies, if_true, if_false, ↓reduceIte, Int.toNat_natCast, Int.reduceEq, Int.reduceNe, Int.reduceLT, Int.reduceLE, Int.reduceToNat, Int.reduceAdd, Int.reduceSub, Int.reduceMul, Int.reduceNeg, Nat.reduceAdd, Nat.reduceMul, Nat.reduceSub, iI_lit, jI_lit, iI_add, iI_sub, iI_mul, iI_neg, jI_add, jI_sub, jI_mul, jI_neg, nI_i, lN_j, iI_le, iI_lt, iI_eq, jI_le, jI_lt, jI_eq, iI_in, iI_cl, iI_j, jI_i, cN, inN, wI_eq, wI_ne, wJ_1, wJ_eq, wJ_ne, wI_2, wJ_3, iI_div, iI_rem, jI_div, jI_rem, true_or, or_true, false_or, or_false, eq_self, Nat.add_zero] at z
    omega
  · simp (disch := omega) only [forall_eq, true_and, and_true, false_and, and_false, forall_const, true_implies, implies_true, not_true_eq_false, not_false_eq_true, false_implies, if_true, if_false, ↓reduceIte, Int.toNat_natCast, Int.reduceEq, Int.reduceNe, Int.reduceLT, Int.reduceLE, Int.reduceToNat, Int.reduceAdd, Int.reduceSub, Int.reduceMul, Int.reduceNeg, Nat.reduceAdd, Nat.reduceMul, Nat.reduceSub, iI_lit, jI_lit, iI_add, iI_sub, iI_mul, iI_neg, jI_add, jI_sub, jI_mul, jI_neg, nI_i, lN_j, iI_le, iI_lt, iI_eq, jI_le, jI_lt, jI_eq, iI_in, iI_cl, iI_j, jI_i, cN, inN, wI_eq, wI_ne, wJ_1, wJ_eq, wJ_ne, wI_2, wJ_3, iI_div, iI_rem, jI_div, jI_rem, true_or, or_true, false_or, or_false, eq_self, Nat.add_zero]
    omega
  intro x3 e3
  rw [cN (by omega), hat] at e3
  subst e3
  refine ⟨fun z => absurd z (by decide), fun _ => c_isOpener (by omega) (by omega) (by omega) ?_⟩
  rw [if_neg hx]
  refine ⟨fun _ => vX9_readText_76 hly hd ⟨fun z => absurd z (by decide), fun _ => ⟨fun z => ?_, fun z => ?_⟩⟩, fun z => absurd rfl z⟩
  · have hz : b i ≠ 45 := fun q => z (by rw [q]; rfl)
    have nx : ∀ m', gX9_readText_21 E L d vs 0 (iI ((i + 1 : Nat) : Int)) m' Q → (iI (-1) < 0 → ∀ x2_5 : Int32, x2_5 = iI (i : Nat) + 1 → gX9_readText_21 E L d vs 0 x2_5 m' Q) := fun m' h _ x2 e2 => by
      rw [iI_lit, iI_add, e5] at e2
      subst e2
      exact h
    refine vX9_readText_101 hly hd (vX9_readLeaf_0 hly (by omega) ⟨fun _ => ⟨?_, ?_⟩, fun z2 => ?_⟩)
    · simp (disch := omega) only [forall_eq, true_and, and_true, false_and, and_false, forall_const, true_implies, implies_true, not_true_eq_false, not_false_eq_true, false_implies, if_true, if_false, ↓reduceIte, Int.toNat_natCast, Int.reduceEq, Int.reduceNe, Int.reduceLT, Int.reduceLE, Int.reduceToNat, Int.reduceAdd, Int.reduceSub, Int.reduceMul, Int.reduceNeg, Nat.reduceAdd, Nat.reduceMul, Nat.reduceSub, iI_lit, jI_lit, iI_add, iI_sub, iI_mul, iI_neg, jI_add, jI_sub, jI_mul, jI_neg, nI_i, lN_j, iI_le, iI_lt, iI_eq, jI_le, jI_lt, jI_eq, iI_in, iI_cl, iI_j, jI_i, cN, inN, wI_eq, wI_ne, wJ_1, wJ_eq, wJ_ne, wI_2, wJ_3, iI_div, iI_rem, jI_div, jI_rem, true_or, or_true, false_or, or_false, eq_self, Nat.add_zero]
      omega
    · intro x3 e3
      rw [cN (by omega), hat] at e3
      subst e3
      have g57 : ¬ (48 ≤ b i ∧ b i ≤ 57) → gX9_readLeaf_57 E L 4 [.ref (sm_B E + 10), .int (iI (i : Nat)), .int 0] (iI (i : Nat)) 0 (iI (b i)) m (fun r_2 m_1 => (r_2 < 0 → ∀ x2_5 : Int32, x2_5 = iI (i : Nat) + 1 → gX9_readText_21 E L d vs 0 x2_5 m_1 Q) ∧ (¬ r_2 < 0 → Q r_2 m_1)) := by
        intro hnd
        refine vX9_readLeaf_57 hly (by omega) ⟨fun z2 => ⟨fun z3 => ?_, fun _ => h3 hz (fun q => z2 (by rw [q]; rfl)) hnd⟩, fun z2 => ⟨fun z3 => absurd rfl z3, fun _ => ?_⟩⟩
        · simp (disch := omega) only [forall_eq, true_and, and_true, false_and, and_false, forall_const, true_implies, implies_true, not_true_eq_false, not_false_eq_true, false_implies, if_true, if_false, ↓reduceIte, Int.toNat_natCast, Int.reduceEq, Int.reduceNe, Int.reduceLT, Int.reduceLE, Int.reduceToNat, Int.reduceAdd, Int.reduceSub, Int.reduceMul, Int.reduceNeg, Nat.reduceAdd, Nat.reduceMul, Nat.reduceSub, iI_lit, jI_lit, iI_add, iI_sub, iI_mul, iI_neg, jI_add, jI_sub, jI_mul, jI_neg, nI_i, lN_j, iI_le, iI_lt, iI_eq, jI_le, jI_lt, jI_eq, iI_in, iI_cl, iI_j, jI_i, cN, inN, wI_eq, wI_ne, wJ_1, wJ_eq, wJ_ne, wI_2, wJ_3, iI_div, iI_rem, jI_div, jI_rem, true_or, or_true, false_or, or_false, eq_self, Nat.add_zero] at z3
          omega
        · simp (disch := omega) only [forall_eq, true_and, and_true, false_and, and_false, forall_const, true_implies, implies_true, not_true_eq_false, not_false_eq_true, false_implies, if_true, if_false, ↓reduceIte, Int.toNat_natCast, Int.reduceEq, Int.reduceNe, Int.reduceLT, Int.reduceLE, Int.reduceToNat, Int.reduceAdd, Int.reduceSub, Int.reduceMul, Int.reduceNeg, Nat.reduceAdd, Nat.reduceMul, Nat.reduceSub, iI_lit, jI_lit, iI_add, iI_sub, iI_mul, iI_neg, jI_add, jI_sub, jI_mul, jI_neg, nI_i, lN_j, iI_le, iI_lt, iI_eq, jI_le, jI_lt, jI_eq, iI_in, iI_cl, iI_j, jI_i, cN, inN, wI_eq, wI_ne, wJ_1, wJ_eq, wJ_ne, wI_2, wJ_3, iI_div, iI_rem, jI_div, jI_rem, true_or, or_true, false_or, or_false, eq_self, Nat.add_zero] at z2
          refine c_add (z := 10) hT (by omega) hc.2.1 (by omega) (by omega) (by omega) (by omega) (fun m1 f1 g1 => c_endUnit hly hT (by omega) (hc.add f1 g1) (by omega) ho (fun m' h' => ?_))
          exact ⟨nx m' (h2 z2 m' h'), fun z4 => absurd (by decide) z4⟩
      refine ⟨fun z2 => g57 ?_, fun z2 => ⟨fun z3 => g57 ?_, fun z3 => ⟨fun _ => ?_, fun z4 => absurd rfl z4⟩⟩⟩
      · simp (disch := omega) only [forall_eq, true_and, and_true, false_and, and_false, forall_const, true_implies, implies_true, not_true_eq_false, not_false_eq_true, false_implies, if_true, if_false, ↓reduceIte, Int.toNat_natCast, Int.reduceEq, Int.reduceNe, Int.reduceLT, Int.reduceLE, Int.reduceToNat, Int.reduceAdd, Int.reduceSub, Int.reduceMul, Int.reduceNeg, Nat.reduceAdd, Nat.reduceMul, Nat.reduceSub, iI_lit, jI_lit, iI_add, iI_sub, iI_mul, iI_neg, jI_add, jI_sub, jI_mul, jI_neg, nI_i, lN_j, iI_le, iI_lt, iI_eq, jI_le, jI_lt, jI_eq, iI_in, iI_cl, iI_j, jI_i, cN, inN, wI_eq, wI_ne, wJ_1, wJ_eq, wJ_ne, wI_2, wJ_3, iI_div, iI_rem, jI_div, jI_rem, true_or, or_true, false_or, or_false, eq_self, Nat.add_zero] at z2
        omega
      · simp (disch := omega) only [forall_eq, true_and, and_true, false_and, and_false, forall_const, true_implies, implies_true, not_true_eq_false, not_false_eq_true, false_implies, if_true, if_false, ↓reduceIte, Int.toNat_natCast, Int.reduceEq, Int.reduceNe, Int.reduceLT, Int.reduceLE, Int.reduceToNat, Int.reduceAdd, Int.reduceSub, Int.reduceMul, Int.reduceNeg, Nat.reduceAdd, Nat.reduceMul, Nat.reduceSub, iI_lit, jI_lit, iI_add, iI_sub, iI_mul, iI_neg, jI_add, jI_sub, jI_mul, jI_neg, nI_i, lN_j, iI_le, iI_lt, iI_eq, jI_le, jI_lt, jI_eq, iI_in, iI_cl, iI_j, jI_i, cN, inN, wI_eq, wI_ne, wJ_1, wJ_eq, wJ_ne, wI_2, wJ_3, iI_div, iI_rem, jI_div, jI_rem, true_or, or_true, false_or, or_false, eq_self, Nat.add_zero] at z3
        omega
      · simp (disch := omega) only [forall_eq, true_and, and_true, false_and, and_false, forall_const, true_implies, implies_true, not_true_eq_false, not_false_eq_true, false_implies, if_true, if_false, ↓reduceIte, Int.toNat_natCast, Int.reduceEq, Int.reduceNe, Int.reduceLT, Int.reduceLE, Int.reduceToNat, Int.reduceAdd, Int.reduceSub, Int.reduceMul, Int.reduceNeg, Nat.reduceAdd, Nat.reduceMul, Nat.reduceSub, iI_lit, jI_lit, iI_add, iI_sub, iI_mul, iI_neg, jI_add, jI_sub, jI_mul, jI_neg, nI_i, lN_j, iI_le, iI_lt, iI_eq, jI_le, jI_lt, jI_eq, iI_in, iI_cl, iI_j, jI_i, cN, inN, wI_eq, wI_ne, wJ_1, wJ_eq, wJ_ne, wI_2, wJ_3, iI_div, iI_rem, jI_div, jI_rem, true_or, or_true, false_or, or_false, eq_self, Nat.add_zero] at z2
        simp (disch := omega) only [forall_eq, true_and, and_true, false_and, and_false, forall_const, true_implies, implies_true, not_true_eq_false, not_false_eq_true, false_implies, if_true, if_false, ↓reduceIte, Int.toNat_natCast, Int.reduceEq, Int.reduceNe, Int.reduceLT, Int.reduceLE, Int.reduceToNat, Int.reduceAdd, Int.reduceSub, Int.reduceMul, Int.reduceNeg, Nat.reduceAdd, Nat.reduceMul, Nat.reduceSub, iI_lit, jI_lit, iI_add, iI_sub, iI_mul, iI_neg, jI_add, jI_sub, jI_mul, jI_neg, nI_i, lN_j, iI_le, iI_lt, iI_eq, jI_le, jI_lt, jI_eq, iI_in, iI_cl, iI_j, jI_i, cN, inN, wI_eq, wI_ne, wJ_1, wJ_eq, wJ_ne, wI_2, wJ_3, iI_div, iI_rem, jI_div, jI_rem, true_or, or_true, false_or, or_false, eq_self, Nat.add_zero] at z3
        rw [iI_lit, iI_sub]
        refine c_add (z := b i - 48) hT (by omega) hc.2.1 (by omega) (by omega) (by omega) (by omega) (fun m1 f1 g1 => c_endUnit hly hT (by omega) (hc.add f1 g1) (by omega) ho (fun m' h' => ?_))
        exact ⟨nx m' (h1 hz (by omega) m' h'), fun z4 => absurd (by decide) z4⟩
    · rw [hlen] at z2
      simp (disch := omega) only [forall_eq, true_and, and_true, false_and, and_false, forall_const, true_implies, implies_true, not_true_eq_false, not_false_eq_true, false_implies, if_true, if_false, ↓reduceIte, Int.toNat_natCast, Int.reduceEq, Int.reduceNe, Int.reduceLT, Int.reduceLE, Int.reduceToNat, Int.reduceAdd, Int.reduceSub, Int.reduceMul, Int.reduceNeg, Nat.reduceAdd, Nat.reduceMul, Nat.reduceSub, iI_lit, jI_lit, iI_add, iI_sub, iI_mul, iI_neg, jI_add, jI_sub, jI_mul, jI_neg, nI_i, lN_j, iI_le, iI_lt, iI_eq, jI_le, jI_lt, jI_eq, iI_in, iI_cl, iI_j, jI_i, cN, inN, wI_eq, wI_ne, wJ_1, wJ_eq, wJ_ne, wI_2, wJ_3, iI_div, iI_rem, jI_div, jI_rem, true_or, or_true, false_or, or_false, eq_self, Nat.add_zero] at z2
      omega
  · simp (disch := omega) only [forall_eq, true_and, and_true, false_and, and_false, forall_const, true_implies, implies_true, not_true_eq_false, not_false_eq_true, false_implies, if_true, if_false, ↓reduceIte, Int.toNat_natCast, Int.reduceEq, Int.reduceNe, Int.reduceLT, Int.reduceLE, Int.reduceToNat, Int.reduceAdd, Int.reduceSub, Int.reduceMul, Int.reduceNeg, Nat.reduceAdd, Nat.reduceMul, Nat.reduceSub, iI_lit, jI_lit, iI_add, iI_sub, iI_mul, iI_neg, jI_add, jI_sub, jI_mul, jI_neg, nI_i, lN_j, iI_le, iI_lt, iI_eq, jI_le, jI_lt, jI_eq, iI_in, iI_cl, iI_j, jI_i, cN, inN, wI_eq, wI_ne, wJ_1, wJ_eq, wJ_ne, wI_2, wJ_3, iI_div, iI_rem, jI_div, jI_rem, true_or, or_true, false_or, or_false, eq_self, Nat.add_zero] at z
    intro x2 e2
    rw [iI_lit, iI_add, e5] at e2
    subst e2
    have nx : ∀ m', gX9_readText_21 E L d vs 0 (iI ((i + 2 : Nat) : Int)) m' Q → (iI (-1) < 0 → ∀ x2_5 : Int32, x2_5 = iI ((i + 1 : Nat) : Int) + 1 → gX9_readText_21 E L d vs 0 x2_5 m' Q) := fun m' h _ x2 e2 => by
      rw [iI_lit, iI_add, e6] at e2
      subst e2
      exact h
    have neg : ∀ x : Nat, ¬ (iI (x : Nat) < 0) ∨ 2147483647 < x := fun x => by
      by_cases hx : x ≤ 2147483647
      · refine Or.inl (fun q => ?_)
        simp (disch := omega) only [forall_eq, true_and, and_true, false_and, and_false, forall_const, true_implies, implies_true, not_true_eq_false, not_false_eq_true, false_implies, if_true, if_false, ↓reduceIte, Int.toNat_natCast, Int.reduceEq, Int.reduceNe, Int.reduceLT, Int.reduceLE, Int.reduceToNat, Int.reduceAdd, Int.reduceSub, Int.reduceMul, Int.reduceNeg, Nat.reduceAdd, Nat.reduceMul, Nat.reduceSub, iI_lit, jI_lit, iI_add, iI_sub, iI_mul, iI_neg, jI_add, jI_sub, jI_mul, jI_neg, nI_i, lN_j, iI_le, iI_lt, iI_eq, jI_le, jI_lt, jI_eq, iI_in, iI_cl, iI_j, jI_i, cN, inN, wI_eq, wI_ne, wJ_1, wJ_eq, wJ_ne, wI_2, wJ_3, iI_div, iI_rem, jI_div, jI_rem, true_or, or_true, false_or, or_false, eq_self, Nat.add_zero] at q
        omega
      · exact Or.inr (by omega)
    refine vX9_readText_101 hly hd (vX9_readLeaf_0 hly (by omega) ⟨fun z2 => ⟨?_, ?_⟩, fun z2 => ?_⟩)
    · rw [hlen] at z2
      simp (disch := omega) only [forall_eq, true_and, and_true, false_and, and_false, forall_const, true_implies, implies_true, not_true_eq_false, not_false_eq_true, false_implies, if_true, if_false, ↓reduceIte, Int.toNat_natCast, Int.reduceEq, Int.reduceNe, Int.reduceLT, Int.reduceLE, Int.reduceToNat, Int.reduceAdd, Int.reduceSub, Int.reduceMul, Int.reduceNeg, Nat.reduceAdd, Nat.reduceMul, Nat.reduceSub, iI_lit, jI_lit, iI_add, iI_sub, iI_mul, iI_neg, jI_add, jI_sub, jI_mul, jI_neg, nI_i, lN_j, iI_le, iI_lt, iI_eq, jI_le, jI_lt, jI_eq, iI_in, iI_cl, iI_j, jI_i, cN, inN, wI_eq, wI_ne, wJ_1, wJ_eq, wJ_ne, wI_2, wJ_3, iI_div, iI_rem, jI_div, jI_rem, true_or, or_true, false_or, or_false, eq_self, Nat.add_zero] at z2
      simp (disch := omega) only [forall_eq, true_and, and_true, false_and, and_false, forall_const, true_implies, implies_true, not_true_eq_false, not_false_eq_true, false_implies, if_true, if_false, ↓reduceIte, Int.toNat_natCast, Int.reduceEq, Int.reduceNe, Int.reduceLT, Int.reduceLE, Int.reduceToNat, Int.reduceAdd, Int.reduceSub, Int.reduceMul, Int.reduceNeg, Nat.reduceAdd, Nat.reduceMul, Nat.reduceSub, iI_lit, jI_lit, iI_add, iI_sub, iI_mul, iI_neg, jI_add, jI_sub, jI_mul, jI_neg, nI_i, lN_j, iI_le, iI_lt, iI_eq, jI_le, jI_lt, jI_eq, iI_in, iI_cl, iI_j, jI_i, cN, inN, wI_eq, wI_ne, wJ_1, wJ_eq, wJ_ne, wI_2, wJ_3, iI_div, iI_rem, jI_div, jI_rem, true_or, or_true, false_or, or_false, eq_self, Nat.add_zero]
      omega
    · rw [hlen] at z2
      simp (disch := omega) only [forall_eq, true_and, and_true, false_and, and_false, forall_const, true_implies, implies_true, not_true_eq_false, not_false_eq_true, false_implies, if_true, if_false, ↓reduceIte, Int.toNat_natCast, Int.reduceEq, Int.reduceNe, Int.reduceLT, Int.reduceLE, Int.reduceToNat, Int.reduceAdd, Int.reduceSub, Int.reduceMul, Int.reduceNeg, Nat.reduceAdd, Nat.reduceMul, Nat.reduceSub, iI_lit, jI_lit, iI_add, iI_sub, iI_mul, iI_neg, jI_add, jI_sub, jI_mul, jI_neg, nI_i, lN_j, iI_le, iI_lt, iI_eq, jI_le, jI_lt, jI_eq, iI_in, iI_cl, iI_j, jI_i, cN, inN, wI_eq, wI_ne, wJ_1, wJ_eq, wJ_ne, wI_2, wJ_3, iI_div, iI_rem, jI_div, jI_rem, true_or, or_true, false_or, or_false, eq_self, Nat.add_zero] at z2
      have hi1 : i + 1 < N := by omega
      have hat1 := hb.at hc.1 hi1
      have hbi1 := hb.2.2 (i + 1) hi1
      have ebt : bt b N (i + 1) = b (i + 1) := if_pos hi1
      rw [ebt] at h4 h5
      intro x3 e3
      rw [cN (by omega), hat1] at e3
      subst e3
      have g57 : ¬ (48 ≤ b (i + 1) ∧ b (i + 1) ≤ 57) → gX9_readLeaf_57 E L 4 [.ref (sm_B E + 10), .int (iI ((i + 1 : Nat) : Int)), .int 1] (iI ((i + 1 : Nat) : Int)) 1 (iI (b (i + 1))) m (fun r_2 m_1 => (r_2 < 0 → ∀ x2_5 : Int32, x2_5 = iI ((i + 1 : Nat) : Int) + 1 → gX9_readText_21 E L d vs 0 x2_5 m_1 Q) ∧ (¬ r_2 < 0 → Q r_2 m_1)) := by
        intro hnd
        have hf := h5 z hnd
        have hQ : (iI ((i + 1 : Nat) : Int) < 0 → ∀ x2_5 : Int32, x2_5 = iI ((i + 1 : Nat) : Int) + 1 → gX9_readText_21 E L d vs 0 x2_5 m Q) ∧ (¬ iI ((i + 1 : Nat) : Int) < 0 → Q (iI ((i + 1 : Nat) : Int)) m) := ⟨fun q => absurd q ((neg (i + 1)).resolve_right (by omega)), fun _ => hf⟩
        exact vX9_readLeaf_57 hly (by omega) ⟨fun z2 => hQ, fun z2 => ⟨fun _ => hQ, fun z3 => absurd z3 (by decide)⟩⟩
      refine ⟨fun z2 => g57 ?_, fun z2 => ⟨fun z3 => g57 ?_, fun z3 => ⟨fun z4 => absurd z4 (by decide), fun _ => ?_⟩⟩⟩
      · simp (disch := omega) only [forall_eq, true_and, and_true, false_and, and_false, forall_const, true_implies, implies_true, not_true_eq_false, not_false_eq_true, false_implies, if_true, if_false, ↓reduceIte, Int.toNat_natCast, Int.reduceEq, Int.reduceNe, Int.reduceLT, Int.reduceLE, Int.reduceToNat, Int.reduceAdd, Int.reduceSub, Int.reduceMul, Int.reduceNeg, Nat.reduceAdd, Nat.reduceMul, Nat.reduceSub, iI_lit, jI_lit, iI_add, iI_sub, iI_mul, iI_neg, jI_add, jI_sub, jI_mul, jI_neg, nI_i, lN_j, iI_le, iI_lt, iI_eq, jI_le, jI_lt, jI_eq, iI_in, iI_cl, iI_j, jI_i, cN, inN, wI_eq, wI_ne, wJ_1, wJ_eq, wJ_ne, wI_2, wJ_3, iI_div, iI_rem, jI_div, jI_rem, true_or, or_true, false_or, or_false, eq_self, Nat.add_zero] at z2
        omega
      · simp (disch := omega) only [forall_eq, true_and, and_true, false_and, and_false, forall_const, true_implies, implies_true, not_true_eq_false, not_false_eq_true, false_implies, if_true, if_false, ↓reduceIte, Int.toNat_natCast, Int.reduceEq, Int.reduceNe, Int.reduceLT, Int.reduceLE, Int.reduceToNat, Int.reduceAdd, Int.reduceSub, Int.reduceMul, Int.reduceNeg, Nat.reduceAdd, Nat.reduceMul, Nat.reduceSub, iI_lit, jI_lit, iI_add, iI_sub, iI_mul, iI_neg, jI_add, jI_sub, jI_mul, jI_neg, nI_i, lN_j, iI_le, iI_lt, iI_eq, jI_le, jI_lt, jI_eq, iI_in, iI_cl, iI_j, jI_i, cN, inN, wI_eq, wI_ne, wJ_1, wJ_eq, wJ_ne, wI_2, wJ_3, iI_div, iI_rem, jI_div, jI_rem, true_or, or_true, false_or, or_false, eq_self, Nat.add_zero] at z3
        omega
      · simp (disch := omega) only [forall_eq, true_and, and_true, false_and, and_false, forall_const, true_implies, implies_true, not_true_eq_false, not_false_eq_true, false_implies, if_true, if_false, ↓reduceIte, Int.toNat_natCast, Int.reduceEq, Int.reduceNe, Int.reduceLT, Int.reduceLE, Int.reduceToNat, Int.reduceAdd, Int.reduceSub, Int.reduceMul, Int.reduceNeg, Nat.reduceAdd, Nat.reduceMul, Nat.reduceSub, iI_lit, jI_lit, iI_add, iI_sub, iI_mul, iI_neg, jI_add, jI_sub, jI_mul, jI_neg, nI_i, lN_j, iI_le, iI_lt, iI_eq, jI_le, jI_lt, jI_eq, iI_in, iI_cl, iI_j, jI_i, cN, inN, wI_eq, wI_ne, wJ_1, wJ_eq, wJ_ne, wI_2, wJ_3, iI_div, iI_rem, jI_div, jI_rem, true_or, or_true, false_or, or_false, eq_self, Nat.add_zero] at z2
        simp (disch := omega) only [forall_eq, true_and, and_true, false_and, and_false, forall_const, true_implies, implies_true, not_true_eq_false, not_false_eq_true, false_implies, if_true, if_false, ↓reduceIte, Int.toNat_natCast, Int.reduceEq, Int.reduceNe, Int.reduceLT, Int.reduceLE, Int.reduceToNat, Int.reduceAdd, Int.reduceSub, Int.reduceMul, Int.reduceNeg, Nat.reduceAdd, Nat.reduceMul, Nat.reduceSub, iI_lit, jI_lit, iI_add, iI_sub, iI_mul, iI_neg, jI_add, jI_sub, jI_mul, jI_neg, nI_i, lN_j, iI_le, iI_lt, iI_eq, jI_le, jI_lt, jI_eq, iI_in, iI_cl, iI_j, jI_i, cN, inN, wI_eq, wI_ne, wJ_1, wJ_eq, wJ_ne, wI_2, wJ_3, iI_div, iI_rem, jI_div, jI_rem, true_or, or_true, false_or, or_false, eq_self, Nat.add_zero] at z3
        rw [iI_lit, iI_sub]
        refine c_add (z := 48 - b (i + 1)) hT (by omega) hc.2.1 (by omega) (by omega) (by omega) (by omega) (fun m1 f1 g1 => c_endUnit hly hT (by omega) (hc.add f1 g1) (by omega) ho (fun m' h' => ?_))
        exact ⟨nx m' (h4 z (by omega) m' h'), fun z4 => absurd (by decide) z4⟩
    · rw [hlen] at z2 ⊢
      simp (disch := omega) only [forall_eq, true_and, and_true, false_and, and_false, forall_const, true_implies, implies_true, not_true_eq_false, not_false_eq_true, false_implies, if_true, if_false, ↓reduceIte, Int.toNat_natCast, Int.reduceEq, Int.reduceNe, Int.reduceLT, Int.reduceLE, Int.reduceToNat, Int.reduceAdd, Int.reduceSub, Int.reduceMul, Int.reduceNeg, Nat.reduceAdd, Nat.reduceMul, Nat.reduceSub, iI_lit, jI_lit, iI_add, iI_sub, iI_mul, iI_neg, jI_add, jI_sub, jI_mul, jI_neg, nI_i, lN_j, iI_le, iI_lt, iI_eq, jI_le, jI_lt, jI_eq, iI_in, iI_cl, iI_j, jI_i, cN, inN, wI_eq, wI_ne, wJ_1, wJ_eq, wJ_ne, wI_2, wJ_3, iI_div, iI_rem, jI_div, jI_rem, true_or, or_true, false_or, or_false, eq_self, Nat.add_zero] at z2
      have hi1 : i + 1 = N := by omega
      have hf := h5 z (by rw [bt, if_neg (by omega)]; decide)
      rw [hi1] at hf
      exact ⟨fun q => absurd q ((neg N).resolve_right (by omega)), fun _ => hf⟩
end TX2
