/-! the gauge of the class -/
def gm (m : sm_M) (s : evS) : Prop := m.1 5 4 = iI (s.1 : Int) ∧ ∀ k, k < s.1 → m.1 6 k = iI (s.2.2.2.2 k) ∧ m.1 7 k = iI (s.2.1 k) ∧ m.1 8 k = iI (s.2.2.1 k) ∧ m.1 9 k = iI (s.2.2.2.1 k)
def gaP : Nat → Nat → Prop := fun a k => (a = 5 ∧ k = 4) ∨ (6 ≤ a ∧ a ≤ 9)
section GAU
variable {E : sm_E} {L : sm_S → Prop} {d : Nat} {m : sm_M}
theorem c_push {Q : sm_M → Prop} {s : evS} {z : Int} (hly : ∀ S, L S → ly S) (hd : 1 ≤ d) (hg : gm m s) (hs : s.1 < 24) (hz1 : -9 ≤ z) (hz2 : z ≤ 10) (h : ∀ m', fr gaP m m' → gm m' (evPush s z) → Q m') : sm_callV E L mX4_push d 0 0 [.ref (sm_B E + 5), .int (iI z)] m Q := by
  obtain ⟨g1, g2⟩ := hg
  have fin : ∀ tp bt : Int32, tp = iI (if z = 10 then 1 else z) → bt = iI (if z = 10 then 0 else 1) → Q (sm_wI (sm_wI (sm_wI (sm_wI (sm_wI m 6 s.1 (iI 1)) 7 s.1 tp) 8 s.1 bt) 9 s.1 (iI 1)) 5 4 (iI ((s.1 : Int) + 1))) := by
    intro tp bt e1 e2
    refine h _ ?_ ⟨?_, fun k hk => ?_⟩
    · exact ((((fr.rf.wI (Or.inr (by omega))).wI (Or.inr (by omega))).wI (Or.inr (by omega))).wI (Or.inr (by omega))).wI (Or.inl ⟨rfl, rfl⟩)
    · simp [wI_1, evPush]
    · have hk2 : k < s.1 + 1 := hk
      by_cases hks : k = s.1
      · subst hks
        simp [wI_1, evPush, upI_eq, e1, e2]
      · have := g2 k (by omega)
        simp [wI_1, evPush, upI_ne hks, hks, this]
  refine vX4_push_0 hly hd ?_
  simp (disch := omega) only [forall_eq, true_and, and_true, false_and, and_false, forall_const, true_implies, implies_true, not_true_eq_false, not_false_eq_true, false_implies, if_true, if_false, ↓reduceIte, Int.toNat_natCast, Int.reduceEq, Int.reduceNe, Int.reduceLT, Int.reduceLE, Int.reduceToNat, Int.reduceAdd, Int.reduceSub, Int.reduceMul, Int.reduceNeg, Nat.reduceAdd, Nat.reduceMul, Nat.reduceSub, iI_lit, jI_lit, iI_add, iI_sub, iI_mul, iI_neg, jI_add, jI_sub, jI_mul, jI_neg, nI_i, lN_j, iI_le, iI_lt, iI_eq, jI_le, jI_lt, jI_eq, iI_in, iI_cl, iI_j, jI_i, cN, inN, wI_eq, wI_ne, wJ_1, wJ_eq, wJ_ne, wI_2, wJ_3, iI_div, iI_rem, jI_div, jI_rem, g1]
  refine ⟨fun _ => ⟨by omega, fun hz => ?_, fun hz => ?_⟩, fun hc => by omega⟩
  · refine vX4_push_42 hly hd ?_
    simp (disch := omega) only [forall_eq, true_and, and_true, false_and, and_false, forall_const, true_implies, implies_true, not_true_eq_false, not_false_eq_true, false_implies, if_true, if_false, ↓reduceIte, Int.toNat_natCast, Int.reduceEq, Int.reduceNe, Int.reduceLT, Int.reduceLE, Int.reduceToNat, Int.reduceAdd, Int.reduceSub, Int.reduceMul, Int.reduceNeg, Nat.reduceAdd, Nat.reduceMul, Nat.reduceSub, iI_lit, jI_lit, iI_add, iI_sub, iI_mul, iI_neg, jI_add, jI_sub, jI_mul, jI_neg, nI_i, lN_j, iI_le, iI_lt, iI_eq, jI_le, jI_lt, jI_eq, iI_in, iI_cl, iI_j, jI_i, cN, inN, wI_eq, wI_ne, wJ_1, wJ_eq, wJ_ne, wI_2, wJ_3, iI_div, iI_rem, jI_div, jI_rem, g1]
    refine ⟨by omega, fun _ => ?_, fun hz3 => by omega⟩
    refine vX4_push_62 hly hd ?_
    simp (disch := omega) only [forall_eq, true_and, and_true, false_and, and_false, forall_const, true_implies, implies_true, not_true_eq_false, not_false_eq_true, false_implies, if_true, if_false, ↓reduceIte, Int.toNat_natCast, Int.reduceEq, Int.reduceNe, Int.reduceLT, Int.reduceLE, Int.reduceToNat, Int.reduceAdd, Int.reduceSub, Int.reduceMul, Int.reduceNeg, Nat.reduceAdd, Nat.reduceMul, Nat.reduceSub, iI_lit, jI_lit, iI_add, iI_sub, iI_mul, iI_neg, jI_add, jI_sub, jI_mul, jI_neg, nI_i, lN_j, iI_le, iI_lt, iI_eq, jI_le, jI_lt, jI_eq, iI_in, iI_cl, iI_j, jI_i, cN, inN, wI_eq, wI_ne, wJ_1, wJ_eq, wJ_ne, wI_2, wJ_3, iI_div, iI_rem, jI_div, jI_rem, g1]
    exact ⟨by omega, by omega, fin _ _ (by rw [if_neg hz]) (by rw [if_neg hz])⟩
  · subst hz
    refine vX4_push_42 hly hd ?_
    simp (disch := omega) only [forall_eq, true_and, and_true, false_and, and_false, forall_const, true_implies, implies_true, not_true_eq_false, not_false_eq_true, false_implies, if_true, if_false, ↓reduceIte, Int.toNat_natCast, Int.reduceEq, Int.reduceNe, Int.reduceLT, Int.reduceLE, Int.reduceToNat, Int.reduceAdd, Int.reduceSub, Int.reduceMul, Int.reduceNeg, Nat.reduceAdd, Nat.reduceMul, Nat.reduceSub, iI_lit, jI_lit, iI_add, iI_sub, iI_mul, iI_neg, jI_add, jI_sub, jI_mul, jI_neg, nI_i, lN_j, iI_le, iI_lt, iI_eq, jI_le, jI_lt, jI_eq, iI_in, iI_cl, iI_j, jI_i, cN, inN, wI_eq, wI_ne, wJ_1, wJ_eq, wJ_ne, wI_2, wJ_3, iI_div, iI_rem, jI_div, jI_rem, g1]
    refine ⟨by omega, ?_⟩
    refine vX4_push_62 hly hd ?_
    simp (disch := omega) only [forall_eq, true_and, and_true, false_and, and_false, forall_const, true_implies, implies_true, not_true_eq_false, not_false_eq_true, false_implies, if_true, if_false, ↓reduceIte, Int.toNat_natCast, Int.reduceEq, Int.reduceNe, Int.reduceLT, Int.reduceLE, Int.reduceToNat, Int.reduceAdd, Int.reduceSub, Int.reduceMul, Int.reduceNeg, Nat.reduceAdd, Nat.reduceMul, Nat.reduceSub, iI_lit, jI_lit, iI_add, iI_sub, iI_mul, iI_neg, jI_add, jI_sub, jI_mul, jI_neg, nI_i, lN_j, iI_le, iI_lt, iI_eq, jI_le, jI_lt, jI_eq, iI_in, iI_cl, iI_j, jI_i, cN, inN, wI_eq, wI_ne, wJ_1, wJ_eq, wJ_ne, wI_2, wJ_3, iI_div, iI_rem, jI_div, jI_rem, g1]
    exact ⟨by omega, by omega, fin _ _ rfl rfl⟩
theorem c_isUnit {Q : Int32 → sm_M → Prop} {z : Int} (h1 : -2147483648 ≤ z) (h2 : z ≤ 2147483647) (hd : 1 ≤ d) (h : Q (iI (if isU z then 1 else 0)) m) : sm_callI E L mX4_isUnit d 0 0 [.int (iI z)] m Q := by
  refine vX4_isUnit_0 hd ?_
  simp (disch := omega) only [forall_eq, true_and, and_true, false_and, and_false, forall_const, true_implies, implies_true, not_true_eq_false, not_false_eq_true, false_implies, if_true, if_false, ↓reduceIte, Int.toNat_natCast, Int.reduceEq, Int.reduceNe, Int.reduceLT, Int.reduceLE, Int.reduceToNat, Int.reduceAdd, Int.reduceSub, Int.reduceMul, Int.reduceNeg, Nat.reduceAdd, Nat.reduceMul, Nat.reduceSub, iI_lit, jI_lit, iI_add, iI_sub, iI_mul, iI_neg, jI_add, jI_sub, jI_mul, jI_neg, nI_i, lN_j, iI_le, iI_lt, iI_eq, jI_le, jI_lt, jI_eq, iI_in, iI_cl, iI_j, jI_i, cN, inN, wI_eq, wI_ne, wJ_1, wJ_eq, wJ_ne, wI_2, wJ_3, iI_div, iI_rem, jI_div, jI_rem]
  refine ⟨fun hc => ?_, fun hc => ⟨fun hc2 => ?_, fun hc2 => ?_⟩⟩
  · rw [if_pos (by unfold isU; omega)] at h; exact h
  · rw [if_neg (by unfold isU; omega)] at h; exact h
  · rw [if_pos (by unfold isU; omega)] at h; exact h
theorem c_alter {Q : sm_M → Prop} {s : evS} {b : Int} (hly : ∀ S, L S → ly S) (hd : 1 ≤ d) (hg : gm m s) (hs : s.1 ≤ 24) (hs1 : 1 ≤ s.1) (hb : b = 0 ∨ b = 1) (h : ∀ m', fr gaP m m' → gm m' (if b = 1 then evTurn s else evMir s) → Q m') : sm_callV E L mX4_alter d 0 0 [.ref (sm_B E + 5), .int (iI b)] m Q := by
  obtain ⟨g1, g2⟩ := hg
  obtain ⟨v1, v2, v3, v4⟩ := g2 (s.1 - 1) (by omega)
  have hx : ((s.1 : Int) - 1).toNat = s.1 - 1 := by omega
  refine vX4_alter_0 hly hd ?_
  rcases hb with rfl | rfl
  · simp (disch := omega) only [forall_eq, true_and, and_true, false_and, and_false, forall_const, true_implies, implies_true, not_true_eq_false, not_false_eq_true, false_implies, if_true, if_false, ↓reduceIte, Int.toNat_natCast, Int.reduceEq, Int.reduceNe, Int.reduceLT, Int.reduceLE, Int.reduceToNat, Int.reduceAdd, Int.reduceSub, Int.reduceMul, Int.reduceNeg, Nat.reduceAdd, Nat.reduceMul, Nat.reduceSub, iI_lit, jI_lit, iI_add, iI_sub, iI_mul, iI_neg, jI_add, jI_sub, jI_mul, jI_neg, nI_i, lN_j, iI_le, iI_lt, iI_eq, jI_le, jI_lt, jI_eq, iI_in, iI_cl, iI_j, jI_i, cN, inN, wI_eq, wI_ne, wJ_1, wJ_eq, wJ_ne, wI_2, wJ_3, iI_div, iI_rem, jI_div, jI_rem, g1, hx, v1, v2, v3]
    refine ⟨fun _ => ⟨by omega, by omega, by omega, by omega, ?_⟩, fun hc => by omega⟩
    refine h _ ((fr.rf.wI (Or.inr (by omega))).wI (Or.inr (by omega))) ⟨?_, fun k hk => ?_⟩
    · simp [wI_1, evMir, g1]
    · have hk2 : k < s.1 := hk
      have := g2 k hk2
      by_cases hks : k = s.1 - 1
      · subst hks
        simp [wI_1, evMir, upI_eq, this]
      · simp [wI_1, evMir, upI_ne hks, hks, this]
  · simp (disch := omega) only [forall_eq, true_and, and_true, false_and, and_false, forall_const, true_implies, implies_true, not_true_eq_false, not_false_eq_true, false_implies, if_true, if_false, ↓reduceIte, Int.toNat_natCast, Int.reduceEq, Int.reduceNe, Int.reduceLT, Int.reduceLE, Int.reduceToNat, Int.reduceAdd, Int.reduceSub, Int.reduceMul, Int.reduceNeg, Nat.reduceAdd, Nat.reduceMul, Nat.reduceSub, iI_lit, jI_lit, iI_add, iI_sub, iI_mul, iI_neg, jI_add, jI_sub, jI_mul, jI_neg, nI_i, lN_j, iI_le, iI_lt, iI_eq, jI_le, jI_lt, jI_eq, iI_in, iI_cl, iI_j, jI_i, cN, inN, wI_eq, wI_ne, wJ_1, wJ_eq, wJ_ne, wI_2, wJ_3, iI_div, iI_rem, jI_div, jI_rem, g1, hx, v1, v2, v3]
    refine ⟨fun _ => ⟨by omega, by omega, by omega, by omega, by omega, by omega, ?_⟩, fun hc => by omega⟩
    refine h _ (((fr.rf.wI (Or.inr (by omega))).wI (Or.inr (by omega))).wI (Or.inr (by omega))) ⟨?_, fun k hk => ?_⟩
    · simp [wI_1, evTurn, g1]
    · have hk2 : k < s.1 := hk
      have := g2 k hk2
      by_cases hks : k = s.1 - 1
      · subst hks
        simp [wI_1, evTurn, upI_eq, this]
      · simp [wI_1, evTurn, upI_ne hks, hks, this]
theorem c_combine {Q : sm_M → Prop} {s : evS} {b : Int} {c : Nat} (hly : ∀ S, L S → ly S) (hd : 2 ≤ d) (hg : gm m s) (hs : s.1 ≤ 24) (hs2 : 2 ≤ s.1) (hb : b = 0 ∨ b = 1) (hB : evB s c) (hc : c ≤ 24) (h01 : ∀ k, s.2.2.2.1 k = 0 ∨ s.2.2.2.1 k = 1) (hdep : ∀ k, s.2.2.2.2 k ≤ 1000) (h : ∀ m', fr gaP m m' → gm m' (if b = 1 then evSum s else evStk s) → Q m') : sm_callV E L mX4_combine d 0 0 [.ref (sm_B E + 5), .int (iI b)] m Q := by
  obtain ⟨g1, g2⟩ := hg
  obtain ⟨x, hx⟩ : ∃ x, x = s.1 - 2 := ⟨_, rfl⟩
  obtain ⟨y, hy⟩ : ∃ y, y = s.1 - 1 := ⟨_, rfl⟩
  obtain ⟨v1, v2, v3, v4⟩ := g2 x (by omega)
  obtain ⟨w1, w2, w3, w4⟩ := g2 y (by omega)
  have hpow : (2 : Nat) ^ c ≤ 2 ^ 24 := Nat.pow_le_pow_right (by decide) hc
  have hpow2 : (2 : Nat) ^ 24 = 16777216 := by decide
  have bx := evB_at hB (k := x) (by omega)
  have by' := evB_at hB (k := y) (by omega)
  have dx := hdep x
  have dy := hdep y
  have fx := h01 x
  have fy := h01 y
  have ex : (s.1 : Int) - 2 = (x : Int) := by omega
  have ey : (s.1 : Int) - 1 = (y : Int) := by omega
  have go191 : ∀ (vs : List Value) (m1 : sm_M) (dep rat : Int), fr gaP m m1 → m1.1 5 4 = iI (s.1 : Int) → (∀ k, k < x → m1.1 6 k = m.1 6 k ∧ m1.1 9 k = m.1 9 k) → (∀ k, m1.1 7 k = m.1 7 k ∧ m1.1 8 k = m.1 8 k) → m1.1 6 x = iI (1 + max (s.2.2.2.2 x) (s.2.2.2.2 y)) → m1.1 9 x = iI (if s.2.2.2.1 x = 1 ∧ s.2.2.2.1 y = 1 ∧ (if b = 1 then isU (s.2.2.1 x) ∨ isU (s.2.2.1 y) else isU (s.2.1 x) ∨ isU (s.2.1 y)) then 1 else 0) →
      gX4_combine_191 E L d vs (iI b) (iI x) (iI (s.2.1 x)) (iI (s.2.2.1 x)) (iI (s.2.1 y)) (iI (s.2.2.1 y)) (iI x) (iI (if b = 1 then s.2.1 x * s.2.2.1 y + s.2.1 y * s.2.2.1 x else s.2.1 x * s.2.1 y)) m1 Q := by
    intro vs m1 dep rat f1 r1 r2 r3 r4 r5
    refine vX4_combine_191 hly hd ?_
    rcases hb with rfl | rfl
    · simp (disch := omega) only [forall_eq, true_and, and_true, false_and, and_false, forall_const, true_implies, implies_true, not_true_eq_false, not_false_eq_true, false_implies, if_true, if_false, ↓reduceIte, Int.toNat_natCast, Int.reduceEq, Int.reduceNe, Int.reduceLT, Int.reduceLE, Int.reduceToNat, Int.reduceAdd, Int.reduceSub, Int.reduceMul, Int.reduceNeg, Nat.reduceAdd, Nat.reduceMul, Nat.reduceSub, iI_lit, jI_lit, iI_add, iI_sub, iI_mul, iI_neg, jI_add, jI_sub, jI_mul, jI_neg, nI_i, lN_j, iI_le, iI_lt, iI_eq, jI_le, jI_lt, jI_eq, iI_in, iI_cl, iI_j, jI_i, cN, inN, wI_eq, wI_ne, wJ_1, wJ_eq, wJ_ne, wI_2, wJ_3, iI_div, iI_rem, jI_div, jI_rem, r1, ey]
      refine ⟨by omega, by omega, h _ (((f1.wI (Or.inr (by omega))).wI (Or.inr (by omega))).wI (Or.inl ⟨rfl, rfl⟩)) ⟨?_, fun k hk => ?_⟩⟩
      · simp [wI_1, evStk, hy]
      · simp only [evStk] at hk
        simp at hk
        by_cases hks : k = x
        · subst hks
          simp [wI_1, evStk, ← hx, ← hy, upI_eq, r4, r5]
        · have q1 := r2 k (by omega)
          have q2 := r3 k
          have q3 := g2 k (by omega)
          simp [wI_1, evStk, ← hx, ← hy, upI_ne hks, hks, q1, q2, q3]
    · simp (disch := omega) only [forall_eq, true_and, and_true, false_and, and_false, forall_const, true_implies, implies_true, not_true_eq_false, not_false_eq_true, false_implies, if_true, if_false, ↓reduceIte, Int.toNat_natCast, Int.reduceEq, Int.reduceNe, Int.reduceLT, Int.reduceLE, Int.reduceToNat, Int.reduceAdd, Int.reduceSub, Int.reduceMul, Int.reduceNeg, Nat.reduceAdd, Nat.reduceMul, Nat.reduceSub, iI_lit, jI_lit, iI_add, iI_sub, iI_mul, iI_neg, jI_add, jI_sub, jI_mul, jI_neg, nI_i, lN_j, iI_le, iI_lt, iI_eq, jI_le, jI_lt, jI_eq, iI_in, iI_cl, iI_j, jI_i, cN, inN, wI_eq, wI_ne, wJ_1, wJ_eq, wJ_ne, wI_2, wJ_3, iI_div, iI_rem, jI_div, jI_rem, r1, ey]
      refine ⟨by omega, by omega, h _ (((f1.wI (Or.inr (by omega))).wI (Or.inr (by omega))).wI (Or.inl ⟨rfl, rfl⟩)) ⟨?_, fun k hk => ?_⟩⟩
      · simp [wI_1, evSum, hy]
      · simp only [evSum] at hk
        simp at hk
        by_cases hks : k = x
        · subst hks
          simp [wI_1, evSum, ← hx, ← hy, upI_eq, r4, r5]
        · have q1 := r2 k (by omega)
          have q2 := r3 k
          have q3 := g2 k (by omega)
          simp [wI_1, evSum, ← hx, ← hy, upI_ne hks, hks, q1, q2, q3]
  have go139 : ∀ (vs : List Value) (r : Int), r = (if s.2.2.2.1 x = 1 ∧ s.2.2.2.1 y = 1 ∧ (if b = 1 then isU (s.2.2.1 x) ∨ isU (s.2.2.1 y) else isU (s.2.1 x) ∨ isU (s.2.1 y)) then 1 else 0) →
      gX4_combine_139 E L d vs (iI b) (iI x) (iI y) (iI (s.2.1 x)) (iI (s.2.2.1 x)) (iI (s.2.1 y)) (iI (s.2.2.1 y)) (iI x) (iI r) m Q := by
    intro vs r er
    have hr : r = 0 ∨ r = 1 := by rw [er]; exact ite01 _
    refine vX4_combine_139 hly hd ?_
    simp (disch := omega) only [forall_eq, true_and, and_true, false_and, and_false, forall_const, true_implies, implies_true, not_true_eq_false, not_false_eq_true, false_implies, if_true, if_false, ↓reduceIte, Int.toNat_natCast, Int.reduceEq, Int.reduceNe, Int.reduceLT, Int.reduceLE, Int.reduceToNat, Int.reduceAdd, Int.reduceSub, Int.reduceMul, Int.reduceNeg, Nat.reduceAdd, Nat.reduceMul, Nat.reduceSub, iI_lit, jI_lit, iI_add, iI_sub, iI_mul, iI_neg, jI_add, jI_sub, jI_mul, jI_neg, nI_i, lN_j, iI_le, iI_lt, iI_eq, jI_le, jI_lt, jI_eq, iI_in, iI_cl, iI_j, jI_i, cN, inN, wI_eq, wI_ne, wJ_1, wJ_eq, wJ_ne, wI_2, wJ_3, iI_div, iI_rem, jI_div, jI_rem, v1, w1]
    refine ⟨by omega, by omega, by omega, by omega, c_max (by omega) (by omega) (by omega) (by omega) (by omega) ?_⟩
    simp (disch := omega) only [forall_eq, true_and, and_true, false_and, and_false, forall_const, true_implies, implies_true, not_true_eq_false, not_false_eq_true, false_implies, if_true, if_false, ↓reduceIte, Int.toNat_natCast, Int.reduceEq, Int.reduceNe, Int.reduceLT, Int.reduceLE, Int.reduceToNat, Int.reduceAdd, Int.reduceSub, Int.reduceMul, Int.reduceNeg, Nat.reduceAdd, Nat.reduceMul, Nat.reduceSub, iI_lit, jI_lit, iI_add, iI_sub, iI_mul, iI_neg, jI_add, jI_sub, jI_mul, jI_neg, nI_i, lN_j, iI_le, iI_lt, iI_eq, jI_le, jI_lt, jI_eq, iI_in, iI_cl, iI_j, jI_i, cN, inN, wI_eq, wI_ne, wJ_1, wJ_eq, wJ_ne, wI_2, wJ_3, iI_div, iI_rem, jI_div, jI_rem]
    have fr1 : fr gaP m (sm_wI (sm_wI m 9 x (iI r)) 6 x (iI (1 + max (s.2.2.2.2 x) (s.2.2.2.2 y)))) := (fr.rf.wI (Or.inr (by omega))).wI (Or.inr (by omega))
    have k1 := go191 vs (sm_wI (sm_wI m 9 x (iI r)) 6 x (iI (1 + max (s.2.2.2.2 x) (s.2.2.2.2 y)))) 0 0 fr1 (by simp [wI_1, g1]) (fun k hk => by constructor <;> simp [wI_1, Nat.ne_of_lt hk]) (fun k => by simp [wI_1]) (by simp [wI_1]) (by simp [wI_1, er])
    rcases hb with rfl | rfl
    · exact ⟨by omega, fun _ => k1, fun hq => absurd rfl hq⟩
    · exact ⟨by omega, fun hq => by omega, fun _ => k1⟩
  have go104 : ∀ (vs : List Value) (r : Int), (r = 0 ∨ r = 1) → (r = 1 ↔ (if b = 1 then isU (s.2.2.1 x) ∨ isU (s.2.2.1 y) else isU (s.2.1 x) ∨ isU (s.2.1 y))) →
      gX4_combine_104 E L d vs (iI b) (iI x) (iI y) (iI (s.2.1 x)) (iI (s.2.2.1 x)) (iI (s.2.1 y)) (iI (s.2.2.1 y)) (iI r) m Q := by
    intro vs r h0 hr
    refine vX4_combine_104 hly hd ?_
    simp (disch := omega) only [forall_eq, true_and, and_true, false_and, and_false, forall_const, true_implies, implies_true, not_true_eq_false, not_false_eq_true, false_implies, if_true, if_false, ↓reduceIte, Int.toNat_natCast, Int.reduceEq, Int.reduceNe, Int.reduceLT, Int.reduceLE, Int.reduceToNat, Int.reduceAdd, Int.reduceSub, Int.reduceMul, Int.reduceNeg, Nat.reduceAdd, Nat.reduceMul, Nat.reduceSub, iI_lit, jI_lit, iI_add, iI_sub, iI_mul, iI_neg, jI_add, jI_sub, jI_mul, jI_neg, nI_i, lN_j, iI_le, iI_lt, iI_eq, jI_le, jI_lt, jI_eq, iI_in, iI_cl, iI_j, jI_i, cN, inN, wI_eq, wI_ne, wJ_1, wJ_eq, wJ_ne, wI_2, wJ_3, iI_div, iI_rem, jI_div, jI_rem, v4, w4]
    refine ⟨by omega, fun q1 => go139 vs 0 ?_, fun q1 => ⟨by omega, fun q2 => go139 vs 0 ?_, fun q2 => ⟨fun q3 => go139 vs 0 ?_, fun q3 => go139 vs 1 ?_⟩⟩⟩
    · rw [if_neg (fun q => by omega)]
    · rw [if_neg (fun q => by omega)]
    · rw [if_neg (fun q => by have := hr.mpr q.2.2; omega)]
    · rw [if_pos ⟨by omega, by omega, hr.mp (by omega)⟩]
  refine vX4_combine_0 hly hd ?_
  rcases hb with rfl | rfl
  · simp (disch := omega) only [forall_eq, true_and, and_true, false_and, and_false, forall_const, true_implies, implies_true, not_true_eq_false, not_false_eq_true, false_implies, if_true, if_false, ↓reduceIte, Int.toNat_natCast, Int.reduceEq, Int.reduceNe, Int.reduceLT, Int.reduceLE, Int.reduceToNat, Int.reduceAdd, Int.reduceSub, Int.reduceMul, Int.reduceNeg, Nat.reduceAdd, Nat.reduceMul, Nat.reduceSub, iI_lit, jI_lit, iI_add, iI_sub, iI_mul, iI_neg, jI_add, jI_sub, jI_mul, jI_neg, nI_i, lN_j, iI_le, iI_lt, iI_eq, jI_le, jI_lt, jI_eq, iI_in, iI_cl, iI_j, jI_i, cN, inN, wI_eq, wI_ne, wJ_1, wJ_eq, wJ_ne, wI_2, wJ_3, iI_div, iI_rem, jI_div, jI_rem, g1, ex, ey, v2, v3, w2, w3]
    refine ⟨fun _ => ⟨by omega, by omega, by omega, by omega, c_isUnit (by omega) (by omega) (by omega) ⟨fun q => ?_, fun q => c_isUnit (by omega) (by omega) (by omega) ⟨fun q2 => ?_, fun q2 => ?_⟩⟩⟩, fun hc => by omega⟩
    · refine go104 _ 1 (Or.inr rfl) ⟨fun _ => ?_, fun _ => rfl⟩
      simp only [Int.zero_ne_one, if_false]
      exact Or.inl (Classical.byContradiction fun hn => q (by rw [if_neg hn]))
    · refine go104 _ 0 (Or.inl rfl) ⟨fun hq => by omega, fun hq => ?_⟩
      exfalso
      rw [if_neg (by decide)] at hq
      rcases hq with hq | hq
      · rw [if_pos hq] at q
        exact absurd q (by decide)
      · rw [if_pos hq] at q2
        exact absurd q2 (by decide)
    · refine go104 _ 1 (Or.inr rfl) ⟨fun _ => ?_, fun _ => rfl⟩
      rw [if_neg (by decide)]
      exact Or.inr (Classical.byContradiction fun hn => q2 (by rw [if_neg hn]))
  · simp (disch := omega) only [forall_eq, true_and, and_true, false_and, and_false, forall_const, true_implies, implies_true, not_true_eq_false, not_false_eq_true, false_implies, if_true, if_false, ↓reduceIte, Int.toNat_natCast, Int.reduceEq, Int.reduceNe, Int.reduceLT, Int.reduceLE, Int.reduceToNat, Int.reduceAdd, Int.reduceSub, Int.reduceMul, Int.reduceNeg, Nat.reduceAdd, Nat.reduceMul, Nat.reduceSub, iI_lit, jI_lit, iI_add, iI_sub, iI_mul, iI_neg, jI_add, jI_sub, jI_mul, jI_neg, nI_i, lN_j, iI_le, iI_lt, iI_eq, jI_le, jI_lt, jI_eq, iI_in, iI_cl, iI_j, jI_i, cN, inN, wI_eq, wI_ne, wJ_1, wJ_eq, wJ_ne, wI_2, wJ_3, iI_div, iI_rem, jI_div, jI_rem, g1, ex, ey, v2, v3, w2, w3]
    refine ⟨fun _ => ⟨by omega, by omega, by omega, by omega, c_isUnit (by omega) (by omega) (by omega) ⟨fun q => ?_, fun q => c_isUnit (by omega) (by omega) (by omega) ⟨fun q2 => ?_, fun q2 => ?_⟩⟩⟩, fun hc => by omega⟩
    · refine go104 _ 1 (Or.inr rfl) ⟨fun _ => ?_, fun _ => rfl⟩
      rw [if_pos rfl]
      exact Or.inl (Classical.byContradiction fun hn => q (by rw [if_neg hn]))
    · refine go104 _ 0 (Or.inl rfl) ⟨fun hq => by omega, fun hq => ?_⟩
      exfalso
      rw [if_pos rfl] at hq
      rcases hq with hq | hq
      · rw [if_pos hq] at q
        exact absurd q (by decide)
      · rw [if_pos hq] at q2
        exact absurd q2 (by decide)
    · refine go104 _ 1 (Or.inr rfl) ⟨fun _ => ?_, fun _ => rfl⟩
      rw [if_pos rfl]
      exact Or.inr (Classical.byContradiction fun hn => q2 (by rw [if_neg hn]))
end GAU
