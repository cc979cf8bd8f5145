/-! the reference's measures -/
def mm (m : sm_M) (s : evS) (c : Nat) : Prop := ∀ k, k < s.1 → m.1 126 k = iI (s.2.2.2.2 k) ∧ m.2.1 123 k = jI (s.2.1 k) ∧ m.2.1 124 k = jI (s.2.2.1 k) ∧ (m.1 125 k = iI 0 ∨ m.1 125 k = iI 1) ∧ (c ≤ 60 → m.1 125 k = iI (s.2.2.2.1 k))
def mr (m : sm_M) (a f : Nat) (t : Nat → Int) (n : Nat) : Prop := ∀ k, k < n → m.1 a (f + k) = iI (tc (t k))
def mmP : Nat → Nat → Prop := fun a k => (a = 109 ∧ 23 ≤ k ∧ k ≤ 28) ∨ (123 ≤ a ∧ a ≤ 126)
section MEA
variable {E : sm_E} {L : sm_S → Prop} {d : Nat} {m : sm_M}
theorem c12_isUnitM {Q : Int32 → sm_M → Prop} {x : Int64} (hd : 1 ≤ d) (h : ∀ r : Int, (r = 0 ∨ r = 1) → (∀ z : Int, -9223372036854775808 ≤ z → z ≤ 9223372036854775807 → x = jI z → (r = 1 ↔ isU z)) → Q (iI r) m) : sm_callI E L mX12_isUnit d 0 0 [.long x] m Q := by
  refine vX12_isUnit_0 hd ⟨fun hc => h 1 (Or.inr rfl) (fun z h1 h2 e => ?_), fun hc => ⟨fun hc2 => h 0 (Or.inl rfl) (fun z h1 h2 e => ?_), fun hc2 => h 1 (Or.inr rfl) (fun z h1 h2 e => ?_)⟩⟩
  · rw [e, jI_lit, jI_eq h1 h2 (by omega) (by omega)] at hc
    exact ⟨fun _ => Or.inl hc, fun _ => rfl⟩
  · rw [e, jI_lit, jI_eq h1 h2 (by omega) (by omega)] at hc
    rw [e, jI_lit, jI_neg, jI_eq h1 h2 (by omega) (by omega)] at hc2
    exact ⟨fun q => by omega, fun q => absurd q (not_or.mpr ⟨hc, hc2⟩)⟩
  · rw [e, jI_lit, jI_neg, jI_eq h1 h2 (by omega) (by omega)] at hc2
    exact ⟨fun _ => Or.inr hc2, fun _ => rfl⟩
theorem pow60 {c : Nat} (h : c ≤ 60) : (2 : Nat) ^ c ≤ 1152921504606846976 := Nat.le_trans (Nat.pow_le_pow_right (by decide) h) (by decide)
theorem c12_measures_loop {Q : sm_M → Prop} {vs : List Value} {a f na n : Nat} {t : Nat → Int} (hly : ∀ S, L S → ly S) (hd : 2 ≤ d) (hA : ∀ S, L S → sm_K S a = 11 ∧ sm_N S a = na) (ha : a = 111 ∨ a = 115) (hna : f + n ≤ na) (hna2 : na ≤ 1000) (hn : n ≤ 150) (hok : okT t n) (hh1 : 1 ≤ (ev t n).1) (m0 : sm_M) (hr : mr m0 a f t n)
    (h : ∀ m', fr mmP m0 m' → m'.1 109 26 = iI (lvs t n : Nat) → m'.1 109 27 = iI (crs t n : Nat) → m'.2.1 109 23 = jI ((ev t n).2.1 0) → m'.2.1 109 24 = jI ((ev t n).2.2.1 0) → m'.1 109 28 = iI ((ev t n).2.2.2.2 0) → (crs t n ≤ 60 → m'.1 109 25 = iI ((ev t n).2.2.2.1 0)) → Q m') :
    ∀ (j i : Nat) (m : sm_M), i + j = n → fr mmP m0 m → m.1 109 26 = iI (lvs t i : Nat) → m.1 109 27 = iI (crs t i : Nat) → mm m (ev t i) (crs t i) → gX12_measures_16 E L d vs a (iI f) (iI n) (iI ((ev t i).1 : Nat)) (iI ((f + i : Nat) : Int)) m Q := by
  intro j
  induction j with
  | zero =>
    intro i m hij hf hl hc hm
    have hin : i = n := by omega
    subst hin
    obtain ⟨v1, v2, v3, v4, v5⟩ := hm 0 (by omega)
    refine vX12_measures_16 hly hd hA ?_
    have e0 : (f : Int) + (i : Int) ≤ ((f + i : Nat) : Int) := by omega
    refine ⟨fun _ => ?_, fun hc => ?_⟩
    · simp (disch := omega) only [forall_eq, true_and, and_true, false_and, and_false, forall_const, true_implies, implies_true, not_true_eq_false, not_false_eq_true, false_implies, if_true, if_false, ↓reduceIte, Int.toNat_natCast, Int.reduceEq, Int.reduceNe, Int.reduceLT, Int.reduceLE, Int.reduceToNat, Int.reduceAdd, Int.reduceSub, Int.reduceMul, Int.reduceNeg, Nat.reduceAdd, Nat.reduceMul, Nat.reduceSub, iI_lit, jI_lit, iI_add, iI_sub, iI_mul, iI_neg, jI_add, jI_sub, jI_mul, jI_neg, nI_i, lN_j, iI_le, iI_lt, iI_eq, jI_le, jI_lt, jI_eq, iI_in, iI_cl, iI_j, jI_i, cN, inN, wI_eq, wI_ne, wJ_1, wJ_eq, wJ_ne, wI_2, wJ_3, iI_div, iI_rem, jI_div, jI_rem, v1, v2, v3]
      refine ⟨v4, h _ ((((hf.wJ (Or.inl (by omega))).wJ (Or.inl (by omega))).wI (Or.inl (by omega))).wI (Or.inl (by omega))) ?_ ?_ ?_ ?_ ?_ (fun h6 => ?_)⟩
      · simp (disch := omega) only [forall_eq, true_and, and_true, false_and, and_false, forall_const, true_implies, implies_true, not_true_eq_false, not_false_eq_true, false_implies, if_true, if_false, ↓reduceIte, Int.toNat_natCast, Int.reduceEq, Int.reduceNe, Int.reduceLT, Int.reduceLE, Int.reduceToNat, Int.reduceAdd, Int.reduceSub, Int.reduceMul, Int.reduceNeg, Nat.reduceAdd, Nat.reduceMul, Nat.reduceSub, iI_lit, jI_lit, iI_add, iI_sub, iI_mul, iI_neg, jI_add, jI_sub, jI_mul, jI_neg, nI_i, lN_j, iI_le, iI_lt, iI_eq, jI_le, jI_lt, jI_eq, iI_in, iI_cl, iI_j, jI_i, cN, inN, wI_eq, wI_ne, wJ_1, wJ_eq, wJ_ne, wI_2, wJ_3, iI_div, iI_rem, jI_div, jI_rem, hl]
      · simp (disch := omega) only [forall_eq, true_and, and_true, false_and, and_false, forall_const, true_implies, implies_true, not_true_eq_false, not_false_eq_true, false_implies, if_true, if_false, ↓reduceIte, Int.toNat_natCast, Int.reduceEq, Int.reduceNe, Int.reduceLT, Int.reduceLE, Int.reduceToNat, Int.reduceAdd, Int.reduceSub, Int.reduceMul, Int.reduceNeg, Nat.reduceAdd, Nat.reduceMul, Nat.reduceSub, iI_lit, jI_lit, iI_add, iI_sub, iI_mul, iI_neg, jI_add, jI_sub, jI_mul, jI_neg, nI_i, lN_j, iI_le, iI_lt, iI_eq, jI_le, jI_lt, jI_eq, iI_in, iI_cl, iI_j, jI_i, cN, inN, wI_eq, wI_ne, wJ_1, wJ_eq, wJ_ne, wI_2, wJ_3, iI_div, iI_rem, jI_div, jI_rem, hc]
      · simp (disch := omega) only [forall_eq, true_and, and_true, false_and, and_false, forall_const, true_implies, implies_true, not_true_eq_false, not_false_eq_true, false_implies, if_true, if_false, ↓reduceIte, Int.toNat_natCast, Int.reduceEq, Int.reduceNe, Int.reduceLT, Int.reduceLE, Int.reduceToNat, Int.reduceAdd, Int.reduceSub, Int.reduceMul, Int.reduceNeg, Nat.reduceAdd, Nat.reduceMul, Nat.reduceSub, iI_lit, jI_lit, iI_add, iI_sub, iI_mul, iI_neg, jI_add, jI_sub, jI_mul, jI_neg, nI_i, lN_j, iI_le, iI_lt, iI_eq, jI_le, jI_lt, jI_eq, iI_in, iI_cl, iI_j, jI_i, cN, inN, wI_eq, wI_ne, wJ_1, wJ_eq, wJ_ne, wI_2, wJ_3, iI_div, iI_rem, jI_div, jI_rem]
      · simp (disch := omega) only [forall_eq, true_and, and_true, false_and, and_false, forall_const, true_implies, implies_true, not_true_eq_false, not_false_eq_true, false_implies, if_true, if_false, ↓reduceIte, Int.toNat_natCast, Int.reduceEq, Int.reduceNe, Int.reduceLT, Int.reduceLE, Int.reduceToNat, Int.reduceAdd, Int.reduceSub, Int.reduceMul, Int.reduceNeg, Nat.reduceAdd, Nat.reduceMul, Nat.reduceSub, iI_lit, jI_lit, iI_add, iI_sub, iI_mul, iI_neg, jI_add, jI_sub, jI_mul, jI_neg, nI_i, lN_j, iI_le, iI_lt, iI_eq, jI_le, jI_lt, jI_eq, iI_in, iI_cl, iI_j, jI_i, cN, inN, wI_eq, wI_ne, wJ_1, wJ_eq, wJ_ne, wI_2, wJ_3, iI_div, iI_rem, jI_div, jI_rem]
      · simp (disch := omega) only [forall_eq, true_and, and_true, false_and, and_false, forall_const, true_implies, implies_true, not_true_eq_false, not_false_eq_true, false_implies, if_true, if_false, ↓reduceIte, Int.toNat_natCast, Int.reduceEq, Int.reduceNe, Int.reduceLT, Int.reduceLE, Int.reduceToNat, Int.reduceAdd, Int.reduceSub, Int.reduceMul, Int.reduceNeg, Nat.reduceAdd, Nat.reduceMul, Nat.reduceSub, iI_lit, jI_lit, iI_add, iI_sub, iI_mul, iI_neg, jI_add, jI_sub, jI_mul, jI_neg, nI_i, lN_j, iI_le, iI_lt, iI_eq, jI_le, jI_lt, jI_eq, iI_in, iI_cl, iI_j, jI_i, cN, inN, wI_eq, wI_ne, wJ_1, wJ_eq, wJ_ne, wI_2, wJ_3, iI_div, iI_rem, jI_div, jI_rem]
      · simp (disch := omega) only [forall_eq, true_and, and_true, false_and, and_false, forall_const, true_implies, implies_true, not_true_eq_false, not_false_eq_true, false_implies, if_true, if_false, ↓reduceIte, Int.toNat_natCast, Int.reduceEq, Int.reduceNe, Int.reduceLT, Int.reduceLE, Int.reduceToNat, Int.reduceAdd, Int.reduceSub, Int.reduceMul, Int.reduceNeg, Nat.reduceAdd, Nat.reduceMul, Nat.reduceSub, iI_lit, jI_lit, iI_add, iI_sub, iI_mul, iI_neg, jI_add, jI_sub, jI_mul, jI_neg, nI_i, lN_j, iI_le, iI_lt, iI_eq, jI_le, jI_lt, jI_eq, iI_in, iI_cl, iI_j, jI_i, cN, inN, wI_eq, wI_ne, wJ_1, wJ_eq, wJ_ne, wI_2, wJ_3, iI_div, iI_rem, jI_div, jI_rem, v5 h6]
    · simp (disch := omega) only [iI_lit, jI_lit, iI_add, iI_sub, iI_mul, iI_neg, jI_add, jI_sub, jI_mul, jI_neg, nI_i, lN_j, iI_le, iI_lt, iI_eq, jI_le, jI_lt, jI_eq, iI_in, iI_cl, iI_j, jI_i, wI_1, wI_2, wJ_1, wJ_2, wJ_3, wIs_1, wIs_2, wJs_1, wJs_2, wJs_3] at hc
      omega
  | succ j ih =>
    intro i m hij hf hl hc hm
    have K := ih (i + 1)
    clear ih
    have hz := hok i (by omega)
    have hB := ev_B (hok.le (show i ≤ n by omega))
    have hh := ev_h t i
    have hli := lvs_le t i
    have hci := crs_le (hok.le (show i ≤ n by omega)).tok
    have hdp := ev_dep t i
    have h01 := ev_01 t i
    have hs : ev t (i + 1) = evStep (ev t i) (t i) := rfl
    have hl1 : lvs t (i + 1) = lvs t i + (if t i ≤ 10 then 1 else 0) := rfl
    have hc1 : crs t (i + 1) = crs t i + (if t i < 10 then (t i).natAbs else 0) := rfl
    have hrow : m.1 a (f + i) = iI (tc (t i)) := (hf.i (by unfold mmP; omega)).trans (hr i (by omega))
    rw [hs, hl1, hc1] at K
    generalize ev t i = s at *
    generalize hzz : t i = z at *
    have e5 : ((f + i : Nat) : Int) + 1 = ((f + (i + 1) : Nat) : Int) := by omega
    have htc : tc z = if z ≤ 10 then z else z + 9 := rfl
    have hu : ¬ ((f : Int) + (n : Int) ≤ ((f + i : Nat) : Int)) := by omega
    refine vX12_measures_16 hly hd hA ?_
    simp (disch := omega) only [forall_eq, true_and, and_true, false_and, and_false, forall_const, true_implies, implies_true, not_true_eq_false, not_false_eq_true, false_implies, if_true, if_false, ↓reduceIte, Int.toNat_natCast, Int.reduceEq, Int.reduceNe, Int.reduceLT, Int.reduceLE, Int.reduceToNat, Int.reduceAdd, Int.reduceSub, Int.reduceMul, Int.reduceNeg, Nat.reduceAdd, Nat.reduceMul, Nat.reduceSub, iI_lit, jI_lit, iI_add, iI_sub, iI_mul, iI_neg, jI_add, jI_sub, jI_mul, jI_neg, nI_i, lN_j, iI_le, iI_lt, iI_eq, jI_le, jI_lt, jI_eq, iI_in, iI_cl, iI_j, jI_i, cN, inN, wI_eq, wI_ne, wJ_1, wJ_eq, wJ_ne, wI_2, wJ_3, iI_div, iI_rem, jI_div, jI_rem, hrow, hu]
    refine ⟨by omega, fun hbig => ?_, fun hsmall => ?_⟩
    · have h10 : 10 < z := by
        rw [htc] at hbig
        split at hbig <;> omega
      have htz : tc z = z + 9 := by rw [htc, if_neg (by omega)]
      rw [htz]
      have hs1 := hz.2.2.1 h10
      rw [if_neg (by omega), if_neg (by omega), Nat.add_zero, Nat.add_zero] at K
      refine ⟨fun n22 => ⟨fun n23 => ?_, fun n23 => ?_⟩, fun n22 => ?_⟩
      · have hs2 := hz.2.2.2 h10 (by omega)
        obtain ⟨x, hx⟩ : ∃ x, x = s.1 - 2 := ⟨_, rfl⟩
        obtain ⟨y, hy⟩ : ∃ y, y = s.1 - 1 := ⟨_, rfl⟩
        obtain ⟨v1, v2, v3, v4, v5⟩ := hm x (by omega)
        obtain ⟨w1, w2, w3, w4, w5⟩ := hm y (by omega)
        have bx := evB_at hB (k := x) (by omega)
        have by' := evB_at hB (k := y) (by omega)
        have dx := hdp x
        have dy := hdp y
        have fx := h01 x
        have fy := h01 y
        have ey : (s.1 : Int) + -1 = (y : Int) := by omega
        have ex : (y : Int) - 1 = (x : Int) := by omega
        have hz11 : z = 11 ∨ z = 12 := by omega
        have hst : (evStep s z).1 = y := by rw [evStep_h, if_neg (by omega), if_pos hz11]; omega
        have go455 : ∀ (r : Int), (r = 0 ∨ r = 1) → (crs t i ≤ 60 → r = (if s.2.2.2.1 x = 1 ∧ s.2.2.2.1 y = 1 ∧ (if z = 11 then isU (s.2.2.1 x) ∨ isU (s.2.2.1 y) else isU (s.2.1 x) ∨ isU (s.2.1 y)) then 1 else 0)) →
            gX12_measures_455 E L d vs a (iI f) (iI n) (iI y) (iI ((f + i : Nat) : Int)) (iI x) (jI (if z = 11 then s.2.2.1 x * s.2.2.1 y else s.2.1 x * s.2.2.1 y + s.2.1 y * s.2.2.1 x)) (sm_wJ (sm_wI m 125 x (iI r)) 123 x (jI (if z = 11 then s.2.1 x * s.2.2.1 y + s.2.1 y * s.2.2.1 x else s.2.1 x * s.2.1 y))) Q := by
          intro r hr0 hr1
          have fin : ∀ D : Int, D = 1 + max (s.2.2.2.2 x) (s.2.2.2.2 y) → gX12_measures_16 E L d vs a (iI f) (iI n) (iI y) (iI ((f + (i + 1) : Nat) : Int)) (sm_wI (sm_wJ (sm_wJ (sm_wI m 125 x (iI r)) 123 x (jI (if z = 11 then s.2.1 x * s.2.2.1 y + s.2.1 y * s.2.2.1 x else s.2.1 x * s.2.1 y))) 124 x (jI (if z = 11 then s.2.2.1 x * s.2.2.1 y else s.2.1 x * s.2.2.1 y + s.2.1 y * s.2.2.1 x))) 126 x (iI D)) Q := by
            intro D hD
            rw [← hst]
            refine K _ (by omega) ((((hf.wI (Or.inr (by omega))).wJ (Or.inr (by omega))).wJ (Or.inr (by omega))).wI (Or.inr (by omega))) ?_ ?_ (fun k hk => ?_)
            · simp (disch := omega) only [forall_eq, true_and, and_true, false_and, and_false, forall_const, true_implies, implies_true, not_true_eq_false, not_false_eq_true, false_implies, if_true, if_false, ↓reduceIte, Int.toNat_natCast, Int.reduceEq, Int.reduceNe, Int.reduceLT, Int.reduceLE, Int.reduceToNat, Int.reduceAdd, Int.reduceSub, Int.reduceMul, Int.reduceNeg, Nat.reduceAdd, Nat.reduceMul, Nat.reduceSub, iI_lit, jI_lit, iI_add, iI_sub, iI_mul, iI_neg, jI_add, jI_sub, jI_mul, jI_neg, nI_i, lN_j, iI_le, iI_lt, iI_eq, jI_le, jI_lt, jI_eq, iI_in, iI_cl, iI_j, jI_i, cN, inN, wI_eq, wI_ne, wJ_1, wJ_eq, wJ_ne, wI_2, wJ_3, iI_div, iI_rem, jI_div, jI_rem, hl, Nat.add_zero]
            · simp (disch := omega) only [forall_eq, true_and, and_true, false_and, and_false, forall_const, true_implies, implies_true, not_true_eq_false, not_false_eq_true, false_implies, if_true, if_false, ↓reduceIte, Int.toNat_natCast, Int.reduceEq, Int.reduceNe, Int.reduceLT, Int.reduceLE, Int.reduceToNat, Int.reduceAdd, Int.reduceSub, Int.reduceMul, Int.reduceNeg, Nat.reduceAdd, Nat.reduceMul, Nat.reduceSub, iI_lit, jI_lit, iI_add, iI_sub, iI_mul, iI_neg, jI_add, jI_sub, jI_mul, jI_neg, nI_i, lN_j, iI_le, iI_lt, iI_eq, jI_le, jI_lt, jI_eq, iI_in, iI_cl, iI_j, jI_i, cN, inN, wI_eq, wI_ne, wJ_1, wJ_eq, wJ_ne, wI_2, wJ_3, iI_div, iI_rem, jI_div, jI_rem, hc, Nat.add_zero]
            · rw [hst] at hk
              rcases hz11 with rfl | rfl
              · by_cases hkx : k = x
                · subst hkx
                  have hes : evStep s 11 = evSum s := rfl
                  rw [hes]
                  simp only [evSum, ← hx, ← hy, upI_eq]
                  simp (disch := omega) only [forall_eq, true_and, and_true, false_and, and_false, forall_const, true_implies, implies_true, not_true_eq_false, not_false_eq_true, false_implies, if_true, if_false, ↓reduceIte, Int.toNat_natCast, Int.reduceEq, Int.reduceNe, Int.reduceLT, Int.reduceLE, Int.reduceToNat, Int.reduceAdd, Int.reduceSub, Int.reduceMul, Int.reduceNeg, Nat.reduceAdd, Nat.reduceMul, Nat.reduceSub, iI_lit, jI_lit, iI_add, iI_sub, iI_mul, iI_neg, jI_add, jI_sub, jI_mul, jI_neg, nI_i, lN_j, iI_le, iI_lt, iI_eq, jI_le, jI_lt, jI_eq, iI_in, iI_cl, iI_j, jI_i, cN, inN, wI_eq, wI_ne, wJ_1, wJ_eq, wJ_ne, wI_2, wJ_3, iI_div, iI_rem, jI_div, jI_rem, hD]
                  refine ⟨?_, ?_⟩
                  · rcases hr0 with rfl | rfl <;> simp
                  · intro h6
                    rw [hr1 h6]
                    simp
                · have q := hm k (by omega)
                  have hes : evStep s 11 = evSum s := rfl
                  rw [hes]
                  simp only [evSum, ← hx, ← hy, upI_ne hkx]
                  simp (disch := omega) only [forall_eq, true_and, and_true, false_and, and_false, forall_const, true_implies, implies_true, not_true_eq_false, not_false_eq_true, false_implies, if_true, if_false, ↓reduceIte, Int.toNat_natCast, Int.reduceEq, Int.reduceNe, Int.reduceLT, Int.reduceLE, Int.reduceToNat, Int.reduceAdd, Int.reduceSub, Int.reduceMul, Int.reduceNeg, Nat.reduceAdd, Nat.reduceMul, Nat.reduceSub, iI_lit, jI_lit, iI_add, iI_sub, iI_mul, iI_neg, jI_add, jI_sub, jI_mul, jI_neg, nI_i, lN_j, iI_le, iI_lt, iI_eq, jI_le, jI_lt, jI_eq, iI_in, iI_cl, iI_j, jI_i, cN, inN, wI_eq, wI_ne, wJ_1, wJ_eq, wJ_ne, wI_2, wJ_3, iI_div, iI_rem, jI_div, jI_rem]
                  exact q
              · by_cases hkx : k = x
                · subst hkx
                  have hes : evStep s 12 = evStk s := rfl
                  rw [hes]
                  simp only [evStk, ← hx, ← hy, upI_eq]
                  simp (disch := omega) only [forall_eq, true_and, and_true, false_and, and_false, forall_const, true_implies, implies_true, not_true_eq_false, not_false_eq_true, false_implies, if_true, if_false, ↓reduceIte, Int.toNat_natCast, Int.reduceEq, Int.reduceNe, Int.reduceLT, Int.reduceLE, Int.reduceToNat, Int.reduceAdd, Int.reduceSub, Int.reduceMul, Int.reduceNeg, Nat.reduceAdd, Nat.reduceMul, Nat.reduceSub, iI_lit, jI_lit, iI_add, iI_sub, iI_mul, iI_neg, jI_add, jI_sub, jI_mul, jI_neg, nI_i, lN_j, iI_le, iI_lt, iI_eq, jI_le, jI_lt, jI_eq, iI_in, iI_cl, iI_j, jI_i, cN, inN, wI_eq, wI_ne, wJ_1, wJ_eq, wJ_ne, wI_2, wJ_3, iI_div, iI_rem, jI_div, jI_rem, hD]
                  refine ⟨?_, ?_⟩
                  · rcases hr0 with rfl | rfl <;> simp
                  · intro h6
                    rw [hr1 h6]
                    simp
                · have q := hm k (by omega)
                  have hes : evStep s 12 = evStk s := rfl
                  rw [hes]
                  simp only [evStk, ← hx, ← hy, upI_ne hkx]
                  simp (disch := omega) only [forall_eq, true_and, and_true, false_and, and_false, forall_const, true_implies, implies_true, not_true_eq_false, not_false_eq_true, false_implies, if_true, if_false, ↓reduceIte, Int.toNat_natCast, Int.reduceEq, Int.reduceNe, Int.reduceLT, Int.reduceLE, Int.reduceToNat, Int.reduceAdd, Int.reduceSub, Int.reduceMul, Int.reduceNeg, Nat.reduceAdd, Nat.reduceMul, Nat.reduceSub, iI_lit, jI_lit, iI_add, iI_sub, iI_mul, iI_neg, jI_add, jI_sub, jI_mul, jI_neg, nI_i, lN_j, iI_le, iI_lt, iI_eq, jI_le, jI_lt, jI_eq, iI_in, iI_cl, iI_j, jI_i, cN, inN, wI_eq, wI_ne, wJ_1, wJ_eq, wJ_ne, wI_2, wJ_3, iI_div, iI_rem, jI_div, jI_rem]
                  exact q
          refine vX12_measures_455 hly hd hA ?_
          simp (disch := omega) only [forall_eq, true_and, and_true, false_and, and_false, forall_const, true_implies, implies_true, not_true_eq_false, not_false_eq_true, false_implies, if_true, if_false, ↓reduceIte, Int.toNat_natCast, Int.reduceEq, Int.reduceNe, Int.reduceLT, Int.reduceLE, Int.reduceToNat, Int.reduceAdd, Int.reduceSub, Int.reduceMul, Int.reduceNeg, Nat.reduceAdd, Nat.reduceMul, Nat.reduceSub, iI_lit, jI_lit, iI_add, iI_sub, iI_mul, iI_neg, jI_add, jI_sub, jI_mul, jI_neg, nI_i, lN_j, iI_le, iI_lt, iI_eq, jI_le, jI_lt, jI_eq, iI_in, iI_cl, iI_j, jI_i, cN, inN, wI_eq, wI_ne, wJ_1, wJ_eq, wJ_ne, wI_2, wJ_3, iI_div, iI_rem, jI_div, jI_rem, ex, v1, w1, e5]
          refine ⟨by omega, by omega, by omega, fun hle => ⟨by omega, by omega, fin _ (by omega)⟩, fun hle => ⟨by omega, by omega, fin _ (by omega)⟩⟩
        have go385 : ∀ (r : Int), (r = 0 ∨ r = 1) → (crs t i ≤ 60 → r = (if s.2.2.2.1 x = 1 ∧ s.2.2.2.1 y = 1 ∧ (if z = 11 then isU (s.2.2.1 x) ∨ isU (s.2.2.1 y) else isU (s.2.1 x) ∨ isU (s.2.1 y)) then 1 else 0)) →
            gX12_measures_385 E L d vs a (iI f) (iI n) (iI y) (iI ((f + i : Nat) : Int)) (iI (z + 9)) (jI (s.2.1 x)) (jI (s.2.2.1 x)) (jI (s.2.1 y)) (jI (s.2.2.1 y)) (iI x) (iI r) m Q := by
          intro r hr0 hr1
          have h9 := go455 r hr0 hr1
          refine vX12_measures_385 hly hd hA ?_
          rcases hz11 with rfl | rfl
          · simp (disch := omega) only [forall_eq, true_and, and_true, false_and, and_false, forall_const, true_implies, implies_true, not_true_eq_false, not_false_eq_true, false_implies, if_true, if_false, ↓reduceIte, Int.toNat_natCast, Int.reduceEq, Int.reduceNe, Int.reduceLT, Int.reduceLE, Int.reduceToNat, Int.reduceAdd, Int.reduceSub, Int.reduceMul, Int.reduceNeg, Nat.reduceAdd, Nat.reduceMul, Nat.reduceSub, iI_lit, jI_lit, iI_add, iI_sub, iI_mul, iI_neg, jI_add, jI_sub, jI_mul, jI_neg, nI_i, lN_j, iI_le, iI_lt, iI_eq, jI_le, jI_lt, jI_eq, iI_in, iI_cl, iI_j, jI_i, cN, inN, wI_eq, wI_ne, wJ_1, wJ_eq, wJ_ne, wI_2, wJ_3, iI_div, iI_rem, jI_div, jI_rem]
            refine ⟨by omega, by omega, vX12_measures_420 hly hd hA ?_⟩
            simp (disch := omega) only [forall_eq, true_and, and_true, false_and, and_false, forall_const, true_implies, implies_true, not_true_eq_false, not_false_eq_true, false_implies, if_true, if_false, ↓reduceIte, Int.toNat_natCast, Int.reduceEq, Int.reduceNe, Int.reduceLT, Int.reduceLE, Int.reduceToNat, Int.reduceAdd, Int.reduceSub, Int.reduceMul, Int.reduceNeg, Nat.reduceAdd, Nat.reduceMul, Nat.reduceSub, iI_lit, jI_lit, iI_add, iI_sub, iI_mul, iI_neg, jI_add, jI_sub, jI_mul, jI_neg, nI_i, lN_j, iI_le, iI_lt, iI_eq, jI_le, jI_lt, jI_eq, iI_in, iI_cl, iI_j, jI_i, cN, inN, wI_eq, wI_ne, wJ_1, wJ_eq, wJ_ne, wI_2, wJ_3, iI_div, iI_rem, jI_div, jI_rem, ex]
            exact ⟨by omega, h9⟩
          · simp (disch := omega) only [forall_eq, true_and, and_true, false_and, and_false, forall_const, true_implies, implies_true, not_true_eq_false, not_false_eq_true, false_implies, if_true, if_false, ↓reduceIte, Int.toNat_natCast, Int.reduceEq, Int.reduceNe, Int.reduceLT, Int.reduceLE, Int.reduceToNat, Int.reduceAdd, Int.reduceSub, Int.reduceMul, Int.reduceNeg, Nat.reduceAdd, Nat.reduceMul, Nat.reduceSub, iI_lit, jI_lit, iI_add, iI_sub, iI_mul, iI_neg, jI_add, jI_sub, jI_mul, jI_neg, nI_i, lN_j, iI_le, iI_lt, iI_eq, jI_le, jI_lt, jI_eq, iI_in, iI_cl, iI_j, jI_i, cN, inN, wI_eq, wI_ne, wJ_1, wJ_eq, wJ_ne, wI_2, wJ_3, iI_div, iI_rem, jI_div, jI_rem]
            refine ⟨by omega, by omega, vX12_measures_420 hly hd hA ?_⟩
            simp (disch := omega) only [forall_eq, true_and, and_true, false_and, and_false, forall_const, true_implies, implies_true, not_true_eq_false, not_false_eq_true, false_implies, if_true, if_false, ↓reduceIte, Int.toNat_natCast, Int.reduceEq, Int.reduceNe, Int.reduceLT, Int.reduceLE, Int.reduceToNat, Int.reduceAdd, Int.reduceSub, Int.reduceMul, Int.reduceNeg, Nat.reduceAdd, Nat.reduceMul, Nat.reduceSub, iI_lit, jI_lit, iI_add, iI_sub, iI_mul, iI_neg, jI_add, jI_sub, jI_mul, jI_neg, nI_i, lN_j, iI_le, iI_lt, iI_eq, jI_le, jI_lt, jI_eq, iI_in, iI_cl, iI_j, jI_i, cN, inN, wI_eq, wI_ne, wJ_1, wJ_eq, wJ_ne, wI_2, wJ_3, iI_div, iI_rem, jI_div, jI_rem, ex]
            exact ⟨by omega, h9⟩
        have go343 : ∀ (r : Int), (r = 0 ∨ r = 1) → (crs t i ≤ 60 → (r = 1 ↔ (if z = 11 then isU (s.2.2.1 x) ∨ isU (s.2.2.1 y) else isU (s.2.1 x) ∨ isU (s.2.1 y)))) →
            gX12_measures_343 E L d vs a (iI f) (iI n) (iI y) (iI ((f + i : Nat) : Int)) (iI (z + 9)) (jI (s.2.1 x)) (jI (s.2.2.1 x)) (jI (s.2.1 y)) (jI (s.2.2.1 y)) (iI r) m Q := by
          intro r hr0 hr1
          refine vX12_measures_343 hly hd hA ?_
          simp (disch := omega) only [forall_eq, true_and, and_true, false_and, and_false, forall_const, true_implies, implies_true, not_true_eq_false, not_false_eq_true, false_implies, if_true, if_false, ↓reduceIte, Int.toNat_natCast, Int.reduceEq, Int.reduceNe, Int.reduceLT, Int.reduceLE, Int.reduceToNat, Int.reduceAdd, Int.reduceSub, Int.reduceMul, Int.reduceNeg, Nat.reduceAdd, Nat.reduceMul, Nat.reduceSub, iI_lit, jI_lit, iI_add, iI_sub, iI_mul, iI_neg, jI_add, jI_sub, jI_mul, jI_neg, nI_i, lN_j, iI_le, iI_lt, iI_eq, jI_le, jI_lt, jI_eq, iI_in, iI_cl, iI_j, jI_i, cN, inN, wI_eq, wI_ne, wJ_1, wJ_eq, wJ_ne, wI_2, wJ_3, iI_div, iI_rem, jI_div, jI_rem, ex]
          have r1 : ∀ {u v : Int}, (-5 ≤ u ∧ u ≤ 5) → (-5 ≤ v ∧ v ≤ 5) → iI u = iI v → u = v := fun h1 h2 h3 => (iI_eq (by omega) (by omega) (by omega) (by omega)).mp h3
          refine ⟨by omega, fun q1 => go385 0 (Or.inl rfl) (fun h6 => ?_), fun q1 => ⟨by omega, fun q2 => go385 0 (Or.inl rfl) (fun h6 => ?_), fun q2 => ⟨fun q3 => go385 0 (Or.inl rfl) (fun h6 => ?_), fun q3 => go385 1 (Or.inr rfl) (fun h6 => ?_)⟩⟩⟩
          · have := r1 (by omega) (by omega) ((v5 h6).symm.trans q1)
            rw [if_neg (fun q => by omega)]
          · have := r1 (by omega) (by omega) ((w5 h6).symm.trans q2)
            rw [if_neg (fun q => by omega)]
          · rw [if_neg (fun q => by have := (hr1 h6).mpr q.2.2; omega)]
          · have a1 : s.2.2.2.1 x = 1 := by
              rcases fx with h0 | h0
              · exact absurd ((v5 h6).trans (by rw [h0])) q1
              · exact h0
            have a2 : s.2.2.2.1 y = 1 := by
              rcases fy with h0 | h0
              · exact absurd ((w5 h6).trans (by rw [h0])) q2
              · exact h0
            rw [if_pos ⟨a1, a2, (hr1 h6).mp (by omega)⟩]
        have bd : ∀ u : Int, ∀ v : Nat, u.natAbs + v ≤ 2 ^ crs t i → crs t i ≤ 60 → -9223372036854775808 ≤ u ∧ u ≤ 9223372036854775807 := fun u v h1 h6 => by
          have := pow60 h6
          omega
        have bd2 : ∀ u : Int, ∀ v : Nat, v + u.natAbs ≤ 2 ^ crs t i → crs t i ≤ 60 → -9223372036854775808 ≤ u ∧ u ≤ 9223372036854775807 := fun u v h1 h6 => by
          have := pow60 h6
          omega
        have hnx : (y : Int) - 1 = (x : Int) := ex
        simp (disch := omega) only [forall_eq, true_and, and_true, false_and, and_false, forall_const, true_implies, implies_true, not_true_eq_false, not_false_eq_true, false_implies, if_true, if_false, ↓reduceIte, Int.toNat_natCast, Int.reduceEq, Int.reduceNe, Int.reduceLT, Int.reduceLE, Int.reduceToNat, Int.reduceAdd, Int.reduceSub, Int.reduceMul, Int.reduceNeg, Nat.reduceAdd, Nat.reduceMul, Nat.reduceSub, iI_lit, jI_lit, iI_add, iI_sub, iI_mul, iI_neg, jI_add, jI_sub, jI_mul, jI_neg, nI_i, lN_j, iI_le, iI_lt, iI_eq, jI_le, jI_lt, jI_eq, iI_in, iI_cl, iI_j, jI_i, cN, inN, wI_eq, wI_ne, wJ_1, wJ_eq, wJ_ne, wI_2, wJ_3, iI_div, iI_rem, jI_div, jI_rem, ey, ex, v2, v3, w2, w3]
        refine ⟨by omega, by omega, by omega, by omega, fun n20 => ?_, fun n20 => ?_⟩
        · have hz12 : z = 12 := by omega
          refine c12_isUnitM (by omega) (fun r hr0 hr1 => ?_)
          simp (disch := omega) only [forall_eq, true_and, and_true, false_and, and_false, forall_const, true_implies, implies_true, not_true_eq_false, not_false_eq_true, false_implies, if_true, if_false, ↓reduceIte, Int.toNat_natCast, Int.reduceEq, Int.reduceNe, Int.reduceLT, Int.reduceLE, Int.reduceToNat, Int.reduceAdd, Int.reduceSub, Int.reduceMul, Int.reduceNeg, Nat.reduceAdd, Nat.reduceMul, Nat.reduceSub, iI_lit, jI_lit, iI_add, iI_sub, iI_mul, iI_neg, jI_add, jI_sub, jI_mul, jI_neg, nI_i, lN_j, iI_le, iI_lt, iI_eq, jI_le, jI_lt, jI_eq, iI_in, iI_cl, iI_j, jI_i, cN, inN, wI_eq, wI_ne, wJ_1, wJ_eq, wJ_ne, wI_2, wJ_3, iI_div, iI_rem, jI_div, jI_rem]
          refine ⟨fun q => go343 1 (Or.inr rfl) (fun h6 => ⟨fun _ => ?_, fun _ => rfl⟩), fun q => c12_isUnitM (by omega) (fun r2 hr2 hr3 => ?_)⟩
          · rw [if_neg (by omega)]
            have hb := bd _ _ bx.1 h6
            exact Or.inl ((hr1 _ hb.1 hb.2 rfl).mp (by omega))
          · simp (disch := omega) only [forall_eq, true_and, and_true, false_and, and_false, forall_const, true_implies, implies_true, not_true_eq_false, not_false_eq_true, false_implies, if_true, if_false, ↓reduceIte, Int.toNat_natCast, Int.reduceEq, Int.reduceNe, Int.reduceLT, Int.reduceLE, Int.reduceToNat, Int.reduceAdd, Int.reduceSub, Int.reduceMul, Int.reduceNeg, Nat.reduceAdd, Nat.reduceMul, Nat.reduceSub, iI_lit, jI_lit, iI_add, iI_sub, iI_mul, iI_neg, jI_add, jI_sub, jI_mul, jI_neg, nI_i, lN_j, iI_le, iI_lt, iI_eq, jI_le, jI_lt, jI_eq, iI_in, iI_cl, iI_j, jI_i, cN, inN, wI_eq, wI_ne, wJ_1, wJ_eq, wJ_ne, wI_2, wJ_3, iI_div, iI_rem, jI_div, jI_rem]
            refine ⟨fun q2 => go343 0 (Or.inl rfl) (fun h6 => ⟨fun q9 => by omega, fun q9 => ?_⟩), fun q2 => go343 1 (Or.inr rfl) (fun h6 => ⟨fun _ => ?_, fun _ => rfl⟩)⟩
            · rw [if_neg (by omega)] at q9
              have hb := bd _ _ bx.1 h6
              have hb2 := bd _ _ by'.1 h6
              rcases q9 with q9 | q9
              · have := (hr1 _ hb.1 hb.2 rfl).mpr q9
                omega
              · have := (hr3 _ hb2.1 hb2.2 rfl).mpr q9
                omega
            · rw [if_neg (by omega)]
              have hb := bd _ _ by'.1 h6
              exact Or.inr ((hr3 _ hb.1 hb.2 rfl).mp (by omega))
        · have hz12 : z = 11 := by omega
          refine c12_isUnitM (by omega) (fun r hr0 hr1 => ?_)
          simp (disch := omega) only [forall_eq, true_and, and_true, false_and, and_false, forall_const, true_implies, implies_true, not_true_eq_false, not_false_eq_true, false_implies, if_true, if_false, ↓reduceIte, Int.toNat_natCast, Int.reduceEq, Int.reduceNe, Int.reduceLT, Int.reduceLE, Int.reduceToNat, Int.reduceAdd, Int.reduceSub, Int.reduceMul, Int.reduceNeg, Nat.reduceAdd, Nat.reduceMul, Nat.reduceSub, iI_lit, jI_lit, iI_add, iI_sub, iI_mul, iI_neg, jI_add, jI_sub, jI_mul, jI_neg, nI_i, lN_j, iI_le, iI_lt, iI_eq, jI_le, jI_lt, jI_eq, iI_in, iI_cl, iI_j, jI_i, cN, inN, wI_eq, wI_ne, wJ_1, wJ_eq, wJ_ne, wI_2, wJ_3, iI_div, iI_rem, jI_div, jI_rem]
          refine ⟨fun q => go343 1 (Or.inr rfl) (fun h6 => ⟨fun _ => ?_, fun _ => rfl⟩), fun q => c12_isUnitM (by omega) (fun r2 hr2 hr3 => ?_)⟩
          · rw [if_pos (by omega)]
            have hb := bd2 _ _ bx.1 h6
            exact Or.inl ((hr1 _ hb.1 hb.2 rfl).mp (by omega))
          · simp (disch := omega) only [forall_eq, true_and, and_true, false_and, and_false, forall_const, true_implies, implies_true, not_true_eq_false, not_false_eq_true, false_implies, if_true, if_false, ↓reduceIte, Int.toNat_natCast, Int.reduceEq, Int.reduceNe, Int.reduceLT, Int.reduceLE, Int.reduceToNat, Int.reduceAdd, Int.reduceSub, Int.reduceMul, Int.reduceNeg, Nat.reduceAdd, Nat.reduceMul, Nat.reduceSub, iI_lit, jI_lit, iI_add, iI_sub, iI_mul, iI_neg, jI_add, jI_sub, jI_mul, jI_neg, nI_i, lN_j, iI_le, iI_lt, iI_eq, jI_le, jI_lt, jI_eq, iI_in, iI_cl, iI_j, jI_i, cN, inN, wI_eq, wI_ne, wJ_1, wJ_eq, wJ_ne, wI_2, wJ_3, iI_div, iI_rem, jI_div, jI_rem]
            refine ⟨fun q2 => go343 0 (Or.inl rfl) (fun h6 => ⟨fun q9 => by omega, fun q9 => ?_⟩), fun q2 => go343 1 (Or.inr rfl) (fun h6 => ⟨fun _ => ?_, fun _ => rfl⟩)⟩
            · rw [if_pos (by omega)] at q9
              have hb := bd2 _ _ bx.1 h6
              have hb2 := bd2 _ _ by'.1 h6
              rcases q9 with q9 | q9
              · have := (hr1 _ hb.1 hb.2 rfl).mpr q9
                omega
              · have := (hr3 _ hb2.1 hb2.2 rfl).mpr q9
                omega
            · rw [if_pos (by omega)]
              have hb := bd2 _ _ by'.1 h6
              exact Or.inr ((hr3 _ hb.1 hb.2 rfl).mp (by omega))
      · have hz14 : z = 14 := by omega
        subst hz14
        have hes : evStep s 14 = evMir s := rfl
        rw [hes] at K
        have ey : (s.1 : Int) - 1 = ((s.1 - 1 : Nat) : Int) := by omega
        obtain ⟨v1, v2, v3, v4, v5⟩ := hm (s.1 - 1) (by omega)
        simp (disch := omega) only [forall_eq, true_and, and_true, false_and, and_false, forall_const, true_implies, implies_true, not_true_eq_false, not_false_eq_true, false_implies, if_true, if_false, ↓reduceIte, Int.toNat_natCast, Int.reduceEq, Int.reduceNe, Int.reduceLT, Int.reduceLE, Int.reduceToNat, Int.reduceAdd, Int.reduceSub, Int.reduceMul, Int.reduceNeg, Nat.reduceAdd, Nat.reduceMul, Nat.reduceSub, iI_lit, jI_lit, iI_add, iI_sub, iI_mul, iI_neg, jI_add, jI_sub, jI_mul, jI_neg, nI_i, lN_j, iI_le, iI_lt, iI_eq, jI_le, jI_lt, jI_eq, iI_in, iI_cl, iI_j, jI_i, cN, inN, wI_eq, wI_ne, wJ_1, wJ_eq, wJ_ne, wI_2, wJ_3, iI_div, iI_rem, jI_div, jI_rem, ey, v1, v2, v3, e5]
        refine ⟨by omega, by omega, by omega, by omega, K _ (by omega) ((hf.wJ (Or.inr (by omega))).wI (Or.inr (by omega))) ?_ ?_ (fun k hk => ?_)⟩
        · simp (disch := omega) only [forall_eq, true_and, and_true, false_and, and_false, forall_const, true_implies, implies_true, not_true_eq_false, not_false_eq_true, false_implies, if_true, if_false, ↓reduceIte, Int.toNat_natCast, Int.reduceEq, Int.reduceNe, Int.reduceLT, Int.reduceLE, Int.reduceToNat, Int.reduceAdd, Int.reduceSub, Int.reduceMul, Int.reduceNeg, Nat.reduceAdd, Nat.reduceMul, Nat.reduceSub, iI_lit, jI_lit, iI_add, iI_sub, iI_mul, iI_neg, jI_add, jI_sub, jI_mul, jI_neg, nI_i, lN_j, iI_le, iI_lt, iI_eq, jI_le, jI_lt, jI_eq, iI_in, iI_cl, iI_j, jI_i, cN, inN, wI_eq, wI_ne, wJ_1, wJ_eq, wJ_ne, wI_2, wJ_3, iI_div, iI_rem, jI_div, jI_rem, hl, Nat.add_zero]
        · simp (disch := omega) only [forall_eq, true_and, and_true, false_and, and_false, forall_const, true_implies, implies_true, not_true_eq_false, not_false_eq_true, false_implies, if_true, if_false, ↓reduceIte, Int.toNat_natCast, Int.reduceEq, Int.reduceNe, Int.reduceLT, Int.reduceLE, Int.reduceToNat, Int.reduceAdd, Int.reduceSub, Int.reduceMul, Int.reduceNeg, Nat.reduceAdd, Nat.reduceMul, Nat.reduceSub, iI_lit, jI_lit, iI_add, iI_sub, iI_mul, iI_neg, jI_add, jI_sub, jI_mul, jI_neg, nI_i, lN_j, iI_le, iI_lt, iI_eq, jI_le, jI_lt, jI_eq, iI_in, iI_cl, iI_j, jI_i, cN, inN, wI_eq, wI_ne, wJ_1, wJ_eq, wJ_ne, wI_2, wJ_3, iI_div, iI_rem, jI_div, jI_rem, hc, Nat.add_zero]
        · have hk2 : k < s.1 := hk
          by_cases hkx : k = s.1 - 1
          · subst hkx
            simp only [evMir, upI_eq]
            simp (disch := omega) only [forall_eq, true_and, and_true, false_and, and_false, forall_const, true_implies, implies_true, not_true_eq_false, not_false_eq_true, false_implies, if_true, if_false, ↓reduceIte, Int.toNat_natCast, Int.reduceEq, Int.reduceNe, Int.reduceLT, Int.reduceLE, Int.reduceToNat, Int.reduceAdd, Int.reduceSub, Int.reduceMul, Int.reduceNeg, Nat.reduceAdd, Nat.reduceMul, Nat.reduceSub, iI_lit, jI_lit, iI_add, iI_sub, iI_mul, iI_neg, jI_add, jI_sub, jI_mul, jI_neg, nI_i, lN_j, iI_le, iI_lt, iI_eq, jI_le, jI_lt, jI_eq, iI_in, iI_cl, iI_j, jI_i, cN, inN, wI_eq, wI_ne, wJ_1, wJ_eq, wJ_ne, wI_2, wJ_3, iI_div, iI_rem, jI_div, jI_rem]
            exact ⟨v3, v4, v5⟩
          · have q := hm k hk2
            simp only [evMir, upI_ne hkx]
            simp (disch := omega) only [forall_eq, true_and, and_true, false_and, and_false, forall_const, true_implies, implies_true, not_true_eq_false, not_false_eq_true, false_implies, if_true, if_false, ↓reduceIte, Int.toNat_natCast, Int.reduceEq, Int.reduceNe, Int.reduceLT, Int.reduceLE, Int.reduceToNat, Int.reduceAdd, Int.reduceSub, Int.reduceMul, Int.reduceNeg, Nat.reduceAdd, Nat.reduceMul, Nat.reduceSub, iI_lit, jI_lit, iI_add, iI_sub, iI_mul, iI_neg, jI_add, jI_sub, jI_mul, jI_neg, nI_i, lN_j, iI_le, iI_lt, iI_eq, jI_le, jI_lt, jI_eq, iI_in, iI_cl, iI_j, jI_i, cN, inN, wI_eq, wI_ne, wJ_1, wJ_eq, wJ_ne, wI_2, wJ_3, iI_div, iI_rem, jI_div, jI_rem]
            exact q
      · have hz13 : z = 13 := by omega
        subst hz13
        have hes : evStep s 13 = evTurn s := rfl
        rw [hes] at K
        have ey : (s.1 : Int) - 1 = ((s.1 - 1 : Nat) : Int) := by omega
        obtain ⟨v1, v2, v3, v4, v5⟩ := hm (s.1 - 1) (by omega)
        simp (disch := omega) only [forall_eq, true_and, and_true, false_and, and_false, forall_const, true_implies, implies_true, not_true_eq_false, not_false_eq_true, false_implies, if_true, if_false, ↓reduceIte, Int.toNat_natCast, Int.reduceEq, Int.reduceNe, Int.reduceLT, Int.reduceLE, Int.reduceToNat, Int.reduceAdd, Int.reduceSub, Int.reduceMul, Int.reduceNeg, Nat.reduceAdd, Nat.reduceMul, Nat.reduceSub, iI_lit, jI_lit, iI_add, iI_sub, iI_mul, iI_neg, jI_add, jI_sub, jI_mul, jI_neg, nI_i, lN_j, iI_le, iI_lt, iI_eq, jI_le, jI_lt, jI_eq, iI_in, iI_cl, iI_j, jI_i, cN, inN, wI_eq, wI_ne, wJ_1, wJ_eq, wJ_ne, wI_2, wJ_3, iI_div, iI_rem, jI_div, jI_rem, ey, v1, v2, v3, e5]
        refine ⟨by omega, by omega, by omega, by omega, by omega, by omega, K _ (by omega) (((hf.wJ (Or.inr (by omega))).wJ (Or.inr (by omega))).wI (Or.inr (by omega))) ?_ ?_ (fun k hk => ?_)⟩
        · simp (disch := omega) only [forall_eq, true_and, and_true, false_and, and_false, forall_const, true_implies, implies_true, not_true_eq_false, not_false_eq_true, false_implies, if_true, if_false, ↓reduceIte, Int.toNat_natCast, Int.reduceEq, Int.reduceNe, Int.reduceLT, Int.reduceLE, Int.reduceToNat, Int.reduceAdd, Int.reduceSub, Int.reduceMul, Int.reduceNeg, Nat.reduceAdd, Nat.reduceMul, Nat.reduceSub, iI_lit, jI_lit, iI_add, iI_sub, iI_mul, iI_neg, jI_add, jI_sub, jI_mul, jI_neg, nI_i, lN_j, iI_le, iI_lt, iI_eq, jI_le, jI_lt, jI_eq, iI_in, iI_cl, iI_j, jI_i, cN, inN, wI_eq, wI_ne, wJ_1, wJ_eq, wJ_ne, wI_2, wJ_3, iI_div, iI_rem, jI_div, jI_rem, hl, Nat.add_zero]
        · simp (disch := omega) only [forall_eq, true_and, and_true, false_and, and_false, forall_const, true_implies, implies_true, not_true_eq_false, not_false_eq_true, false_implies, if_true, if_false, ↓reduceIte, Int.toNat_natCast, Int.reduceEq, Int.reduceNe, Int.reduceLT, Int.reduceLE, Int.reduceToNat, Int.reduceAdd, Int.reduceSub, Int.reduceMul, Int.reduceNeg, Nat.reduceAdd, Nat.reduceMul, Nat.reduceSub, iI_lit, jI_lit, iI_add, iI_sub, iI_mul, iI_neg, jI_add, jI_sub, jI_mul, jI_neg, nI_i, lN_j, iI_le, iI_lt, iI_eq, jI_le, jI_lt, jI_eq, iI_in, iI_cl, iI_j, jI_i, cN, inN, wI_eq, wI_ne, wJ_1, wJ_eq, wJ_ne, wI_2, wJ_3, iI_div, iI_rem, jI_div, jI_rem, hc, Nat.add_zero]
        · have hk2 : k < s.1 := hk
          by_cases hkx : k = s.1 - 1
          · subst hkx
            simp only [evTurn, upI_eq]
            simp (disch := omega) only [forall_eq, true_and, and_true, false_and, and_false, forall_const, true_implies, implies_true, not_true_eq_false, not_false_eq_true, false_implies, if_true, if_false, ↓reduceIte, Int.toNat_natCast, Int.reduceEq, Int.reduceNe, Int.reduceLT, Int.reduceLE, Int.reduceToNat, Int.reduceAdd, Int.reduceSub, Int.reduceMul, Int.reduceNeg, Nat.reduceAdd, Nat.reduceMul, Nat.reduceSub, iI_lit, jI_lit, iI_add, iI_sub, iI_mul, iI_neg, jI_add, jI_sub, jI_mul, jI_neg, nI_i, lN_j, iI_le, iI_lt, iI_eq, jI_le, jI_lt, jI_eq, iI_in, iI_cl, iI_j, jI_i, cN, inN, wI_eq, wI_ne, wJ_1, wJ_eq, wJ_ne, wI_2, wJ_3, iI_div, iI_rem, jI_div, jI_rem]
            exact ⟨v4, v5⟩
          · have q := hm k hk2
            simp only [evTurn, upI_ne hkx]
            simp (disch := omega) only [forall_eq, true_and, and_true, false_and, and_false, forall_const, true_implies, implies_true, not_true_eq_false, not_false_eq_true, false_implies, if_true, if_false, ↓reduceIte, Int.toNat_natCast, Int.reduceEq, Int.reduceNe, Int.reduceLT, Int.reduceLE, Int.reduceToNat, Int.reduceAdd, Int.reduceSub, Int.reduceMul, Int.reduceNeg, Nat.reduceAdd, Nat.reduceMul, Nat.reduceSub, iI_lit, jI_lit, iI_add, iI_sub, iI_mul, iI_neg, jI_add, jI_sub, jI_mul, jI_neg, nI_i, lN_j, iI_le, iI_lt, iI_eq, jI_le, jI_lt, jI_eq, iI_in, iI_cl, iI_j, jI_i, cN, inN, wI_eq, wI_ne, wJ_1, wJ_eq, wJ_ne, wI_2, wJ_3, iI_div, iI_rem, jI_div, jI_rem]
            exact q
    · have h10 : z ≤ 10 := by
        rw [htc] at hsmall
        split at hsmall <;> omega
      have htz : tc z = z := by rw [htc, if_pos h10]
      rw [htz]
      have hes : evStep s z = evPush s z := by rw [evStep, if_pos h10]
      rw [if_pos h10, hes] at K
      have e4 : (s.1 : Int) + 1 = (((evPush s z).1 : Nat) : Int) := by
        show (s.1 : Int) + 1 = ((s.1 + 1 : Nat) : Int)
        omega
      have fin : ∀ T B C : Int, T = (if z = 10 then 1 else z) → B = (if z = 10 then 0 else 1) → C = ((crs t i + (if z < 10 then z.natAbs else 0) : Nat) : Int) → gX12_measures_16 E L d vs a (iI f) (iI n) (iI (((evPush s z).1 : Nat) : Int)) (iI ((f + (i + 1) : Nat) : Int)) (sm_wI (sm_wI (sm_wI (sm_wI (sm_wJ (sm_wJ m 123 s.1 (jI T)) 124 s.1 (jI B)) 125 s.1 (iI 1)) 126 s.1 (iI 1)) 109 26 (iI ((lvs t i : Int) + 1))) 109 27 (iI C)) Q := by
        intro T B C hT hB1 hC
        refine K _ (by omega) ((((((hf.wJ (Or.inr (by omega))).wJ (Or.inr (by omega))).wI (Or.inr (by omega))).wI (Or.inr (by omega))).wI (Or.inl (by omega))).wI (Or.inl (by omega))) ?_ ?_ (fun k hk => ?_)
        · simp (disch := omega) only [forall_eq, true_and, and_true, false_and, and_false, forall_const, true_implies, implies_true, not_true_eq_false, not_false_eq_true, false_implies, if_true, if_false, ↓reduceIte, Int.toNat_natCast, Int.reduceEq, Int.reduceNe, Int.reduceLT, Int.reduceLE, Int.reduceToNat, Int.reduceAdd, Int.reduceSub, Int.reduceMul, Int.reduceNeg, Nat.reduceAdd, Nat.reduceMul, Nat.reduceSub, iI_lit, jI_lit, iI_add, iI_sub, iI_mul, iI_neg, jI_add, jI_sub, jI_mul, jI_neg, nI_i, lN_j, iI_le, iI_lt, iI_eq, jI_le, jI_lt, jI_eq, iI_in, iI_cl, iI_j, jI_i, cN, inN, wI_eq, wI_ne, wJ_1, wJ_eq, wJ_ne, wI_2, wJ_3, iI_div, iI_rem, jI_div, jI_rem]
          rfl
        · simp (disch := omega) only [forall_eq, true_and, and_true, false_and, and_false, forall_const, true_implies, implies_true, not_true_eq_false, not_false_eq_true, false_implies, if_true, if_false, ↓reduceIte, Int.toNat_natCast, Int.reduceEq, Int.reduceNe, Int.reduceLT, Int.reduceLE, Int.reduceToNat, Int.reduceAdd, Int.reduceSub, Int.reduceMul, Int.reduceNeg, Nat.reduceAdd, Nat.reduceMul, Nat.reduceSub, iI_lit, jI_lit, iI_add, iI_sub, iI_mul, iI_neg, jI_add, jI_sub, jI_mul, jI_neg, nI_i, lN_j, iI_le, iI_lt, iI_eq, jI_le, jI_lt, jI_eq, iI_in, iI_cl, iI_j, jI_i, cN, inN, wI_eq, wI_ne, wJ_1, wJ_eq, wJ_ne, wI_2, wJ_3, iI_div, iI_rem, jI_div, jI_rem, hC]
        · have hk2 : k < s.1 + 1 := hk
          by_cases hkx : k = s.1
          · subst hkx
            simp only [evPush, upI_eq]
            simp (disch := omega) only [forall_eq, true_and, and_true, false_and, and_false, forall_const, true_implies, implies_true, not_true_eq_false, not_false_eq_true, false_implies, if_true, if_false, ↓reduceIte, Int.toNat_natCast, Int.reduceEq, Int.reduceNe, Int.reduceLT, Int.reduceLE, Int.reduceToNat, Int.reduceAdd, Int.reduceSub, Int.reduceMul, Int.reduceNeg, Nat.reduceAdd, Nat.reduceMul, Nat.reduceSub, iI_lit, jI_lit, iI_add, iI_sub, iI_mul, iI_neg, jI_add, jI_sub, jI_mul, jI_neg, nI_i, lN_j, iI_le, iI_lt, iI_eq, jI_le, jI_lt, jI_eq, iI_in, iI_cl, iI_j, jI_i, cN, inN, wI_eq, wI_ne, wJ_1, wJ_eq, wJ_ne, wI_2, wJ_3, iI_div, iI_rem, jI_div, jI_rem, hT, hB1]
            simp
          · obtain ⟨q1, q2, q3, q4, q5⟩ := hm k (by omega)
            simp only [evPush, upI_ne hkx]
            simp (disch := omega) only [forall_eq, true_and, and_true, false_and, and_false, forall_const, true_implies, implies_true, not_true_eq_false, not_false_eq_true, false_implies, if_true, if_false, ↓reduceIte, Int.toNat_natCast, Int.reduceEq, Int.reduceNe, Int.reduceLT, Int.reduceLE, Int.reduceToNat, Int.reduceAdd, Int.reduceSub, Int.reduceMul, Int.reduceNeg, Nat.reduceAdd, Nat.reduceMul, Nat.reduceSub, iI_lit, jI_lit, iI_add, iI_sub, iI_mul, iI_neg, jI_add, jI_sub, jI_mul, jI_neg, nI_i, lN_j, iI_le, iI_lt, iI_eq, jI_le, jI_lt, jI_eq, iI_in, iI_cl, iI_j, jI_i, cN, inN, wI_eq, wI_ne, wJ_1, wJ_eq, wJ_ne, wI_2, wJ_3, iI_div, iI_rem, jI_div, jI_rem]
            exact ⟨q1, q2, q3, q4, fun h6 => q5 (by omega)⟩
      refine ⟨fun hz10 => ?_, fun hz10 => ?_⟩
      · refine vX12_measures_57 hly hd hA ?_
        simp (disch := omega) only [forall_eq, true_and, and_true, false_and, and_false, forall_const, true_implies, implies_true, not_true_eq_false, not_false_eq_true, false_implies, if_true, if_false, ↓reduceIte, Int.toNat_natCast, Int.reduceEq, Int.reduceNe, Int.reduceLT, Int.reduceLE, Int.reduceToNat, Int.reduceAdd, Int.reduceSub, Int.reduceMul, Int.reduceNeg, Nat.reduceAdd, Nat.reduceMul, Nat.reduceSub, iI_lit, jI_lit, iI_add, iI_sub, iI_mul, iI_neg, jI_add, jI_sub, jI_mul, jI_neg, nI_i, lN_j, iI_le, iI_lt, iI_eq, jI_le, jI_lt, jI_eq, iI_in, iI_cl, iI_j, jI_i, cN, inN, wI_eq, wI_ne, wJ_1, wJ_eq, wJ_ne, wI_2, wJ_3, iI_div, iI_rem, jI_div, jI_rem]
        refine ⟨by omega, fun _ => vX12_measures_76 hly hd hA ?_, fun q => by omega⟩
        simp (disch := omega) only [forall_eq, true_and, and_true, false_and, and_false, forall_const, true_implies, implies_true, not_true_eq_false, not_false_eq_true, false_implies, if_true, if_false, ↓reduceIte, Int.toNat_natCast, Int.reduceEq, Int.reduceNe, Int.reduceLT, Int.reduceLE, Int.reduceToNat, Int.reduceAdd, Int.reduceSub, Int.reduceMul, Int.reduceNeg, Nat.reduceAdd, Nat.reduceMul, Nat.reduceSub, iI_lit, jI_lit, iI_add, iI_sub, iI_mul, iI_neg, jI_add, jI_sub, jI_mul, jI_neg, nI_i, lN_j, iI_le, iI_lt, iI_eq, jI_le, jI_lt, jI_eq, iI_in, iI_cl, iI_j, jI_i, cN, inN, wI_eq, wI_ne, wJ_1, wJ_eq, wJ_ne, wI_2, wJ_3, iI_div, iI_rem, jI_div, jI_rem, hl, hc, e4, e5]
        refine ⟨by omega, by omega, by omega, fun _ => ⟨fun q => fin _ _ _ ?_ ?_ ?_, fun q => fin _ _ _ ?_ ?_ ?_⟩, fun q => by omega⟩
        · rw [if_neg (by omega)]
        · rw [if_neg (by omega)]
        · rw [if_pos (by omega)]; omega
        · rw [if_neg (by omega)]
        · rw [if_neg (by omega)]
        · rw [if_pos (by omega)]; omega
      · subst hz10
        refine vX12_measures_57 hly hd hA ?_
        simp (disch := omega) only [forall_eq, true_and, and_true, false_and, and_false, forall_const, true_implies, implies_true, not_true_eq_false, not_false_eq_true, false_implies, if_true, if_false, ↓reduceIte, Int.toNat_natCast, Int.reduceEq, Int.reduceNe, Int.reduceLT, Int.reduceLE, Int.reduceToNat, Int.reduceAdd, Int.reduceSub, Int.reduceMul, Int.reduceNeg, Nat.reduceAdd, Nat.reduceMul, Nat.reduceSub, iI_lit, jI_lit, iI_add, iI_sub, iI_mul, iI_neg, jI_add, jI_sub, jI_mul, jI_neg, nI_i, lN_j, iI_le, iI_lt, iI_eq, jI_le, jI_lt, jI_eq, iI_in, iI_cl, iI_j, jI_i, cN, inN, wI_eq, wI_ne, wJ_1, wJ_eq, wJ_ne, wI_2, wJ_3, iI_div, iI_rem, jI_div, jI_rem]
        refine ⟨by omega, vX12_measures_76 hly hd hA ?_⟩
        simp (disch := omega) only [forall_eq, true_and, and_true, false_and, and_false, forall_const, true_implies, implies_true, not_true_eq_false, not_false_eq_true, false_implies, if_true, if_false, ↓reduceIte, Int.toNat_natCast, Int.reduceEq, Int.reduceNe, Int.reduceLT, Int.reduceLE, Int.reduceToNat, Int.reduceAdd, Int.reduceSub, Int.reduceMul, Int.reduceNeg, Nat.reduceAdd, Nat.reduceMul, Nat.reduceSub, iI_lit, jI_lit, iI_add, iI_sub, iI_mul, iI_neg, jI_add, jI_sub, jI_mul, jI_neg, nI_i, lN_j, iI_le, iI_lt, iI_eq, jI_le, jI_lt, jI_eq, iI_in, iI_cl, iI_j, jI_i, cN, inN, wI_eq, wI_ne, wJ_1, wJ_eq, wJ_ne, wI_2, wJ_3, iI_div, iI_rem, jI_div, jI_rem, hl, hc, e4, e5]
        exact ⟨by omega, by omega, by omega, fin _ _ _ rfl rfl (by simp)⟩
theorem c12_measures {Q : sm_M → Prop} {a f na n : Nat} {t : Nat → Int} (hly : ∀ S, L S → ly S) (hd : 2 ≤ d) (hA : ∀ S, L S → sm_K S a = 11 ∧ sm_N S a = na) (ha : a = 111 ∨ a = 115) (hna : f + n ≤ na) (hna2 : na ≤ 1000) (hn : n ≤ 150) (hok : okT t n) (hh1 : 1 ≤ (ev t n).1) (hr : mr m a f t n)
    (h : ∀ m', fr mmP m m' → m'.1 109 26 = iI (lvs t n : Nat) → m'.1 109 27 = iI (crs t n : Nat) → m'.2.1 109 23 = jI ((ev t n).2.1 0) → m'.2.1 109 24 = jI ((ev t n).2.2.1 0) → m'.1 109 28 = iI ((ev t n).2.2.2.2 0) → (crs t n ≤ 60 → m'.1 109 25 = iI ((ev t n).2.2.2.1 0)) → Q m') : sm_callV E L mX12_measures d 0 0 [.ref (sm_B E + 109), .ref (sm_B E + a), .int (iI f), .int (iI n)] m Q := by
  refine vX12_measures_0 hly hd hA ?_
  simp (disch := omega) only [forall_eq, true_and, and_true, false_and, and_false, forall_const, true_implies, implies_true, not_true_eq_false, not_false_eq_true, false_implies, if_true, if_false, ↓reduceIte, Int.toNat_natCast, Int.reduceEq, Int.reduceNe, Int.reduceLT, Int.reduceLE, Int.reduceToNat, Int.reduceAdd, Int.reduceSub, Int.reduceMul, Int.reduceNeg, Nat.reduceAdd, Nat.reduceMul, Nat.reduceSub, iI_lit, jI_lit, iI_add, iI_sub, iI_mul, iI_neg, jI_add, jI_sub, jI_mul, jI_neg, nI_i, lN_j, iI_le, iI_lt, iI_eq, jI_le, jI_lt, jI_eq, iI_in, iI_cl, iI_j, jI_i, cN, inN, wI_eq, wI_ne, wJ_1, wJ_eq, wJ_ne, wI_2, wJ_3, iI_div, iI_rem, jI_div, jI_rem]
  have h9 := c12_measures_loop (E := E) (vs := [.ref (sm_B E + 109), .ref (sm_B E + a), .int (iI f), .int (iI n)]) hly hd hA ha hna hna2 hn hok hh1 m hr h n 0 (sm_wI (sm_wI m 109 26 (iI 0)) 109 27 (iI 0)) (by omega) ((fr.rf.wI (Or.inl (by omega))).wI (Or.inl (by omega))) (by simp (disch := omega) only [forall_eq, true_and, and_true, false_and, and_false, forall_const, true_implies, implies_true, not_true_eq_false, not_false_eq_true, false_implies, if_true, if_false, ↓reduceIte, Int.toNat_natCast, Int.reduceEq, Int.reduceNe, Int.reduceLT, Int.reduceLE, Int.reduceToNat, Int.reduceAdd, Int.reduceSub, Int.reduceMul, Int.reduceNeg, Nat.reduceAdd, Nat.reduceMul, Nat.reduceSub, iI_lit, jI_lit, iI_add, iI_sub, iI_mul, iI_neg, jI_add, jI_sub, jI_mul, jI_neg, nI_i, lN_j, iI_le, iI_lt, iI_eq, jI_le, jI_lt, jI_eq, iI_in, iI_cl, iI_j, jI_i, cN, inN, wI_eq, wI_ne, wJ_1, wJ_eq, wJ_ne, wI_2, wJ_3, iI_div, iI_rem, jI_div, jI_rem]; rfl) (by simp (disch := omega) only [forall_eq, true_and, and_true, false_and, and_false, forall_const, true_implies, implies_true, not_true_eq_false, not_false_eq_true, false_implies, if_true, if_false, ↓reduceIte, Int.toNat_natCast, Int.reduceEq, Int.reduceNe, Int.reduceLT, Int.reduceLE, Int.reduceToNat, Int.reduceAdd, Int.reduceSub, Int.reduceMul, Int.reduceNeg, Nat.reduceAdd, Nat.reduceMul, Nat.reduceSub, iI_lit, jI_lit, iI_add, iI_sub, iI_mul, iI_neg, jI_add, jI_sub, jI_mul, jI_neg, nI_i, lN_j, iI_le, iI_lt, iI_eq, jI_le, jI_lt, jI_eq, iI_in, iI_cl, iI_j, jI_i, cN, inN, wI_eq, wI_ne, wJ_1, wJ_eq, wJ_ne, wI_2, wJ_3, iI_div, iI_rem, jI_div, jI_rem]; rfl) (fun k hk => absurd hk (Nat.not_lt_zero _))
  exact h9
end MEA
