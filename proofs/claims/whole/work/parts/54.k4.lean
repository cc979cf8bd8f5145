/-! count, image, restore -/
theorem SL.fn {m : sm_M} (h : SL m) : ∃ (T : Nat → Nat → Int) (N : Nat → Nat), ∀ i, i < 6 → vT (T i) (N i) ∧ tgm m (77 + 4 * i) (T i) (N i) ∧ hl m i (T i) (N i) := by
  refine ⟨fun i => if hi : i < 6 then Classical.choose (h i hi) else fun _ => 0, fun i => if hi : i < 6 then Classical.choose (Classical.choose_spec (h i hi)) else 0, fun i hi => ?_⟩
  simp only [dif_pos hi]
  exact Classical.choose_spec (Classical.choose_spec (h i hi))
def sumN (f : Nat → Nat) : Nat → Nat
  | 0 => 0
  | n + 1 => sumN f n + f n
section K4
variable {E : sm_E} {L : sm_S → Prop} {d1 d2 : Nat} {m : sm_M} {c : Nat}
theorem sumN_le {f : Nat → Nat} {b : Nat} (n : Nat) (h : ∀ i, i < n → f i ≤ b) : sumN f n ≤ n * b := by
  induction n with
  | zero => exact Nat.zero_le _
  | succ n ih =>
    have h1 := ih (fun i hi => h i (by omega))
    have h2 := h n (by omega)
    rw [sumN, Nat.succ_mul]
    omega
theorem c11_allCr_loop {Q : Int32 → sm_M → Prop} {vs : List Value} {f : Nat → Nat} (hly : ∀ S, L S → ly S) (hd : 1 ≤ d1) (hf : ∀ i, i < 6 → m.1 (77 + 4 * i) 3 = iI (f i : Nat)) (h : Q (iI (sumN f 6 : Nat)) m) : ∀ (r i : Nat), i + r = 6 → gX11_allCrossings_4 E L d1 vs (iI (sumN f i : Nat)) (iI (i : Nat)) m Q := by
  intro r
  induction r with
  | zero =>
    intro i hi
    have : i = 6 := by omega
    subst this
    refine vX11_allCrossings_4 hly hd ⟨fun _ => h, fun q => absurd (by decide) q⟩
  | succ r ih =>
    intro i hi
    have e5 : ((i : Nat) : Int) + 1 = ((i + 1 : Nat) : Int) := by omega
    have e6 : ((sumN f i : Nat) : Int) + ((f i : Nat) : Int) = ((sumN f (i + 1) : Nat) : Int) := by
      rw [sumN]
      omega
    refine vX11_allCrossings_4 hly hd ?_
    simp (disch := omega) only [forall_eq, true_and, and_true, false_and, and_false, forall_const, true_implies, implies_true, not_true_eq_false, not_false_eq_true, false_implies, if_true, if_false, ↓reduceIte, Int.toNat_natCast, Int.reduceEq, Int.reduceNe, Int.reduceLT, Int.reduceLE, Int.reduceToNat, Int.reduceAdd, Int.reduceSub, Int.reduceMul, Int.reduceNeg, Nat.reduceAdd, Nat.reduceMul, Nat.reduceSub, iI_lit, jI_lit, iI_add, iI_sub, iI_mul, iI_neg, jI_add, jI_sub, jI_mul, jI_neg, nI_i, lN_j, iI_le, iI_lt, iI_eq, jI_le, jI_lt, jI_eq, iI_in, iI_cl, iI_j, jI_i, cN, inN, wI_eq, wI_ne, wJ_1, wJ_eq, wJ_ne, wI_2, wJ_3, iI_div, iI_rem, jI_div, jI_rem, true_or, or_true, false_or, or_false, eq_self, Nat.add_zero, hf i (by omega), e5, e6]
    exact ⟨fun q => by omega, fun _ => ⟨by omega, ih (i + 1) (by omega)⟩⟩
theorem c11_allCrossings {Q : Int32 → sm_M → Prop} {f : Nat → Nat} (hly : ∀ S, L S → ly S) (hd : 1 ≤ d1) (hf : ∀ i, i < 6 → m.1 (77 + 4 * i) 3 = iI (f i : Nat)) (h : Q (iI (sumN f 6 : Nat)) m) : sm_callI E L mX11_allCrossings d1 0 0 [.ref (sm_B E + 0)] m Q :=
  vX11_allCrossings_0 hd (c11_allCr_loop hly hd hf h 6 0 rfl)
theorem c11_allRa_loop {Q : Int32 → sm_M → Prop} {vs : List Value} {f : Nat → Nat} (hly : ∀ S, L S → ly S) (hd : 1 ≤ d1) (hf : ∀ i, i < 6 → f i ≤ 1 ∧ m.1 (77 + 4 * i) 7 = iI (f i : Nat)) (h : Q (iI (sumN f 6 : Nat)) m) : ∀ (r i : Nat), i + r = 6 → gX11_allRational_4 E L d1 vs (iI (sumN f i : Nat)) (iI (i : Nat)) m Q := by
  intro r
  induction r with
  | zero =>
    intro i hi
    have : i = 6 := by omega
    subst this
    refine vX11_allRational_4 hly hd ⟨fun _ => h, fun q => absurd (by decide) q⟩
  | succ r ih =>
    intro i hi
    obtain ⟨h1, h2⟩ := hf i (by omega)
    have e5 : ((i : Nat) : Int) + 1 = ((i + 1 : Nat) : Int) := by omega
    have hs : sumN f (i + 1) = sumN f i + f i := rfl
    refine vX11_allRational_4 hly hd ?_
    simp (disch := omega) only [forall_eq, true_and, and_true, false_and, and_false, forall_const, true_implies, implies_true, not_true_eq_false, not_false_eq_true, false_implies, if_true, if_false, ↓reduceIte, Int.toNat_natCast, Int.reduceEq, Int.reduceNe, Int.reduceLT, Int.reduceLE, Int.reduceToNat, Int.reduceAdd, Int.reduceSub, Int.reduceMul, Int.reduceNeg, Nat.reduceAdd, Nat.reduceMul, Nat.reduceSub, iI_lit, jI_lit, iI_add, iI_sub, iI_mul, iI_neg, jI_add, jI_sub, jI_mul, jI_neg, nI_i, lN_j, iI_le, iI_lt, iI_eq, jI_le, jI_lt, jI_eq, iI_in, iI_cl, iI_j, jI_i, cN, inN, wI_eq, wI_ne, wJ_1, wJ_eq, wJ_ne, wI_2, wJ_3, iI_div, iI_rem, jI_div, jI_rem, true_or, or_true, false_or, or_false, eq_self, Nat.add_zero, h2, e5]
    refine ⟨fun q => by omega, fun _ => ⟨by omega, fun q => ?_, fun q => ?_⟩⟩
    · have := ih (i + 1) (by omega)
      rw [hs, show f i = 0 by omega] at this
      exact this
    · have := ih (i + 1) (by omega)
      rw [hs, show f i = 1 by omega] at this
      exact this
theorem c12_allCr_loop {Q : Int32 → sm_M → Prop} {vs : List Value} {T : Nat → Nat → Int} {N : Nat → Nat} (hly : ∀ S, L S → ly S) (hd : 4 ≤ d2) (m0 : sm_M) (hf : ∀ i, i < 6 → vT (T i) (N i) ∧ hl m0 i (T i) (N i)) (h : ∀ m', fr mmP m0 m' → Q (iI (sumN (fun i => crs (T i) (N i)) 6 : Nat)) m') : ∀ (r i : Nat) (m : sm_M), i + r = 6 → fr mmP m0 m → gX12_allCrossings_4 E L d2 vs (iI (sumN (fun i => crs (T i) (N i)) i : Nat)) (iI (i : Nat)) m Q := by
  intro r
  induction r with
  | zero =>
    intro i m hi hm
    have : i = 6 := by omega
    subst this
    refine vX12_allCrossings_4 hly hd ⟨fun _ => h m hm, fun q => absurd (by decide) q⟩
  | succ r ih =>
    intro i m hi hm
    obtain ⟨h1, h2⟩ := hf i (by omega)
    have e5 : ((i : Nat) : Int) + 1 = ((i + 1 : Nat) : Int) := by omega
    have e6 : ((sumN (fun i => crs (T i) (N i)) i : Nat) : Int) + ((crs (T i) (N i) : Nat) : Int) = ((sumN (fun i => crs (T i) (N i)) (i + 1) : Nat) : Int) := by
      rw [sumN]
      omega
    refine vX12_allCrossings_4 hly hd ⟨fun q => ?_, fun _ => ?_⟩
    · simp (disch := omega) only [forall_eq, true_and, and_true, false_and, and_false, forall_const, true_implies, implies_true, not_true_eq_false, not_false_eq_true, false_implies, if_true, if_false, ↓reduceIte, Int.toNat_natCast, Int.reduceEq, Int.reduceNe, Int.reduceLT, Int.reduceLE, Int.reduceToNat, Int.reduceAdd, Int.reduceSub, Int.reduceMul, Int.reduceNeg, Nat.reduceAdd, Nat.reduceMul, Nat.reduceSub, iI_lit, jI_lit, iI_add, iI_sub, iI_mul, iI_neg, jI_add, jI_sub, jI_mul, jI_neg, nI_i, lN_j, iI_le, iI_lt, iI_eq, jI_le, jI_lt, jI_eq, iI_in, iI_cl, iI_j, jI_i, cN, inN, wI_eq, wI_ne, wJ_1, wJ_eq, wJ_ne, wI_2, wJ_3, iI_div, iI_rem, jI_div, jI_rem, true_or, or_true, false_or, or_false, eq_self, Nat.add_zero] at q
      omega
    · refine c12_measured hly (by omega) (h2.fr hm (by unfold mmP; omega) (fun k => by unfold mmP; omega)) (by omega) h1 (fun m2 f2 g2 => ?_)
      rw [g2.2.1]
      simp (disch := omega) only [forall_eq, true_and, and_true, false_and, and_false, forall_const, true_implies, implies_true, not_true_eq_false, not_false_eq_true, false_implies, if_true, if_false, ↓reduceIte, Int.toNat_natCast, Int.reduceEq, Int.reduceNe, Int.reduceLT, Int.reduceLE, Int.reduceToNat, Int.reduceAdd, Int.reduceSub, Int.reduceMul, Int.reduceNeg, Nat.reduceAdd, Nat.reduceMul, Nat.reduceSub, iI_lit, jI_lit, iI_add, iI_sub, iI_mul, iI_neg, jI_add, jI_sub, jI_mul, jI_neg, nI_i, lN_j, iI_le, iI_lt, iI_eq, jI_le, jI_lt, jI_eq, iI_in, iI_cl, iI_j, jI_i, cN, inN, wI_eq, wI_ne, wJ_1, wJ_eq, wJ_ne, wI_2, wJ_3, iI_div, iI_rem, jI_div, jI_rem, true_or, or_true, false_or, or_false, eq_self, Nat.add_zero, e5, e6]
      exact ih (i + 1) m2 (by omega) (hm.tr f2)
theorem c12_allCrossings {Q : Int32 → sm_M → Prop} {T : Nat → Nat → Int} {N : Nat → Nat} (hly : ∀ S, L S → ly S) (hd : 4 ≤ d2) (hf : ∀ i, i < 6 → vT (T i) (N i) ∧ hl m i (T i) (N i)) (h : ∀ m', fr mmP m m' → Q (iI (sumN (fun i => crs (T i) (N i)) 6 : Nat)) m') : sm_callI E L mX12_allCrossings d2 0 0 [.ref (sm_B E + 109)] m Q :=
  vX12_allCrossings_0 hd (c12_allCr_loop hly hd m hf h 6 0 m rfl fr.rf)
theorem c12_ra_loop {Q : Int32 → sm_M → Prop} {vs : List Value} {T : Nat → Nat → Int} {N : Nat → Nat} {f : Nat → Nat} (hly : ∀ S, L S → ly S) (hd : 4 ≤ d2) (m0 : sm_M) (hf : ∀ i, i < 6 → vT (T i) (N i) ∧ hl m0 i (T i) (N i) ∧ f i ≤ 1 ∧ Tr (T i) (N i) = (f i : Nat)) (h : ∀ m', fr mmP m0 m' → Q (iI (sumN f 6 : Nat)) m') : ∀ (r i : Nat) (m : sm_M), i + r = 6 → fr mmP m0 m → gX12_rationals_4 E L d2 vs (iI (sumN f i : Nat)) (iI (i : Nat)) m Q := by
  intro r
  induction r with
  | zero =>
    intro i m hi hm
    have : i = 6 := by omega
    subst this
    refine vX12_rationals_4 hly hd ⟨fun _ => h m hm, fun q => absurd (by decide) q⟩
  | succ r ih =>
    intro i m hi hm
    obtain ⟨h1, h2, h3, h4⟩ := hf i (by omega)
    have e5 : ((i : Nat) : Int) + 1 = ((i + 1 : Nat) : Int) := by omega
    have hs : sumN f (i + 1) = sumN f i + f i := rfl
    refine vX12_rationals_4 hly hd ⟨fun q => ?_, fun _ => ?_⟩
    · simp (disch := omega) only [forall_eq, true_and, and_true, false_and, and_false, forall_const, true_implies, implies_true, not_true_eq_false, not_false_eq_true, false_implies, if_true, if_false, ↓reduceIte, Int.toNat_natCast, Int.reduceEq, Int.reduceNe, Int.reduceLT, Int.reduceLE, Int.reduceToNat, Int.reduceAdd, Int.reduceSub, Int.reduceMul, Int.reduceNeg, Nat.reduceAdd, Nat.reduceMul, Nat.reduceSub, iI_lit, jI_lit, iI_add, iI_sub, iI_mul, iI_neg, jI_add, jI_sub, jI_mul, jI_neg, nI_i, lN_j, iI_le, iI_lt, iI_eq, jI_le, jI_lt, jI_eq, iI_in, iI_cl, iI_j, jI_i, cN, inN, wI_eq, wI_ne, wJ_1, wJ_eq, wJ_ne, wI_2, wJ_3, iI_div, iI_rem, jI_div, jI_rem, true_or, or_true, false_or, or_false, eq_self, Nat.add_zero] at q
      omega
    · refine c12_measured hly (by omega) (h2.fr hm (by unfold mmP; omega) (fun k => by unfold mmP; omega)) (by omega) h1 (fun m2 f2 g2 => ?_)
      rw [g2.2.2.2.2.2, h4]
      simp (disch := omega) only [forall_eq, true_and, and_true, false_and, and_false, forall_const, true_implies, implies_true, not_true_eq_false, not_false_eq_true, false_implies, if_true, if_false, ↓reduceIte, Int.toNat_natCast, Int.reduceEq, Int.reduceNe, Int.reduceLT, Int.reduceLE, Int.reduceToNat, Int.reduceAdd, Int.reduceSub, Int.reduceMul, Int.reduceNeg, Nat.reduceAdd, Nat.reduceMul, Nat.reduceSub, iI_lit, jI_lit, iI_add, iI_sub, iI_mul, iI_neg, jI_add, jI_sub, jI_mul, jI_neg, nI_i, lN_j, iI_le, iI_lt, iI_eq, jI_le, jI_lt, jI_eq, iI_in, iI_cl, iI_j, jI_i, cN, inN, wI_eq, wI_ne, wJ_1, wJ_eq, wJ_ne, wI_2, wJ_3, iI_div, iI_rem, jI_div, jI_rem, true_or, or_true, false_or, or_false, eq_self, Nat.add_zero, e5, Int.add_zero]
      refine ⟨fun q => ?_, fun q => ?_⟩
      · have := ih (i + 1) m2 (by omega) (hm.tr f2)
        rw [hs, show f i = 0 by omega] at this
        exact this
      · have := ih (i + 1) m2 (by omega) (hm.tr f2)
        rw [hs, show f i = 1 by omega] at this
        exact this
theorem c12_count_loop {Q : Int32 → sm_M → Prop} {vs : List Value} {n : Nat} {p q w : Nat → Int} (hly : ∀ S, L S → ly S) (hd : 5 ≤ d2) (hb : bkn c m n p q w) (h : Q (iI (sumI w n)) m) : ∀ (r i : Nat), i + r = n → gX12_count_62 E L d2 vs (iI (sumI w i)) (iI (i : Nat)) m Q := by
  obtain ⟨b1, b2, b3, b4, b5, b6⟩ := hb
  intro r
  induction r with
  | zero =>
    intro i hi
    have : i = n := by omega
    subst this
    refine vX12_count_62 hly hd ?_
    simp (disch := omega) only [forall_eq, true_and, and_true, false_and, and_false, forall_const, true_implies, implies_true, not_true_eq_false, not_false_eq_true, false_implies, if_true, if_false, ↓reduceIte, Int.toNat_natCast, Int.reduceEq, Int.reduceNe, Int.reduceLT, Int.reduceLE, Int.reduceToNat, Int.reduceAdd, Int.reduceSub, Int.reduceMul, Int.reduceNeg, Nat.reduceAdd, Nat.reduceMul, Nat.reduceSub, iI_lit, jI_lit, iI_add, iI_sub, iI_mul, iI_neg, jI_add, jI_sub, jI_mul, jI_neg, nI_i, lN_j, iI_le, iI_lt, iI_eq, jI_le, jI_lt, jI_eq, iI_in, iI_cl, iI_j, jI_i, cN, inN, wI_eq, wI_ne, wJ_1, wJ_eq, wJ_ne, wI_2, wJ_3, iI_div, iI_rem, jI_div, jI_rem, true_or, or_true, false_or, or_false, eq_self, Nat.add_zero, b3]
    exact ⟨fun _ => h, fun q => by omega⟩
  | succ r ih =>
    intro i hi
    have e5 : ((i : Nat) : Int) + 1 = ((i + 1 : Nat) : Int) := by omega
    have e6 : sumI w i + w i = sumI w (i + 1) := rfl
    refine vX12_count_62 hly hd ?_
    simp (disch := omega) only [forall_eq, true_and, and_true, false_and, and_false, forall_const, true_implies, implies_true, not_true_eq_false, not_false_eq_true, false_implies, if_true, if_false, ↓reduceIte, Int.toNat_natCast, Int.reduceEq, Int.reduceNe, Int.reduceLT, Int.reduceLE, Int.reduceToNat, Int.reduceAdd, Int.reduceSub, Int.reduceMul, Int.reduceNeg, Nat.reduceAdd, Nat.reduceMul, Nat.reduceSub, iI_lit, jI_lit, iI_add, iI_sub, iI_mul, iI_neg, jI_add, jI_sub, jI_mul, jI_neg, nI_i, lN_j, iI_le, iI_lt, iI_eq, jI_le, jI_lt, jI_eq, iI_in, iI_cl, iI_j, jI_i, cN, inN, wI_eq, wI_ne, wJ_1, wJ_eq, wJ_ne, wI_2, wJ_3, iI_div, iI_rem, jI_div, jI_rem, true_or, or_true, false_or, or_false, eq_self, Nat.add_zero, b3, (b4 i (by omega)).2.2.2.2.2, e5, e6]
    exact ⟨fun q => by omega, fun _ => ⟨by omega, ih (i + 1) (by omega)⟩⟩
theorem k_count {x1 : Int32} (hly : ∀ S, L S → ly S) (hd1 : 2 ≤ d1) (hd2 : 5 ≤ d2) (hI : Inv c m) : sm_callI E L mX11_count d1 0 0 [.ref (sm_B E + 0), .int x1] m (fun r m1 => sm_callI E L mX12_count d2 0 0 [.ref (sm_B E + 109), .int x1] m1 (fun r2 m2 => r = r2 ∧ Inv c m2)) := by
  obtain ⟨i, i1, i2, rfl⟩ := iI_ex x1
  obtain ⟨T, N, hTN⟩ := hI.2.1.1.fn
  obtain ⟨bn, bp, bq, bw, hbk⟩ := hI.2.1.2.2.2.2.1
  obtain ⟨tn, tb, htp⟩ := hI.2.1.2.2.2.1
  refine vX11_count_0 hly hd1 ?_
  by_cases hi : 0 ≤ i ∧ i ≤ 5
  · rcases (show i = 0 ∨ i = 1 ∨ i = 2 ∨ i = 3 ∨ i = 4 ∨ i = 5 by omega) with rfl | rfl | rfl | rfl | rfl | rfl
    · simp (disch := omega) only [forall_eq, true_and, and_true, false_and, and_false, forall_const, true_implies, implies_true, not_true_eq_false, not_false_eq_true, false_implies, if_true, if_false, ↓reduceIte, Int.toNat_natCast, Int.reduceEq, Int.reduceNe, Int.reduceLT, Int.reduceLE, Int.reduceToNat, Int.reduceAdd, Int.reduceSub, Int.reduceMul, Int.reduceNeg, Nat.reduceAdd, Nat.reduceMul, Nat.reduceSub, iI_lit, jI_lit, iI_add, iI_sub, iI_mul, iI_neg, jI_add, jI_sub, jI_mul, jI_neg, nI_i, lN_j, iI_le, iI_lt, iI_eq, jI_le, jI_lt, jI_eq, iI_in, iI_cl, iI_j, jI_i, cN, inN, wI_eq, wI_ne, wJ_1, wJ_eq, wJ_ne, wI_2, wJ_3, iI_div, iI_rem, jI_div, jI_rem, true_or, or_true, false_or, or_false, eq_self, Nat.add_zero]
      refine c11_allCrossings (f := fun i => crs (T i) (N i)) hly (by omega) (fun i hi => (hTN i hi).2.1.1.2.2.2.1) (vX12_count_0 hly hd2 ?_)
      simp (disch := omega) only [forall_eq, true_and, and_true, false_and, and_false, forall_const, true_implies, implies_true, not_true_eq_false, not_false_eq_true, false_implies, if_true, if_false, ↓reduceIte, Int.toNat_natCast, Int.reduceEq, Int.reduceNe, Int.reduceLT, Int.reduceLE, Int.reduceToNat, Int.reduceAdd, Int.reduceSub, Int.reduceMul, Int.reduceNeg, Nat.reduceAdd, Nat.reduceMul, Nat.reduceSub, iI_lit, jI_lit, iI_add, iI_sub, iI_mul, iI_neg, jI_add, jI_sub, jI_mul, jI_neg, nI_i, lN_j, iI_le, iI_lt, iI_eq, jI_le, jI_lt, jI_eq, iI_in, iI_cl, iI_j, jI_i, cN, inN, wI_eq, wI_ne, wJ_1, wJ_eq, wJ_ne, wI_2, wJ_3, iI_div, iI_rem, jI_div, jI_rem, true_or, or_true, false_or, or_false, eq_self, Nat.add_zero]
      exact c12_allCrossings hly (by omega) (fun i hi => ⟨(hTN i hi).1, (hTN i hi).2.2⟩) (fun m2 f2 => ⟨rfl, hI.sc frw.rf (f2.w.mono (fun a k h => mmP_sc h))⟩)
    · simp (disch := omega) only [forall_eq, true_and, and_true, false_and, and_false, forall_const, true_implies, implies_true, not_true_eq_false, not_false_eq_true, false_implies, if_true, if_false, ↓reduceIte, Int.toNat_natCast, Int.reduceEq, Int.reduceNe, Int.reduceLT, Int.reduceLE, Int.reduceToNat, Int.reduceAdd, Int.reduceSub, Int.reduceMul, Int.reduceNeg, Nat.reduceAdd, Nat.reduceMul, Nat.reduceSub, iI_lit, jI_lit, iI_add, iI_sub, iI_mul, iI_neg, jI_add, jI_sub, jI_mul, jI_neg, nI_i, lN_j, iI_le, iI_lt, iI_eq, jI_le, jI_lt, jI_eq, iI_in, iI_cl, iI_j, jI_i, cN, inN, wI_eq, wI_ne, wJ_1, wJ_eq, wJ_ne, wI_2, wJ_3, iI_div, iI_rem, jI_div, jI_rem, true_or, or_true, false_or, or_false, eq_self, Nat.add_zero]
      have h01 : ∀ i, (Tr (T i) (N i)).toNat ≤ 1 ∧ Tr (T i) (N i) = (((Tr (T i) (N i)).toNat : Nat) : Int) := fun i => by
        have := ev_01' (T i) (N i)
        omega
      refine vX11_allRational_0 (by omega) (c11_allRa_loop (f := fun i => (Tr (T i) (N i)).toNat) hly (by omega) (fun i hi => ⟨(h01 i).1, by rw [(hTN i hi).2.1.2.2.2.2.1]; exact congrArg iI (h01 i).2⟩) (vX12_count_0 hly hd2 ?_) 6 0 rfl)
      simp (disch := omega) only [forall_eq, true_and, and_true, false_and, and_false, forall_const, true_implies, implies_true, not_true_eq_false, not_false_eq_true, false_implies, if_true, if_false, ↓reduceIte, Int.toNat_natCast, Int.reduceEq, Int.reduceNe, Int.reduceLT, Int.reduceLE, Int.reduceToNat, Int.reduceAdd, Int.reduceSub, Int.reduceMul, Int.reduceNeg, Nat.reduceAdd, Nat.reduceMul, Nat.reduceSub, iI_lit, jI_lit, iI_add, iI_sub, iI_mul, iI_neg, jI_add, jI_sub, jI_mul, jI_neg, nI_i, lN_j, iI_le, iI_lt, iI_eq, jI_le, jI_lt, jI_eq, iI_in, iI_cl, iI_j, jI_i, cN, inN, wI_eq, wI_ne, wJ_1, wJ_eq, wJ_ne, wI_2, wJ_3, iI_div, iI_rem, jI_div, jI_rem, true_or, or_true, false_or, or_false, eq_self, Nat.add_zero]
      exact vX12_rationals_0 (by omega) (c12_ra_loop (T := T) (N := N) (f := fun i => (Tr (T i) (N i)).toNat) hly (by omega) m (fun i hi => ⟨(hTN i hi).1, (hTN i hi).2.2, h01 i⟩) (fun m2 f2 => ⟨rfl, hI.sc frw.rf (f2.w.mono (fun a k h => mmP_sc h))⟩) 6 0 m rfl fr.rf)
    · simp (disch := omega) only [forall_eq, true_and, and_true, false_and, and_false, forall_const, true_implies, implies_true, not_true_eq_false, not_false_eq_true, false_implies, if_true, if_false, ↓reduceIte, Int.toNat_natCast, Int.reduceEq, Int.reduceNe, Int.reduceLT, Int.reduceLE, Int.reduceToNat, Int.reduceAdd, Int.reduceSub, Int.reduceMul, Int.reduceNeg, Nat.reduceAdd, Nat.reduceMul, Nat.reduceSub, iI_lit, jI_lit, iI_add, iI_sub, iI_mul, iI_neg, jI_add, jI_sub, jI_mul, jI_neg, nI_i, lN_j, iI_le, iI_lt, iI_eq, jI_le, jI_lt, jI_eq, iI_in, iI_cl, iI_j, jI_i, cN, inN, wI_eq, wI_ne, wJ_1, wJ_eq, wJ_ne, wI_2, wJ_3, iI_div, iI_rem, jI_div, jI_rem, true_or, or_true, false_or, or_false, eq_self, Nat.add_zero, htp.2.1]
      refine vX12_count_0 hly hd2 ?_
      simp (disch := omega) only [forall_eq, true_and, and_true, false_and, and_false, forall_const, true_implies, implies_true, not_true_eq_false, not_false_eq_true, false_implies, if_true, if_false, ↓reduceIte, Int.toNat_natCast, Int.reduceEq, Int.reduceNe, Int.reduceLT, Int.reduceLE, Int.reduceToNat, Int.reduceAdd, Int.reduceSub, Int.reduceMul, Int.reduceNeg, Nat.reduceAdd, Nat.reduceMul, Nat.reduceSub, iI_lit, jI_lit, iI_add, iI_sub, iI_mul, iI_neg, jI_add, jI_sub, jI_mul, jI_neg, nI_i, lN_j, iI_le, iI_lt, iI_eq, jI_le, jI_lt, jI_eq, iI_in, iI_cl, iI_j, jI_i, cN, inN, wI_eq, wI_ne, wJ_1, wJ_eq, wJ_ne, wI_2, wJ_3, iI_div, iI_rem, jI_div, jI_rem, true_or, or_true, false_or, or_false, eq_self, Nat.add_zero, htp.2.2.1]
      exact hI
    · simp (disch := omega) only [forall_eq, true_and, and_true, false_and, and_false, forall_const, true_implies, implies_true, not_true_eq_false, not_false_eq_true, false_implies, if_true, if_false, ↓reduceIte, Int.toNat_natCast, Int.reduceEq, Int.reduceNe, Int.reduceLT, Int.reduceLE, Int.reduceToNat, Int.reduceAdd, Int.reduceSub, Int.reduceMul, Int.reduceNeg, Nat.reduceAdd, Nat.reduceMul, Nat.reduceSub, iI_lit, jI_lit, iI_add, iI_sub, iI_mul, iI_neg, jI_add, jI_sub, jI_mul, jI_neg, nI_i, lN_j, iI_le, iI_lt, iI_eq, jI_le, jI_lt, jI_eq, iI_in, iI_cl, iI_j, jI_i, cN, inN, wI_eq, wI_ne, wJ_1, wJ_eq, wJ_ne, wI_2, wJ_3, iI_div, iI_rem, jI_div, jI_rem, true_or, or_true, false_or, or_false, eq_self, Nat.add_zero, hbk.2.1]
      refine vX12_count_0 hly hd2 ?_
      simp (disch := omega) only [forall_eq, true_and, and_true, false_and, and_false, forall_const, true_implies, implies_true, not_true_eq_false, not_false_eq_true, false_implies, if_true, if_false, ↓reduceIte, Int.toNat_natCast, Int.reduceEq, Int.reduceNe, Int.reduceLT, Int.reduceLE, Int.reduceToNat, Int.reduceAdd, Int.reduceSub, Int.reduceMul, Int.reduceNeg, Nat.reduceAdd, Nat.reduceMul, Nat.reduceSub, iI_lit, jI_lit, iI_add, iI_sub, iI_mul, iI_neg, jI_add, jI_sub, jI_mul, jI_neg, nI_i, lN_j, iI_le, iI_lt, iI_eq, jI_le, jI_lt, jI_eq, iI_in, iI_cl, iI_j, jI_i, cN, inN, wI_eq, wI_ne, wJ_1, wJ_eq, wJ_ne, wI_2, wJ_3, iI_div, iI_rem, jI_div, jI_rem, true_or, or_true, false_or, or_false, eq_self, Nat.add_zero, hbk.2.2.1]
      exact hI
    · simp (disch := omega) only [forall_eq, true_and, and_true, false_and, and_false, forall_const, true_implies, implies_true, not_true_eq_false, not_false_eq_true, false_implies, if_true, if_false, ↓reduceIte, Int.toNat_natCast, Int.reduceEq, Int.reduceNe, Int.reduceLT, Int.reduceLE, Int.reduceToNat, Int.reduceAdd, Int.reduceSub, Int.reduceMul, Int.reduceNeg, Nat.reduceAdd, Nat.reduceMul, Nat.reduceSub, iI_lit, jI_lit, iI_add, iI_sub, iI_mul, iI_neg, jI_add, jI_sub, jI_mul, jI_neg, nI_i, lN_j, iI_le, iI_lt, iI_eq, jI_le, jI_lt, jI_eq, iI_in, iI_cl, iI_j, jI_i, cN, inN, wI_eq, wI_ne, wJ_1, wJ_eq, wJ_ne, wI_2, wJ_3, iI_div, iI_rem, jI_div, jI_rem, true_or, or_true, false_or, or_false, eq_self, Nat.add_zero, hbk.2.2.2.2.2]
      refine vX12_count_0 hly hd2 ?_
      simp (disch := omega) only [forall_eq, true_and, and_true, false_and, and_false, forall_const, true_implies, implies_true, not_true_eq_false, not_false_eq_true, false_implies, if_true, if_false, ↓reduceIte, Int.toNat_natCast, Int.reduceEq, Int.reduceNe, Int.reduceLT, Int.reduceLE, Int.reduceToNat, Int.reduceAdd, Int.reduceSub, Int.reduceMul, Int.reduceNeg, Nat.reduceAdd, Nat.reduceMul, Nat.reduceSub, iI_lit, jI_lit, iI_add, iI_sub, iI_mul, iI_neg, jI_add, jI_sub, jI_mul, jI_neg, nI_i, lN_j, iI_le, iI_lt, iI_eq, jI_le, jI_lt, jI_eq, iI_in, iI_cl, iI_j, jI_i, cN, inN, wI_eq, wI_ne, wJ_1, wJ_eq, wJ_ne, wI_2, wJ_3, iI_div, iI_rem, jI_div, jI_rem, true_or, or_true, false_or, or_false, eq_self, Nat.add_zero]
      exact c12_count_loop hly hd2 hbk ⟨rfl, hI⟩ bn 0 (by omega)
    · simp (disch := omega) only [forall_eq, true_and, and_true, false_and, and_false, forall_const, true_implies, implies_true, not_true_eq_false, not_false_eq_true, false_implies, if_true, if_false, ↓reduceIte, Int.toNat_natCast, Int.reduceEq, Int.reduceNe, Int.reduceLT, Int.reduceLE, Int.reduceToNat, Int.reduceAdd, Int.reduceSub, Int.reduceMul, Int.reduceNeg, Nat.reduceAdd, Nat.reduceMul, Nat.reduceSub, iI_lit, jI_lit, iI_add, iI_sub, iI_mul, iI_neg, jI_add, jI_sub, jI_mul, jI_neg, nI_i, lN_j, iI_le, iI_lt, iI_eq, jI_le, jI_lt, jI_eq, iI_in, iI_cl, iI_j, jI_i, cN, inN, wI_eq, wI_ne, wJ_1, wJ_eq, wJ_ne, wI_2, wJ_3, iI_div, iI_rem, jI_div, jI_rem, true_or, or_true, false_or, or_false, eq_self, Nat.add_zero]
      refine vX12_count_0 hly hd2 ?_
      simp (disch := omega) only [forall_eq, true_and, and_true, false_and, and_false, forall_const, true_implies, implies_true, not_true_eq_false, not_false_eq_true, false_implies, if_true, if_false, ↓reduceIte, Int.toNat_natCast, Int.reduceEq, Int.reduceNe, Int.reduceLT, Int.reduceLE, Int.reduceToNat, Int.reduceAdd, Int.reduceSub, Int.reduceMul, Int.reduceNeg, Nat.reduceAdd, Nat.reduceMul, Nat.reduceSub, iI_lit, jI_lit, iI_add, iI_sub, iI_mul, iI_neg, jI_add, jI_sub, jI_mul, jI_neg, nI_i, lN_j, iI_le, iI_lt, iI_eq, jI_le, jI_lt, jI_eq, iI_in, iI_cl, iI_j, jI_i, cN, inN, wI_eq, wI_ne, wJ_1, wJ_eq, wJ_ne, wI_2, wJ_3, iI_div, iI_rem, jI_div, jI_rem, true_or, or_true, false_or, or_false, eq_self, Nat.add_zero]
      exact ⟨hI.2.1.2.2.1.1, hI⟩
  · simp (disch := omega) only [forall_eq, true_and, and_true, false_and, and_false, forall_const, true_implies, implies_true, not_true_eq_false, not_false_eq_true, false_implies, if_true, if_false, ↓reduceIte, Int.toNat_natCast, Int.reduceEq, Int.reduceNe, Int.reduceLT, Int.reduceLE, Int.reduceToNat, Int.reduceAdd, Int.reduceSub, Int.reduceMul, Int.reduceNeg, Nat.reduceAdd, Nat.reduceMul, Nat.reduceSub, iI_lit, jI_lit, iI_add, iI_sub, iI_mul, iI_neg, jI_add, jI_sub, jI_mul, jI_neg, nI_i, lN_j, iI_le, iI_lt, iI_eq, jI_le, jI_lt, jI_eq, iI_in, iI_cl, iI_j, jI_i, cN, inN, wI_eq, wI_ne, wJ_1, wJ_eq, wJ_ne, wI_2, wJ_3, iI_div, iI_rem, jI_div, jI_rem, true_or, or_true, false_or, or_false, eq_self, Nat.add_zero]
    refine ⟨fun q => by omega, fun q => by omega, fun q => by omega, fun q => by omega, fun q => by omega, fun q => by omega, fun q => c_error (e := 1) hly (by decide) (by omega) (vX12_count_0 hly hd2 ?_)⟩
    simp (disch := omega) only [forall_eq, true_and, and_true, false_and, and_false, forall_const, true_implies, implies_true, not_true_eq_false, not_false_eq_true, false_implies, if_true, if_false, ↓reduceIte, Int.toNat_natCast, Int.reduceEq, Int.reduceNe, Int.reduceLT, Int.reduceLE, Int.reduceToNat, Int.reduceAdd, Int.reduceSub, Int.reduceMul, Int.reduceNeg, Nat.reduceAdd, Nat.reduceMul, Nat.reduceSub, iI_lit, jI_lit, iI_add, iI_sub, iI_mul, iI_neg, jI_add, jI_sub, jI_mul, jI_neg, nI_i, lN_j, iI_le, iI_lt, iI_eq, jI_le, jI_lt, jI_eq, iI_in, iI_cl, iI_j, jI_i, cN, inN, wI_eq, wI_ne, wJ_1, wJ_eq, wJ_ne, wI_2, wJ_3, iI_div, iI_rem, jI_div, jI_rem, true_or, or_true, false_or, or_false, eq_self, Nat.add_zero]
    exact ⟨fun q => by omega, fun q => by omega, fun q => by omega, fun q => by omega, fun q => by omega, fun q => by omega, fun q => c12_finds (e := 1) hly (by decide) (by omega) ⟨rfl, hI.er frw.rf frw.rf⟩⟩
/-! image -/
theorem c11_image_loop {Q : Int32 → sm_M → Prop} {vs : List Value} {T : Nat → Nat → Int} {N : Nat → Nat} (hly : ∀ S, L S → ly S) (hd : 2 ≤ d1) (m0 : sm_M) (hf : ∀ i, i < 6 → vT (T i) (N i) ∧ tgm m0 (77 + 4 * i) (T i) (N i)) (h : ∀ m', fr (fun a k => (79 ≤ a ∧ a ≤ 100 ∧ (a % 4 = 3 ∨ a % 4 = 0)) ∨ (a = 0 ∧ (k = 14 ∨ k = 15))) m0 m' → (∀ i, i < 6 → tgm m' (79 + 4 * i) (T i) (N i)) → m'.1 0 14 = m0.1 0 13 → m'.1 0 15 = m0.1 0 15 + 1 → Q (m0.1 0 15 + 1) m') : ∀ (r i : Nat) (m : sm_M), i + r = 6 → fr (fun a _ => 79 ≤ a ∧ a ≤ 100 ∧ (a % 4 = 3 ∨ a % 4 = 0)) m0 m → (∀ j, j < i → tgm m (79 + 4 * j) (T j) (N j)) → gX11_image_2 E L d1 vs (iI (i : Nat)) m Q := by
  intro r
  induction r with
  | zero =>
    intro i m hi hm hg
    have : i = 6 := by omega
    subst this
    refine vX11_image_2 hly hd ⟨fun _ => ?_, fun q => absurd (by decide) q⟩
    simp only [forall_eq]
    rw [wI_eq rfl rfl, wI_ne (show (0 : Nat) ≠ 0 ∨ 15 ≠ 14 by omega), hm.i (by omega), hm.i (by omega)]
    have f2 : fr (fun a k => (79 ≤ a ∧ a ≤ 100 ∧ (a % 4 = 3 ∨ a % 4 = 0)) ∨ (a = 0 ∧ (k = 14 ∨ k = 15))) m (sm_wI (sm_wI m 0 14 (m0.1 0 13)) 0 15 (m0.1 0 15 + 1)) := (fr.rf.wI (Or.inr ⟨rfl, Or.inl rfl⟩)).wI (Or.inr ⟨rfl, Or.inr rfl⟩)
    refine h _ ((hm.mono (fun a k h => Or.inl h)).tr f2) (fun i hi => (hg i hi).fr ((fr.rf.wI (P := fun a k => a = 0) rfl).wI (P := fun a k => a = 0) rfl) (fun k _ _ => by omega) (fun k => by omega)) ?_ ?_
    · rw [wI_ne (by omega), wI_eq rfl rfl]
    · rw [wI_eq rfl rfl]
  | succ r ih =>
    intro i m hi hm hg
    have hi6 : i < 6 := by omega
    obtain ⟨h1, h2⟩ := hf i hi6
    have e5 : ((i : Nat) : Int) + 1 = ((i + 1 : Nat) : Int) := by omega
    have hn := h1.2.2.2.2
    refine vX11_image_2 hly hd ?_
    simp (disch := omega) only [forall_eq, true_and, and_true, false_and, and_false, forall_const, true_implies, implies_true, not_true_eq_false, not_false_eq_true, false_implies, if_true, if_false, ↓reduceIte, Int.toNat_natCast, Int.reduceEq, Int.reduceNe, Int.reduceLT, Int.reduceLE, Int.reduceToNat, Int.reduceAdd, Int.reduceSub, Int.reduceMul, Int.reduceNeg, Nat.reduceAdd, Nat.reduceMul, Nat.reduceSub, iI_lit, jI_lit, iI_add, iI_sub, iI_mul, iI_neg, jI_add, jI_sub, jI_mul, jI_neg, nI_i, lN_j, iI_le, iI_lt, iI_eq, jI_le, jI_lt, jI_eq, iI_in, iI_cl, iI_j, jI_i, cN, inN, wI_eq, wI_ne, wJ_1, wJ_eq, wJ_ne, wI_2, wJ_3, iI_div, iI_rem, jI_div, jI_rem, true_or, or_true, false_or, or_false, eq_self, Nat.add_zero]
    refine ⟨fun q => by omega, fun _ => ⟨by omega, by omega, ?_⟩⟩
    refine c_copy (t := T i) (n := N i) (ly_keptT hly hi6) (ly_slotT hly hi6) (by omega) hn hn (by omega) (by omega) (by omega) (by omega) (h2.fr hm (fun k _ _ => by omega) (fun k => by omega)) (fun m2 f2 g2 => ?_)
    simp (disch := omega) only [forall_eq, true_and, and_true, false_and, and_false, forall_const, true_implies, implies_true, not_true_eq_false, not_false_eq_true, false_implies, if_true, if_false, ↓reduceIte, Int.toNat_natCast, Int.reduceEq, Int.reduceNe, Int.reduceLT, Int.reduceLE, Int.reduceToNat, Int.reduceAdd, Int.reduceSub, Int.reduceMul, Int.reduceNeg, Nat.reduceAdd, Nat.reduceMul, Nat.reduceSub, iI_lit, jI_lit, iI_add, iI_sub, iI_mul, iI_neg, jI_add, jI_sub, jI_mul, jI_neg, nI_i, lN_j, iI_le, iI_lt, iI_eq, jI_le, jI_lt, jI_eq, iI_in, iI_cl, iI_j, jI_i, cN, inN, wI_eq, wI_ne, wJ_1, wJ_eq, wJ_ne, wI_2, wJ_3, iI_div, iI_rem, jI_div, jI_rem, true_or, or_true, false_or, or_false, eq_self, Nat.add_zero, e5]
    refine ih (i + 1) m2 (by omega) (hm.tr (f2.mono (fun a k h => by unfold tmP at h; omega))) (fun j hj => ?_)
    by_cases hji : j = i
    · subst hji
      exact g2
    · exact (hg j (by omega)).fr f2 (fun k _ _ => by unfold tmP; omega) (fun k => by unfold tmP; omega)
theorem c12_image_loop2 {Q : Int32 → sm_M → Prop} {vs : List Value} (hly : ∀ S, L S → ly S) (hd : 1 ≤ d2) (m0 : sm_M) (h : ∀ m', fr (fun a k => a = 113 ∨ a = 114 ∨ (a = 109 ∧ (k = 8 ∨ k = 9))) m0 m' → (∀ k, k < 360 → m'.1 113 k = m0.1 111 k) → (∀ i, i < 6 → m'.1 114 i = m0.1 112 i) → m'.1 109 8 = m0.1 109 7 → m'.1 109 9 = m0.1 109 9 + 1 → Q (m0.1 109 9 + 1) m') : ∀ (r i : Nat) (m : sm_M), i + r = 6 → fr (fun a _ => a = 113 ∨ a = 114) m0 m → (∀ k, k < 360 → m.1 113 k = m0.1 111 k) → (∀ j, j < i → m.1 114 j = m0.1 112 j) → gX12_image_29 E L d2 vs (iI (i : Nat)) m Q := by
  intro r
  induction r with
  | zero =>
    intro i m hi hm hg hk
    have : i = 6 := by omega
    subst this
    refine vX12_image_29 hly hd ⟨fun _ => ?_, fun q => absurd (by decide) q⟩
    simp only [forall_eq]
    rw [wI_eq rfl rfl, wI_ne (show (109 : Nat) ≠ 109 ∨ 9 ≠ 8 by omega), hm.i (by omega), hm.i (by omega)]
    have f2 : fr (fun a k => a = 113 ∨ a = 114 ∨ (a = 109 ∧ (k = 8 ∨ k = 9))) m (sm_wI (sm_wI m 109 8 (m0.1 109 7)) 109 9 (m0.1 109 9 + 1)) := (fr.rf.wI (Or.inr (Or.inr ⟨rfl, Or.inl rfl⟩))).wI (Or.inr (Or.inr ⟨rfl, Or.inr rfl⟩))
    refine h _ ((hm.mono (fun a k h => by omega)).tr f2) (fun k hk => ?_) (fun i hi => ?_) ?_ ?_
    · rw [wI_ne (by omega), wI_ne (by omega)]
      exact hg k hk
    · rw [wI_ne (by omega), wI_ne (by omega)]
      exact hk i hi
    · rw [wI_ne (by omega), wI_eq rfl rfl]
    · rw [wI_eq rfl rfl]
  | succ r ih =>
    intro i m hi hm hg hk
    have e5 : ((i : Nat) : Int) + 1 = ((i + 1 : Nat) : Int) := by omega
    refine vX12_image_29 hly hd ?_
    simp (disch := omega) only [forall_eq, true_and, and_true, false_and, and_false, forall_const, true_implies, implies_true, not_true_eq_false, not_false_eq_true, false_implies, if_true, if_false, ↓reduceIte, Int.toNat_natCast, Int.reduceEq, Int.reduceNe, Int.reduceLT, Int.reduceLE, Int.reduceToNat, Int.reduceAdd, Int.reduceSub, Int.reduceMul, Int.reduceNeg, Nat.reduceAdd, Nat.reduceMul, Nat.reduceSub, iI_lit, jI_lit, iI_add, iI_sub, iI_mul, iI_neg, jI_add, jI_sub, jI_mul, jI_neg, nI_i, lN_j, iI_le, iI_lt, iI_eq, jI_le, jI_lt, jI_eq, iI_in, iI_cl, iI_j, jI_i, cN, inN, wI_eq, wI_ne, wJ_1, wJ_eq, wJ_ne, wI_2, wJ_3, iI_div, iI_rem, jI_div, jI_rem, true_or, or_true, false_or, or_false, eq_self, Nat.add_zero, e5]
    refine ⟨fun q => by omega, fun _ => ⟨by omega, by omega, ih (i + 1) _ (by omega) (hm.wI (Or.inr rfl)) (fun k hk2 => ?_) (fun j hj => ?_)⟩⟩
    · rw [wI_ne (by omega)]
      exact hg k hk2
    · by_cases hji : j = i
      · subst hji
        rw [wI_eq rfl rfl, hm.i (by omega)]
      · rw [wI_ne (by omega)]
        exact hk j (by omega)
theorem c12_image_loop1 {Q : Int32 → sm_M → Prop} {vs : List Value} (hly : ∀ S, L S → ly S) (hd : 1 ≤ d2) (m0 : sm_M) (h : ∀ m', fr (fun a k => a = 113 ∨ a = 114 ∨ (a = 109 ∧ (k = 8 ∨ k = 9))) m0 m' → (∀ k, k < 360 → m'.1 113 k = m0.1 111 k) → (∀ i, i < 6 → m'.1 114 i = m0.1 112 i) → m'.1 109 8 = m0.1 109 7 → m'.1 109 9 = m0.1 109 9 + 1 → Q (m0.1 109 9 + 1) m') : ∀ (r i : Nat) (m : sm_M), i + r = 360 → fr (fun a _ => a = 113 ∨ a = 114) m0 m → (∀ k, k < i → m.1 113 k = m0.1 111 k) → gX12_image_2 E L d2 vs (iI (i : Nat)) m Q := by
  intro r
  induction r with
  | zero =>
    intro i m hi hm hg
    have : i = 360 := by omega
    subst this
    refine vX12_image_2 hly hd ⟨fun _ => c12_image_loop2 hly hd m0 h 6 0 m rfl hm hg (fun j hj => absurd hj (Nat.not_lt_zero _)), fun q => absurd (by decide) q⟩
  | succ r ih =>
    intro i m hi hm hg
    have e5 : ((i : Nat) : Int) + 1 = ((i + 1 : Nat) : Int) := by omega
    refine vX12_image_2 hly hd ?_
    simp (disch := omega) only [forall_eq, true_and, and_true, false_and, and_false, forall_const, true_implies, implies_true, not_true_eq_false, not_false_eq_true, false_implies, if_true, if_false, ↓reduceIte, Int.toNat_natCast, Int.reduceEq, Int.reduceNe, Int.reduceLT, Int.reduceLE, Int.reduceToNat, Int.reduceAdd, Int.reduceSub, Int.reduceMul, Int.reduceNeg, Nat.reduceAdd, Nat.reduceMul, Nat.reduceSub, iI_lit, jI_lit, iI_add, iI_sub, iI_mul, iI_neg, jI_add, jI_sub, jI_mul, jI_neg, nI_i, lN_j, iI_le, iI_lt, iI_eq, jI_le, jI_lt, jI_eq, iI_in, iI_cl, iI_j, jI_i, cN, inN, wI_eq, wI_ne, wJ_1, wJ_eq, wJ_ne, wI_2, wJ_3, iI_div, iI_rem, jI_div, jI_rem, true_or, or_true, false_or, or_false, eq_self, Nat.add_zero, e5]
    refine ⟨fun q => by omega, fun _ => ⟨by omega, by omega, ih (i + 1) _ (by omega) (hm.wI (Or.inl rfl)) (fun k hk2 => ?_)⟩⟩
    by_cases hji : k = i
    · subst hji
      rw [wI_eq rfl rfl, hm.i (by omega)]
    · rw [wI_ne (by omega)]
      exact hg k (by omega)
theorem k_image (hly : ∀ S, L S → ly S) (hd1 : 2 ≤ d1) (hd2 : 1 ≤ d2) (hI : Inv c m) : sm_callI E L mX11_image d1 0 0 [.ref (sm_B E + 0)] m (fun r m1 => sm_callI E L mX12_image d2 0 0 [.ref (sm_B E + 109)] m1 (fun r2 m2 => r = r2 ∧ Inv c m2)) := by
  obtain ⟨T, N, hTN⟩ := hI.2.1.1.fn
  refine vX11_image_0 hd1 (c11_image_loop hly hd1 m (fun i hi => ⟨(hTN i hi).1, (hTN i hi).2.1⟩) (fun m1 f1 g1 z1 n1 => ?_) 6 0 m rfl fr.rf (fun j hj => absurd hj (Nat.not_lt_zero _)))
  refine vX12_image_0 hd2 (c12_image_loop1 hly hd2 m1 (fun m2 f2 u1 u2 z2 n2 => ?_) 360 0 m1 rfl fr.rf (fun j hj => absurd hj (Nat.not_lt_zero _)))
  have n3 : m1.1 109 9 = m.1 0 15 := by
    rw [f1.i (by omega)]
    exact hI.2.1.2.2.1.2.symm
  have z3 : m1.1 109 7 = m.1 0 13 := by
    rw [f1.i (by omega)]
    exact hI.2.1.2.2.1.1.symm
  refine ⟨by rw [n3], ?_⟩
  have f : frw (fun a k => (79 ≤ a ∧ a ≤ 100 ∧ (a % 4 = 3 ∨ a % 4 = 0)) ∨ (a = 0 ∧ (k = 14 ∨ k = 15)) ∨ a = 113 ∨ a = 114 ∨ (a = 109 ∧ (k = 8 ∨ k = 9))) m m2 := (f1.w.mono (fun a k h => h.elim Or.inl (fun h => Or.inr (Or.inl h)))).tr (f2.w.mono (fun a k h => Or.inr (Or.inr h)))
  obtain ⟨h0, ⟨a1, a2, a3, a4, a5, a6, a7⟩, h9⟩ := hI
  refine ⟨h0, ⟨fun i hi => ⟨T i, N i, (hTN i hi).1, (hTN i hi).2.1.frw f ?_ ?_, (hTN i hi).2.2.frw f ?_ ?_⟩, fun _ => ⟨?_, fun i hi => ⟨T i, N i, (hTN i hi).1, (g1 i hi).fr f2 ?_ ?_, ?_, fun k hk => ?_⟩⟩, ⟨?_, ?_⟩, a4.frw f ?_, a5.frw f ?_, a6.frw f ?_, a7.frw f ?_⟩, fun k hk => ?_⟩
  · intro k; omega
  · intro k; omega
  · omega
  · intro k hk; omega
  · rw [f2.i (by omega), z1, z2, z3]
  · intro k h1 h2; omega
  · intro k; omega
  · rw [u2 i hi, f1.i (by omega)]
    exact (hTN i hi).2.2.1
  · have := (hTN i hi).1.2.2.2.2
    rw [u1 _ (by omega), f1.i (by omega)]
    exact (hTN i hi).2.2.2 k hk
  · rw [f.i (by omega), f.i (by omega)]
    exact a3.1
  · rw [f2.i (by omega), n1, n2, n3]
  · exact ⟨by omega, by omega, fun k => by omega⟩
  · exact ⟨by omega, by omega, by omega, fun k => by omega⟩
  · exact fun s hs => ⟨by omega, by omega, by omega, by omega, fun k => by omega⟩
  · intro a k h1; omega
  · rw [f.i (by omega), f.i (by omega)]
    exact h9 k hk
/-! restore -/
theorem c11_restore_loop {Q : Int32 → sm_M → Prop} {vs : List Value} {T : Nat → Nat → Int} {N : Nat → Nat} (hly : ∀ S, L S → ly S) (hd : 2 ≤ d1) (m0 : sm_M) (hf : ∀ i, i < 6 → vT (T i) (N i) ∧ tgm m0 (79 + 4 * i) (T i) (N i)) (h : ∀ m', fr (fun a k => (77 ≤ a ∧ a ≤ 100 ∧ (a % 4 = 1 ∨ a % 4 = 2)) ∨ (a = 0 ∧ k = 13)) m0 m' → (∀ i, i < 6 → tgm m' (77 + 4 * i) (T i) (N i)) → m'.1 0 13 = m0.1 0 14 → Q (iI (sumN (fun i => crs (T i) (N i)) 6 : Nat)) m') : ∀ (r i : Nat) (m : sm_M), i + r = 6 → fr (fun a _ => 77 ≤ a ∧ a ≤ 100 ∧ (a % 4 = 1 ∨ a % 4 = 2)) m0 m → (∀ j, j < i → tgm m (77 + 4 * j) (T j) (N j)) → gX11_restore_15 E L d1 vs (iI (i : Nat)) m Q := by
  intro r
  induction r with
  | zero =>
    intro i m hi hm hg
    have : i = 6 := by omega
    subst this
    refine vX11_restore_15 hly hd ⟨fun _ => ?_, fun q => absurd (by decide) q⟩
    simp only [forall_eq]
    rw [hm.i (by omega)]
    have g2 : ∀ i, i < 6 → tgm (sm_wI m 0 13 (m0.1 0 14)) (77 + 4 * i) (T i) (N i) := fun i hi => (hg i hi).fr (fr.rf.wI (P := fun a k => a = 0) rfl) (fun k _ _ => by omega) (fun k => by omega)
    refine c11_allCrossings hly (by omega) (fun i hi => (g2 i hi).1.2.2.2.1) (h _ ((hm.mono (fun a k h => Or.inl h)).tr (fr.rf.wI (Or.inr ⟨rfl, rfl⟩))) g2 (wI_eq rfl rfl))
  | succ r ih =>
    intro i m hi hm hg
    have hi6 : i < 6 := by omega
    obtain ⟨h1, h2⟩ := hf i hi6
    have e5 : ((i : Nat) : Int) + 1 = ((i + 1 : Nat) : Int) := by omega
    have hn := h1.2.2.2.2
    refine vX11_restore_15 hly hd ?_
    simp (disch := omega) only [forall_eq, true_and, and_true, false_and, and_false, forall_const, true_implies, implies_true, not_true_eq_false, not_false_eq_true, false_implies, if_true, if_false, ↓reduceIte, Int.toNat_natCast, Int.reduceEq, Int.reduceNe, Int.reduceLT, Int.reduceLE, Int.reduceToNat, Int.reduceAdd, Int.reduceSub, Int.reduceMul, Int.reduceNeg, Nat.reduceAdd, Nat.reduceMul, Nat.reduceSub, iI_lit, jI_lit, iI_add, iI_sub, iI_mul, iI_neg, jI_add, jI_sub, jI_mul, jI_neg, nI_i, lN_j, iI_le, iI_lt, iI_eq, jI_le, jI_lt, jI_eq, iI_in, iI_cl, iI_j, jI_i, cN, inN, wI_eq, wI_ne, wJ_1, wJ_eq, wJ_ne, wI_2, wJ_3, iI_div, iI_rem, jI_div, jI_rem, true_or, or_true, false_or, or_false, eq_self, Nat.add_zero]
    refine ⟨fun q => by omega, fun _ => ⟨by omega, by omega, ?_⟩⟩
    refine c_copy (t := T i) (n := N i) (ly_slotT hly hi6) (ly_keptT hly hi6) (by omega) hn hn (by omega) (by omega) (by omega) (by omega) (h2.fr hm (fun k _ _ => by omega) (fun k => by omega)) (fun m2 f2 g2 => ?_)
    simp (disch := omega) only [forall_eq, true_and, and_true, false_and, and_false, forall_const, true_implies, implies_true, not_true_eq_false, not_false_eq_true, false_implies, if_true, if_false, ↓reduceIte, Int.toNat_natCast, Int.reduceEq, Int.reduceNe, Int.reduceLT, Int.reduceLE, Int.reduceToNat, Int.reduceAdd, Int.reduceSub, Int.reduceMul, Int.reduceNeg, Nat.reduceAdd, Nat.reduceMul, Nat.reduceSub, iI_lit, jI_lit, iI_add, iI_sub, iI_mul, iI_neg, jI_add, jI_sub, jI_mul, jI_neg, nI_i, lN_j, iI_le, iI_lt, iI_eq, jI_le, jI_lt, jI_eq, iI_in, iI_cl, iI_j, jI_i, cN, inN, wI_eq, wI_ne, wJ_1, wJ_eq, wJ_ne, wI_2, wJ_3, iI_div, iI_rem, jI_div, jI_rem, true_or, or_true, false_or, or_false, eq_self, Nat.add_zero, e5]
    refine ih (i + 1) m2 (by omega) (hm.tr (f2.mono (fun a k h => by unfold tmP at h; omega))) (fun j hj => ?_)
    by_cases hji : j = i
    · subst hji
      exact g2
    · exact (hg j (by omega)).fr f2 (fun k _ _ => by unfold tmP; omega) (fun k => by unfold tmP; omega)
theorem c12_restore_loop2 {Q : Int32 → sm_M → Prop} {vs : List Value} {T : Nat → Nat → Int} {N : Nat → Nat} (hly : ∀ S, L S → ly S) (hd : 5 ≤ d2) (m0 : sm_M) (hf : ∀ i, i < 6 → vT (T i) (N i) ∧ kl m0 i (T i) (N i)) (h : ∀ m', fr (fun a k => a = 111 ∨ a = 112 ∨ (a = 109 ∧ k = 7) ∨ mmP a k) m0 m' → (∀ i, i < 6 → hl m' i (T i) (N i)) → m'.1 109 7 = m0.1 109 8 → Q (iI (sumN (fun i => crs (T i) (N i)) 6 : Nat)) m') : ∀ (r i : Nat) (m : sm_M), i + r = 6 → fr (fun a _ => a = 111 ∨ a = 112) m0 m → (∀ k, k < 360 → m.1 111 k = m0.1 113 k) → (∀ j, j < i → m.1 112 j = m0.1 114 j) → gX12_restore_42 E L d2 vs (iI (i : Nat)) m Q := by
  intro r
  induction r with
  | zero =>
    intro i m hi hm hg hk
    have : i = 6 := by omega
    subst this
    refine vX12_restore_42 hly hd ⟨fun _ => ?_, fun q => absurd (by decide) q⟩
    simp only [forall_eq]
    rw [hm.i (by omega)]
    have h2 : ∀ i, i < 6 → hl (sm_wI m 109 7 (m0.1 109 8)) i (T i) (N i) := fun i hi => by
      have hn := (hf i hi).1.2.2.2.2
      refine ⟨?_, fun k hk2 => ?_⟩
      · rw [wI_ne (by omega), hk i hi]
        exact (hf i hi).2.1
      · rw [wI_ne (by omega), hg _ (by omega)]
        exact (hf i hi).2.2 k hk2
    refine c12_allCrossings hly (by omega) (fun i hi => ⟨(hf i hi).1, h2 i hi⟩) (fun m2 f2 => h m2 (((hm.mono (fun a k h => by omega)).tr (fr.rf.wI (Or.inr (Or.inr (Or.inl ⟨rfl, rfl⟩))))).tr (f2.mono (fun a k h => Or.inr (Or.inr (Or.inr h))))) (fun i hi => (h2 i hi).fr f2 (by unfold mmP; omega) (fun k => by unfold mmP; omega)) ?_)
    rw [f2.i (by unfold mmP; omega), wI_eq rfl rfl]
  | succ r ih =>
    intro i m hi hm hg hk
    have e5 : ((i : Nat) : Int) + 1 = ((i + 1 : Nat) : Int) := by omega
    refine vX12_restore_42 hly hd ?_
    simp (disch := omega) only [forall_eq, true_and, and_true, false_and, and_false, forall_const, true_implies, implies_true, not_true_eq_false, not_false_eq_true, false_implies, if_true, if_false, ↓reduceIte, Int.toNat_natCast, Int.reduceEq, Int.reduceNe, Int.reduceLT, Int.reduceLE, Int.reduceToNat, Int.reduceAdd, Int.reduceSub, Int.reduceMul, Int.reduceNeg, Nat.reduceAdd, Nat.reduceMul, Nat.reduceSub, iI_lit, jI_lit, iI_add, iI_sub, iI_mul, iI_neg, jI_add, jI_sub, jI_mul, jI_neg, nI_i, lN_j, iI_le, iI_lt, iI_eq, jI_le, jI_lt, jI_eq, iI_in, iI_cl, iI_j, jI_i, cN, inN, wI_eq, wI_ne, wJ_1, wJ_eq, wJ_ne, wI_2, wJ_3, iI_div, iI_rem, jI_div, jI_rem, true_or, or_true, false_or, or_false, eq_self, Nat.add_zero, e5]
    refine ⟨fun q => by omega, fun _ => ⟨by omega, by omega, ih (i + 1) _ (by omega) (hm.wI (Or.inr rfl)) (fun k hk2 => ?_) (fun j hj => ?_)⟩⟩
    · rw [wI_ne (by omega)]
      exact hg k hk2
    · by_cases hji : j = i
      · subst hji
        rw [wI_eq rfl rfl, hm.i (by omega)]
      · rw [wI_ne (by omega)]
        exact hk j (by omega)
theorem c12_restore_loop1 {Q : Int32 → sm_M → Prop} {vs : List Value} {T : Nat → Nat → Int} {N : Nat → Nat} (hly : ∀ S, L S → ly S) (hd : 5 ≤ d2) (m0 : sm_M) (hf : ∀ i, i < 6 → vT (T i) (N i) ∧ kl m0 i (T i) (N i)) (h : ∀ m', fr (fun a k => a = 111 ∨ a = 112 ∨ (a = 109 ∧ k = 7) ∨ mmP a k) m0 m' → (∀ i, i < 6 → hl m' i (T i) (N i)) → m'.1 109 7 = m0.1 109 8 → Q (iI (sumN (fun i => crs (T i) (N i)) 6 : Nat)) m') : ∀ (r i : Nat) (m : sm_M), i + r = 360 → fr (fun a _ => a = 111 ∨ a = 112) m0 m → (∀ k, k < i → m.1 111 k = m0.1 113 k) → gX12_restore_15 E L d2 vs (iI (i : Nat)) m Q := by
  intro r
  induction r with
  | zero =>
    intro i m hi hm hg
    have : i = 360 := by omega
    subst this
    refine vX12_restore_15 hly hd ⟨fun _ => c12_restore_loop2 hly hd m0 hf h 6 0 m rfl hm hg (fun j hj => absurd hj (Nat.not_lt_zero _)), fun q => absurd (by decide) q⟩
  | succ r ih =>
    intro i m hi hm hg
    have e5 : ((i : Nat) : Int) + 1 = ((i + 1 : Nat) : Int) := by omega
    refine vX12_restore_15 hly hd ?_
    simp (disch := omega) only [forall_eq, true_and, and_true, false_and, and_false, forall_const, true_implies, implies_true, not_true_eq_false, not_false_eq_true, false_implies, if_true, if_false, ↓reduceIte, Int.toNat_natCast, Int.reduceEq, Int.reduceNe, Int.reduceLT, Int.reduceLE, Int.reduceToNat, Int.reduceAdd, Int.reduceSub, Int.reduceMul, Int.reduceNeg, Nat.reduceAdd, Nat.reduceMul, Nat.reduceSub, iI_lit, jI_lit, iI_add, iI_sub, iI_mul, iI_neg, jI_add, jI_sub, jI_mul, jI_neg, nI_i, lN_j, iI_le, iI_lt, iI_eq, jI_le, jI_lt, jI_eq, iI_in, iI_cl, iI_j, jI_i, cN, inN, wI_eq, wI_ne, wJ_1, wJ_eq, wJ_ne, wI_2, wJ_3, iI_div, iI_rem, jI_div, jI_rem, true_or, or_true, false_or, or_false, eq_self, Nat.add_zero, e5]
    refine ⟨fun q => by omega, fun _ => ⟨by omega, by omega, ih (i + 1) _ (by omega) (hm.wI (Or.inl rfl)) (fun k hk2 => ?_)⟩⟩
    by_cases hji : k = i
    · subst hji
      rw [wI_eq rfl rfl, hm.i (by omega)]
    · rw [wI_ne (by omega)]
      exact hg k (by omega)
theorem k_restore (hly : ∀ S, L S → ly S) (hd1 : 2 ≤ d1) (hd2 : 5 ≤ d2) (hI : Inv c m) : sm_callI E L mX11_restore d1 0 0 [.ref (sm_B E + 0)] m (fun r m1 => sm_callI E L mX12_restore d2 0 0 [.ref (sm_B E + 109)] m1 (fun r2 m2 => r = r2 ∧ Inv c m2)) := by
  have hn := hI.2.1.2.2.1.2
  refine vX11_restore_0 hly hd1 ⟨fun h0 => ?_, fun h0 => c_error (e := 2) hly (by decide) (by omega) (vX12_restore_0 hly hd2 ⟨fun h1 => ?_, fun h1 => c12_finds (e := 2) hly (by decide) (by omega) ⟨rfl, hI.er frw.rf frw.rf⟩⟩)⟩
  rotate_left
  · rw [wI_ne (by omega), ← hn] at h1
    exact absurd h0 h1
  obtain ⟨kz, hk⟩ := hI.2.1.2.1 h0
  obtain ⟨T, N, hTN⟩ : ∃ (T : Nat → Nat → Int) (N : Nat → Nat), ∀ i, i < 6 → vT (T i) (N i) ∧ tgm m (79 + 4 * i) (T i) (N i) ∧ kl m i (T i) (N i) := by
    refine ⟨fun i => if hi : i < 6 then Classical.choose (hk i hi) else fun _ => 0, fun i => if hi : i < 6 then Classical.choose (Classical.choose_spec (hk i hi)) else 0, fun i hi => ?_⟩
    simp only [dif_pos hi]
    exact Classical.choose_spec (Classical.choose_spec (hk i hi))
  refine c11_restore_loop hly hd1 m (fun i hi => ⟨(hTN i hi).1, (hTN i hi).2.1⟩) (fun m1 f1 g1 z1 => ?_) 6 0 m rfl fr.rf (fun j hj => absurd hj (Nat.not_lt_zero _))
  have hkl : ∀ i, i < 6 → vT (T i) (N i) ∧ kl m1 i (T i) (N i) := fun i hi => ⟨(hTN i hi).1, (hTN i hi).2.2.frw f1.w (by omega) (fun k _ => by omega)⟩
  have h1' : ¬ m1.1 109 9 = 0 := by
    rw [f1.i (by omega), ← hn]
    exact h0
  refine vX12_restore_0 hly hd2 ⟨fun _ => ?_, fun h1 => absurd h1 h1'⟩
  refine c12_restore_loop1 hly hd2 m1 hkl (fun m2 f2 g2 z2 => ⟨rfl, ?_⟩) 360 0 m1 rfl fr.rf (fun j hj => absurd hj (Nat.not_lt_zero _))
  have f : frw (fun a k => (77 ≤ a ∧ a ≤ 100 ∧ (a % 4 = 1 ∨ a % 4 = 2)) ∨ (a = 0 ∧ k = 13) ∨ a = 111 ∨ a = 112 ∨ (a = 109 ∧ k = 7) ∨ mmP a k) m m2 := (f1.w.mono (fun a k h => h.elim Or.inl (fun h => Or.inr (Or.inl h)))).tr (f2.w.mono (fun a k h => Or.inr (Or.inr h)))
  obtain ⟨h0', ⟨a1, a2, a3, a4, a5, a6, a7⟩, h9⟩ := hI
  refine ⟨h0', ⟨fun i hi => ⟨T i, N i, (hTN i hi).1, (g1 i hi).fr f2 ?_ ?_, g2 i hi⟩, fun _ => ⟨?_, fun i hi => ⟨T i, N i, (hTN i hi).1, (hTN i hi).2.1.frw f ?_ ?_, (hTN i hi).2.2.frw f ?_ ?_⟩⟩, ⟨?_, ?_⟩, a4.frw f ?_, a5.frw f ?_, a6.frw f ?_, a7.frw f ?_⟩, fun k hk => ?_⟩
  · intro k h1 h2; unfold mmP; omega
  · intro k; unfold mmP; omega
  · rw [f.i (by unfold mmP; omega), f.i (by unfold mmP; omega)]
    exact kz
  · intro k; unfold mmP; omega
  · intro k; unfold mmP; omega
  · unfold mmP; omega
  · intro k hk; unfold mmP; omega
  · rw [f2.i (by unfold mmP; omega), z1, z2, f1.i (by omega)]
    exact kz
  · rw [f.i (by unfold mmP; omega), f.i (by unfold mmP; omega)]
    exact hn
  · exact ⟨by unfold mmP; omega, by unfold mmP; omega, fun k => by unfold mmP; omega⟩
  · exact ⟨by unfold mmP; omega, by unfold mmP; omega, by unfold mmP; omega, fun k => by unfold mmP; omega⟩
  · exact fun s hs => ⟨by unfold mmP; omega, by unfold mmP; omega, by unfold mmP; omega, by unfold mmP; omega, fun k => by unfold mmP; omega⟩
  · intro a k h1; unfold mmP; omega
  · rw [f.i (by unfold mmP; omega), f.i (by unfold mmP; omega)]
    exact h9 k hk
end K4
