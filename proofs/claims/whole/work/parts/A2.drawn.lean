/-! what both come to when they draw -/
def rF (c K Z w : Nat) (po st ps ho ea : Nat → Nat) : Prop := c ≤ 24 ∧ K ≤ 2 * c ∧ (Z ≤ 25 ∧ ∀ k, k < K → st k < st (k + 1)) ∧ w ≤ 2 * c ∧ (∀ b, b < c → po b = 0 ∨ po b = 1) ∧ (∀ i j, i ≤ j → j ≤ K → st i ≤ st j) ∧ st 0 = 0 ∧ st K = w ∧ (∀ i, i < w → ps i < 2 * c) ∧ (∀ i j, i < w → j < w → ps i = ps j → i = j) ∧ (∀ k, k < 2 * c → ∃ i, i < w ∧ ps i = k) ∧ ∀ k, k < 2 * c → ho k < K ∧ (ea k = 0 ∨ ea k = 1)
theorem wRun_w1 {mk po P : Nat → Nat} {K : Nat} {s : wkS} {b : Nat} (hb : b < 96) : ∀ j, s.1 + 1 ≤ (wRun mk po P K s b (j + 1)).1 := by
  intro j
  induction j with
  | zero =>
    show s.1 + 1 ≤ (wNote mk po K s b).1
    unfold wNote
    rw [if_pos hb]
    exact Nat.le_refl _
  | succ j ih =>
    show s.1 + 1 ≤ (wNote mk po K (wRun mk po P K s b (j + 1)) (orb (wW mk) P b (j + 1))).1
    unfold wNote
    split
    · exact Nat.le_trans ih (Nat.le_succ _)
    · exact ih
theorem wA_st {c l : Nat} {mk po P : Nat → Nat} (hg : gd c l mk po P) : ∀ k, k ≤ 2 * c → ∀ i, i < (wA mk po P k).1 → upN (wA mk po P k).2.1 (wA mk po P k).1 (wA mk po P k).2.2.1 i < upN (wA mk po P k).2.1 (wA mk po P k).1 (wA mk po P k).2.2.1 (i + 1) := by
  intro k
  induction k with
  | zero => exact fun _ i hi => absurd hi (Nat.not_lt_zero _)
  | succ k ih =>
    intro hk i hi
    obtain ⟨e1, e2, e3⟩ := entry_lt hg (show k < 2 * c by omega)
    have hr := per_is hg.2.2.1 e2
    have hw : wA mk po P (k + 1) = if (wA mk po P k).2.2.2.2.2.2 (wEntry po k) = 1 then wA mk po P k else ((wA mk po P k).1 + 1, upN (wA mk po P k).2.1 (wA mk po P k).1 (wA mk po P k).2.2.1, wRun mk po P (wA mk po P k).1 (wA mk po P k).2.2 (wEntry po k) (per (wW mk) P (wEntry po k))) := rfl
    rw [hw] at hi ⊢
    by_cases hsn : (wA mk po P k).2.2.2.2.2.2 (wEntry po k) = 1
    · rw [if_pos hsn] at hi ⊢
      exact ih (by omega) i hi
    · rw [if_neg hsn] at hi ⊢
      have hi2 : i < (wA mk po P k).1 + 1 := hi
      have h1 := wRun_w1 (mk := mk) (po := po) (P := P) (K := (wA mk po P k).1) (s := (wA mk po P k).2.2) (b := wEntry po k) e3 (per (wW mk) P (wEntry po k) - 1)
      rw [show per (wW mk) P (wEntry po k) - 1 + 1 = per (wW mk) P (wEntry po k) by have := hr.1; omega] at h1
      show upN (upN (wA mk po P k).2.1 (wA mk po P k).1 (wA mk po P k).2.2.1) ((wA mk po P k).1 + 1) _ i < upN (upN (wA mk po P k).2.1 (wA mk po P k).1 (wA mk po P k).2.2.1) ((wA mk po P k).1 + 1) _ (i + 1)
      rw [upN_ne (by omega)]
      by_cases hiA : i = (wA mk po P k).1
      · subst hiA
        rw [upN_eq, upN_eq]
        exact h1
      · rw [upN_ne (j := i + 1) (by omega)]
        exact ih (by omega) i (by omega)
theorem rF_of {c l : Nat} {mk po P : Nat → Nat} (hg : gd c l mk po P) (e : Nat → Nat) (hE : ∀ p, dD c l p → P p = wW mk p → ∃ k, k < 4 ∧ e k = p) : rF c (wA mk po P (2 * c)).1 (wB mk po P (wA mk po P (2 * c)).1 (wA mk po P (2 * c)).2.2 (4 * l)).1 (wA mk po P (2 * c)).2.2.1 po (upN (wA mk po P (2 * c)).2.1 (wA mk po P (2 * c)).1 (wA mk po P (2 * c)).2.2.1) (wA mk po P (2 * c)).2.2.2.1 (wA mk po P (2 * c)).2.2.2.2.1 (wA mk po P (2 * c)).2.2.2.2.2.1 := by
  obtain ⟨h1, h2, h3, h4, h5, h6, h7, h8, h9⟩ := wA_I hg (2 * c) (Nat.le_refl _)
  have hc := hg.1
  have hl := hg.2.1
  have hB := wB_few hg h1 h2 (by omega) h4 e hE (4 * l) (Nat.le_refl _)
  have hB1 := (wB_I hg h1 h2 (by omega) h4 (4 * l) (Nat.le_refl _)).1.1.1
  have hB2 := sN_bd (f := fun p => (wB mk po P (wA mk po P (2 * c)).1 (wA mk po P (2 * c)).2.2 (4 * l)).2.2.2.2.2 (96 + p)) (4 * l) (fun i _ => by have := hB1 (96 + i); omega)
  have hB3 := sN_bd (f := fun k => (wB mk po P (wA mk po P (2 * c)).1 (wA mk po P (2 * c)).2.2 (4 * l)).2.2.2.2.2 (e k)) 4 (fun i _ => by have := hB1 (e i); omega)
  refine ⟨hc, h3, ⟨by omega, wA_st hg (2 * c) (Nat.le_refl _)⟩, h1.walked, hg.2.2.2.2.2, fun i j hij hj => ?_, ?_, upN_eq, fun i hi => (h1.2.2.2.1 i hi).1, h1.2.2.1, fun k hk => h1.2.2.2.2.1 k hk (h4 k hk), fun k hk => h1.2.2.2.2.2.2 k hk (h4 k hk)⟩
  · rw [upN_at, upN_at]
    by_cases hjA : j = (wA mk po P (2 * c)).1
    · rw [if_pos hjA]
      by_cases hiA : i = (wA mk po P (2 * c)).1
      · rw [if_pos hiA]; exact Nat.le_refl _
      · rw [if_neg hiA]; exact h5 i (by omega)
    · rw [if_neg hjA, if_neg (by omega)]; exact h6 i j hij (by omega)
  · rw [upN_at]
    by_cases h0 : 0 = (wA mk po P (2 * c)).1
    · rw [if_pos h0]; exact h7 h0.symm
    · rw [if_neg h0]; exact h8 (by omega)
section DRN
variable {E : sm_E} {L : sm_S → Prop} {d : Nat} {c l : Nat} {mk po P : Nat → Nat}
theorem c12_curves {Q : sm_M → Prop} {m : sm_M} {i n side : Nat} {t : Nat → Int} (hly : ∀ S, L S → ly S) (hd : 4 ≤ d) (hi : i < 6) (hn : n ≤ 60) (hv : okT t n) (hlv : lvs t n ≤ 24) (hcr : crs t n ≤ 24) (h1 : (ev t n).1 = 1) (hside : side = 0 ∨ side = 1) (hg : hl m i t n) (hG : gd (dr t n).2.1 (dr t n).2.2.1 (dr t n).2.2.2.2.2.2.1 (dr t n).2.2.2.2.2.2.2 (drEnd (dr t n) side).2.2.2.2.2.1) (hc0 : c = (dr t n).2.1) (hl0 : l = (dr t n).2.2.1) (hmk : mk = (dr t n).2.2.2.2.2.2.1) (hpo : po = (dr t n).2.2.2.2.2.2.2) (hP : P = (drEnd (dr t n) side).2.2.2.2.2.1) (h : ∀ m', fr dMP m m' → rM m' c (wA mk po P (2 * c)).1 (wB mk po P (wA mk po P (2 * c)).1 (wA mk po P (2 * c)).2.2 (4 * l)).1 (wA mk po P (2 * c)).2.2.1 po (upN (wA mk po P (2 * c)).2.1 (wA mk po P (2 * c)).1 (wA mk po P (2 * c)).2.2.1) (wA mk po P (2 * c)).2.2.2.1 (wA mk po P (2 * c)).2.2.2.2.1 (wA mk po P (2 * c)).2.2.2.2.2.1 → Q m') : sm_callV E L mX12_curves d 0 0 [.ref (sm_B E + 109), .int (iI (i : Nat)), .int (iI (side : Nat))] m Q := by
  refine vX12_curves_0 hly hd (c12_drawn hly (by omega) hi hn hv hlv hcr h1 hside hg (fun m1 f1 hM => ?_))
  have hg' : gd c l mk po P := by rw [hc0, hl0, hmk, hpo, hP]; exact hG
  have hM2 : m1.1 109 45 = iI (c : Nat) ∧ m1.1 109 46 = iI (l : Nat) ∧ dMf m1 c l mk po P := by
    obtain ⟨q1, q2, q3, q4, q5, q6, q7⟩ := hM
    refine ⟨by rw [hc0]; exact q1, by rw [hl0]; exact q2, fun p hp => ?_, fun p hp => ?_, fun b hb => ?_⟩
    · have h192 := hg'.2.2.1.1 _ (hg'.2.2.1.2.2 p hp).1
      rw [hP] at h192 ⊢
      exact q5 p (by omega)
    · have hmk4 : mk (p / 4) ≠ 0 := by
        unfold dD at hp
        have hc24 := hg'.1
        rcases hp with hp | hp
        · rw [hg'.2.2.2.1 (p / 4) (by omega)]; decide
        · have := hg'.2.2.2.2.1 (p / 4 - 24) (by omega)
          rw [show 24 + (p / 4 - 24) = p / 4 by omega] at this
          omega
      have hq := q6 (p / 4) (p % 4) (by omega) (by rw [hmk] at hmk4; exact hmk4)
      rw [show 4 * (p / 4) + p % 4 = p by omega] at hq
      rw [hq, hmk]
      rfl
    · have := hg'.2.2.2.2.2 b hb
      have hq := q7 b (by rw [hpo] at this; show (dr t n).2.2.2.2.2.2.2 b ≠ 9; omega)
      rw [hq, hpo]
      rfl
  obtain ⟨v45, v46, hf⟩ := hM2
  clear hM hG hc0 hl0 hmk hpo hP
  simp (disch := omega) only [forall_eq, true_and, and_true, false_and, and_false, forall_const, true_implies, implies_true, not_true_eq_false, not_false_eq_true, false_implies, if_true, if_false, ↓reduceIte, Int.toNat_natCast, Int.reduceEq, Int.reduceNe, Int.reduceLT, Int.reduceLE, Int.reduceToNat, Int.reduceAdd, Int.reduceSub, Int.reduceMul, Int.reduceNeg, Nat.reduceAdd, Nat.reduceMul, Nat.reduceSub, iI_lit, jI_lit, iI_add, iI_sub, iI_mul, iI_neg, jI_add, jI_sub, jI_mul, jI_neg, nI_i, lN_j, iI_le, iI_lt, iI_eq, jI_le, jI_lt, jI_eq, iI_in, iI_cl, iI_j, jI_i, cN, inN, wI_eq, wI_ne, wJ_1, wJ_eq, wJ_ne, wI_2, wJ_3, iI_div, iI_rem, jI_div, jI_rem, true_or, or_true, false_or, or_false, eq_self, Nat.add_zero]
  have hcc := hg'.1
  obtain ⟨m2, hm2⟩ : ∃ m2, m2 = sm_wI (sm_wI (sm_wI m1 109 52 (iI 0)) 109 53 (iI 0)) 109 54 (iI 0) := ⟨_, rfl⟩
  rw [← hm2]
  have f2 : fr dMP m m2 := by rw [hm2]; exact ((f1.wI (Or.inl ⟨rfl, by decide⟩)).wI (Or.inl ⟨rfl, by decide⟩)).wI (Or.inl ⟨rfl, by decide⟩)
  have v45' : m2.1 109 45 = iI (c : Nat) := by rw [hm2]; simp (disch := omega) only [forall_eq, true_and, and_true, false_and, and_false, forall_const, true_implies, implies_true, not_true_eq_false, not_false_eq_true, false_implies, if_true, if_false, ↓reduceIte, Int.toNat_natCast, Int.reduceEq, Int.reduceNe, Int.reduceLT, Int.reduceLE, Int.reduceToNat, Int.reduceAdd, Int.reduceSub, Int.reduceMul, Int.reduceNeg, Nat.reduceAdd, Nat.reduceMul, Nat.reduceSub, iI_lit, jI_lit, iI_add, iI_sub, iI_mul, iI_neg, jI_add, jI_sub, jI_mul, jI_neg, nI_i, lN_j, iI_le, iI_lt, iI_eq, jI_le, jI_lt, jI_eq, iI_in, iI_cl, iI_j, jI_i, cN, inN, wI_eq, wI_ne, wJ_1, wJ_eq, wJ_ne, wI_2, wJ_3, iI_div, iI_rem, jI_div, jI_rem, true_or, or_true, false_or, or_false, eq_self, Nat.add_zero, v45]
  have v46' : m2.1 109 46 = iI (l : Nat) := by rw [hm2]; simp (disch := omega) only [forall_eq, true_and, and_true, false_and, and_false, forall_const, true_implies, implies_true, not_true_eq_false, not_false_eq_true, false_implies, if_true, if_false, ↓reduceIte, Int.toNat_natCast, Int.reduceEq, Int.reduceNe, Int.reduceLT, Int.reduceLE, Int.reduceToNat, Int.reduceAdd, Int.reduceSub, Int.reduceMul, Int.reduceNeg, Nat.reduceAdd, Nat.reduceMul, Nat.reduceSub, iI_lit, jI_lit, iI_add, iI_sub, iI_mul, iI_neg, jI_add, jI_sub, jI_mul, jI_neg, nI_i, lN_j, iI_le, iI_lt, iI_eq, jI_le, jI_lt, jI_eq, iI_in, iI_cl, iI_j, jI_i, cN, inN, wI_eq, wI_ne, wJ_1, wJ_eq, wJ_ne, wI_2, wJ_3, iI_div, iI_rem, jI_div, jI_rem, true_or, or_true, false_or, or_false, eq_self, Nat.add_zero, v46]
  have v52 : m2.1 109 52 = iI 0 := by rw [hm2]; simp (disch := omega) only [forall_eq, true_and, and_true, false_and, and_false, forall_const, true_implies, implies_true, not_true_eq_false, not_false_eq_true, false_implies, if_true, if_false, ↓reduceIte, Int.toNat_natCast, Int.reduceEq, Int.reduceNe, Int.reduceLT, Int.reduceLE, Int.reduceToNat, Int.reduceAdd, Int.reduceSub, Int.reduceMul, Int.reduceNeg, Nat.reduceAdd, Nat.reduceMul, Nat.reduceSub, iI_lit, jI_lit, iI_add, iI_sub, iI_mul, iI_neg, jI_add, jI_sub, jI_mul, jI_neg, nI_i, lN_j, iI_le, iI_lt, iI_eq, jI_le, jI_lt, jI_eq, iI_in, iI_cl, iI_j, jI_i, cN, inN, wI_eq, wI_ne, wJ_1, wJ_eq, wJ_ne, wI_2, wJ_3, iI_div, iI_rem, jI_div, jI_rem, true_or, or_true, false_or, or_false, eq_self, Nat.add_zero]
  have v53 : m2.1 109 53 = iI 0 := by rw [hm2]; simp (disch := omega) only [forall_eq, true_and, and_true, false_and, and_false, forall_const, true_implies, implies_true, not_true_eq_false, not_false_eq_true, false_implies, if_true, if_false, ↓reduceIte, Int.toNat_natCast, Int.reduceEq, Int.reduceNe, Int.reduceLT, Int.reduceLE, Int.reduceToNat, Int.reduceAdd, Int.reduceSub, Int.reduceMul, Int.reduceNeg, Nat.reduceAdd, Nat.reduceMul, Nat.reduceSub, iI_lit, jI_lit, iI_add, iI_sub, iI_mul, iI_neg, jI_add, jI_sub, jI_mul, jI_neg, nI_i, lN_j, iI_le, iI_lt, iI_eq, jI_le, jI_lt, jI_eq, iI_in, iI_cl, iI_j, jI_i, cN, inN, wI_eq, wI_ne, wJ_1, wJ_eq, wJ_ne, wI_2, wJ_3, iI_div, iI_rem, jI_div, jI_rem, true_or, or_true, false_or, or_false, eq_self, Nat.add_zero]
  have v54 : m2.1 109 54 = iI 0 := by rw [hm2]; simp (disch := omega) only [forall_eq, true_and, and_true, false_and, and_false, forall_const, true_implies, implies_true, not_true_eq_false, not_false_eq_true, false_implies, if_true, if_false, ↓reduceIte, Int.toNat_natCast, Int.reduceEq, Int.reduceNe, Int.reduceLT, Int.reduceLE, Int.reduceToNat, Int.reduceAdd, Int.reduceSub, Int.reduceMul, Int.reduceNeg, Nat.reduceAdd, Nat.reduceMul, Nat.reduceSub, iI_lit, jI_lit, iI_add, iI_sub, iI_mul, iI_neg, jI_add, jI_sub, jI_mul, jI_neg, nI_i, lN_j, iI_le, iI_lt, iI_eq, jI_le, jI_lt, jI_eq, iI_in, iI_cl, iI_j, jI_i, cN, inN, wI_eq, wI_ne, wJ_1, wJ_eq, wJ_ne, wI_2, wJ_3, iI_div, iI_rem, jI_div, jI_rem, true_or, or_true, false_or, or_false, eq_self, Nat.add_zero]
  have hf2 : dMf m2 c l mk po P := hf.fr (Z := fun a _ => a = 109) (by rw [hm2]; exact (((fr.rf (P := fun a (_ : Nat) => a = 109) (m := m1)).wI rfl).wI rfl).wI rfl) (fun k => by omega)
  refine m_clear140 hly hd m2 (fun m3 f3 z3 => ?_) 192 0 m2 (by omega) fr.rf (fun p hp => absurd hp (Nat.not_lt_zero _))
  have v45'' : m3.1 109 45 = iI (c : Nat) := (f3.i (by omega)).trans v45'
  refine m_clear136 (c := c) hly hd hcc m3 v45'' (fun m4 f4 z4 => ?_) (2 * c) 0 m3 (by omega) fr.rf (fun p hp => absurd hp (Nat.not_lt_zero _))
  have f24 : fr (fun a _ => a = 140 ∨ a = 136) m2 m4 := (f3.mono (fun a k q => Or.inl q)).tr (f4.mono (fun a k q => Or.inr q))
  have loop : ∀ (r k : Nat) (m5 : sm_M), k + r = 2 * c → fr (fun a k => wMP a k ∨ a = 139 ∨ (a = 109 ∧ k = 52)) m4 m5 → mA c l m5 (wA mk po P k) → gX12_curves_70 E L d [.ref (sm_B E + 109), .int (iI (i : Nat)), .int (iI (side : Nat))] (iI (k : Nat)) m5 Q := by
    intro r
    induction r with
    | zero =>
      intro k m5 hk f5 hA
      have hkc : k = 2 * c := by omega
      subst hkc
      obtain ⟨h1, h2, h3, h4, h5, h6, h7, h8, h9⟩ := wA_I hg' (2 * c) (Nat.le_refl _)
      have w45 : m5.1 109 45 = iI (c : Nat) := (f5.i (by unfold wMP; omega)).trans ((f24.i (by omega)).trans v45')
      have w46 : m5.1 109 46 = iI (l : Nat) := (f5.i (by unfold wMP; omega)).trans ((f24.i (by omega)).trans v46')
      have w54 : m5.1 109 54 = iI 0 := (f5.i (by unfold wMP; omega)).trans ((f24.i (by omega)).trans v54)
      have ff5 : dMf m5 c l mk po P := (hf2.fr f24 (fun k => by omega)).fr f5 (fun k => ⟨by unfold wMP; omega, by unfold wMP; omega, by unfold wMP; omega⟩)
      generalize wA mk po P (2 * c) = A at *
      obtain ⟨a1, a2, a3⟩ := hA
      have u : 2 * (c : Int) ≤ ((2 * c : Nat) : Int) := by omega
      refine vX12_curves_70 hly hd ?_
      simp (disch := omega) only [forall_eq, true_and, and_true, false_and, and_false, forall_const, true_implies, implies_true, not_true_eq_false, not_false_eq_true, false_implies, if_true, if_false, ↓reduceIte, Int.toNat_natCast, Int.reduceEq, Int.reduceNe, Int.reduceLT, Int.reduceLE, Int.reduceToNat, Int.reduceAdd, Int.reduceSub, Int.reduceMul, Int.reduceNeg, Nat.reduceAdd, Nat.reduceMul, Nat.reduceSub, iI_lit, jI_lit, iI_add, iI_sub, iI_mul, iI_neg, jI_add, jI_sub, jI_mul, jI_neg, nI_i, lN_j, iI_le, iI_lt, iI_eq, jI_le, jI_lt, jI_eq, iI_in, iI_cl, iI_j, jI_i, cN, inN, wI_eq, wI_ne, wJ_1, wJ_eq, wJ_ne, wI_2, wJ_3, iI_div, iI_rem, jI_div, jI_rem, true_or, or_true, false_or, or_false, eq_self, Nat.add_zero, w45, u, a1, a2.1]
      refine ⟨by omega, ?_⟩
      have ff : dMf (sm_wI m5 139 A.1 (iI (A.2.2.1 : Nat))) c l mk po P := ff5.fr (Z := fun a _ => a = 139) (fr.rf.wI rfl) (fun k => by omega)
      refine m_circles (K := A.1) (s := A.2.2) hly hd hg' h1 h2 (by omega) h4 (sm_wI m5 139 A.1 (iI (A.2.2.1 : Nat))) ff (by simp (disch := omega) only [forall_eq, true_and, and_true, false_and, and_false, forall_const, true_implies, implies_true, not_true_eq_false, not_false_eq_true, false_implies, if_true, if_false, ↓reduceIte, Int.toNat_natCast, Int.reduceEq, Int.reduceNe, Int.reduceLT, Int.reduceLE, Int.reduceToNat, Int.reduceAdd, Int.reduceSub, Int.reduceMul, Int.reduceNeg, Nat.reduceAdd, Nat.reduceMul, Nat.reduceSub, iI_lit, jI_lit, iI_add, iI_sub, iI_mul, iI_neg, jI_add, jI_sub, jI_mul, jI_neg, nI_i, lN_j, iI_le, iI_lt, iI_eq, jI_le, jI_lt, jI_eq, iI_in, iI_cl, iI_j, jI_i, cN, inN, wI_eq, wI_ne, wJ_1, wJ_eq, wJ_ne, wI_2, wJ_3, iI_div, iI_rem, jI_div, jI_rem, true_or, or_true, false_or, or_false, eq_self, Nat.add_zero, w46]) (fun m' k1 k2 k3 => ?_) (4 * l) 0 _ (by omega) fr.rf (a2.fr (Z := fun a _ => a = 139) (fr.rf.wI rfl) (fun k => by omega)) (by simp (disch := omega) only [forall_eq, true_and, and_true, false_and, and_false, forall_const, true_implies, implies_true, not_true_eq_false, not_false_eq_true, false_implies, if_true, if_false, ↓reduceIte, Int.toNat_natCast, Int.reduceEq, Int.reduceNe, Int.reduceLT, Int.reduceLE, Int.reduceToNat, Int.reduceAdd, Int.reduceSub, Int.reduceMul, Int.reduceNeg, Nat.reduceAdd, Nat.reduceMul, Nat.reduceSub, iI_lit, jI_lit, iI_add, iI_sub, iI_mul, iI_neg, jI_add, jI_sub, jI_mul, jI_neg, nI_i, lN_j, iI_le, iI_lt, iI_eq, jI_le, jI_lt, jI_eq, iI_in, iI_cl, iI_j, jI_i, cN, inN, wI_eq, wI_ne, wJ_1, wJ_eq, wJ_ne, wI_2, wJ_3, iI_div, iI_rem, jI_div, jI_rem, true_or, or_true, false_or, or_false, eq_self, Nat.add_zero, w54]; rfl)
      obtain ⟨-, ⟨b1, b2, b3, b4⟩, -⟩ := wB_I hg' h1 h2 (by omega) h4 (4 * l) (Nat.le_refl _)
      obtain ⟨q1, q2, q3, q4, q5⟩ := k2
      rw [b1] at q1 q2
      rw [b2] at q2
      rw [b3] at q3
      rw [b4] at q4
      have fAll : fr dMP m m' := ((f2.tr (f24.mono (fun a k q => Or.inr (by omega)))).tr (f5.mono (fun a k q => by unfold wMP at q; unfold dMP; omega))).tr ((fr.rf.wI (P := dMP) (Or.inr (by omega))).tr (k1.mono (fun a k q => by unfold dMP; omega)))
      refine h m' fAll ⟨?_, ?_, k3, ?_, ?_, q2, ?_, ?_⟩
      · rw [k1.i (by omega)]; simp (disch := omega) only [forall_eq, true_and, and_true, false_and, and_false, forall_const, true_implies, implies_true, not_true_eq_false, not_false_eq_true, false_implies, if_true, if_false, ↓reduceIte, Int.toNat_natCast, Int.reduceEq, Int.reduceNe, Int.reduceLT, Int.reduceLE, Int.reduceToNat, Int.reduceAdd, Int.reduceSub, Int.reduceMul, Int.reduceNeg, Nat.reduceAdd, Nat.reduceMul, Nat.reduceSub, iI_lit, jI_lit, iI_add, iI_sub, iI_mul, iI_neg, jI_add, jI_sub, jI_mul, jI_neg, nI_i, lN_j, iI_le, iI_lt, iI_eq, jI_le, jI_lt, jI_eq, iI_in, iI_cl, iI_j, jI_i, cN, inN, wI_eq, wI_ne, wJ_1, wJ_eq, wJ_ne, wI_2, wJ_3, iI_div, iI_rem, jI_div, jI_rem, true_or, or_true, false_or, or_false, eq_self, Nat.add_zero, w45]
      · rw [k1.i (by omega)]; simp (disch := omega) only [forall_eq, true_and, and_true, false_and, and_false, forall_const, true_implies, implies_true, not_true_eq_false, not_false_eq_true, false_implies, if_true, if_false, ↓reduceIte, Int.toNat_natCast, Int.reduceEq, Int.reduceNe, Int.reduceLT, Int.reduceLE, Int.reduceToNat, Int.reduceAdd, Int.reduceSub, Int.reduceMul, Int.reduceNeg, Nat.reduceAdd, Nat.reduceMul, Nat.reduceSub, iI_lit, jI_lit, iI_add, iI_sub, iI_mul, iI_neg, jI_add, jI_sub, jI_mul, jI_neg, nI_i, lN_j, iI_le, iI_lt, iI_eq, jI_le, jI_lt, jI_eq, iI_in, iI_cl, iI_j, jI_i, cN, inN, wI_eq, wI_ne, wJ_1, wJ_eq, wJ_ne, wI_2, wJ_3, iI_div, iI_rem, jI_div, jI_rem, true_or, or_true, false_or, or_false, eq_self, Nat.add_zero, a1]
      · intro b hb
        rw [k1.i (by omega)]
        exact ff.2.2 b hb
      · intro i hi
        rw [k1.i (by omega)]
        exact wI_upN a3 i (by omega)
      · intro k hk
        have hne : A.2.2.2.2.1 k ≠ 999 := fun q => by
          have := (h1.2.2.2.2.2.1 k hk).mp q
          rw [h4 k hk] at this
          exact absurd this (by decide)
        rw [q3 k hk, if_neg hne]
      · intro k hk
        refine q4 k (fun q => ?_)
        have := (h1.2.2.2.2.2.2 k hk (h4 k hk)).2
        omega
    | succ r ih =>
      intro k m5 hk f5 hA
      have w45 : m5.1 109 45 = iI (c : Nat) := (f5.i (by unfold wMP; omega)).trans ((f24.i (by omega)).trans v45')
      have ff5 : dMf m5 c l mk po P := (hf2.fr f24 (fun k => by omega)).fr f5 (fun k => ⟨by unfold wMP; omega, by unfold wMP; omega, by unfold wMP; omega⟩)
      exact m_begin hly hd hg' (by omega) w45 ff5 hA (fun m' k1 k2 => ih (k + 1) m' (by omega) (f5.tr k1) k2)
  refine loop (2 * c) 0 m4 (by omega) fr.rf ⟨?_, ⟨?_, fun i hi => absurd hi (Nat.not_lt_zero _), fun k hk => ?_, fun k hk => absurd rfl hk, fun p hp h96 => ?_⟩, fun i hi => absurd hi (Nat.not_lt_zero _)⟩
  · rw [f24.i (by omega), v52]; rfl
  · rw [f24.i (by omega), v53]; rfl
  · exact z4 k hk
  · rw [f4.i (by omega), z3 p (hg'.2.2.1.1 _ hp)]; rfl
theorem k_draw {n side : Nat} {t : Nat → Int} (hv : vT t n) (hside : side = 0 ∨ side = 1) (hly : ∀ S, L S → ly S) : ∃ K Z w po st ps ho ea, rF (crs t n) K Z w po st ps ho ea ∧ (∀ (m : sm_M) (j d : Nat) (Q : sm_M → Prop), 5 ≤ d → j < 6 → tg m (77 + 4 * j) t n → (∀ m', fr dCP m m' → rC m' (crs t n) K Z w po st ps ho ea → Q m') → sm_callV E L mX2_draw d 0 0 [.ref (sm_B E + 16), .ref (sm_B E + (77 + 4 * j)), .int (iI (side : Nat))] m Q) ∧ (∀ (m : sm_M) (j d : Nat) (Q : sm_M → Prop), 4 ≤ d → j < 6 → hl m j t n → (∀ m', fr dMP m m' → rM m' (crs t n) K Z w po st ps ho ea → Q m') → sm_callV E L mX12_curves d 0 0 [.ref (sm_B E + 109), .int (iI (j : Nat)), .int (iI (side : Nat))] m Q) := by
  obtain ⟨hok, hev, hl24, hc24, hn60⟩ := hv
  obtain ⟨g1, g2, g3, g4⟩ := dI_all hok hl24 hc24 n (Nat.le_refl _)
  rw [hev] at g2
  have hG := gd_of (side := side) g1 g2
  have hF := rF_of hG (dr t n).2.2.2.1 (fun p hp hPp => bx_end (side := side) g1 (bx_all hok hl24 hc24 n (Nat.le_refl _)).1 g2 hp (by
    rw [hPp]
    have hmk : (dr t n).2.2.2.2.2.2.1 (p / 4) < 4 := by
      have hcc := hG.1
      unfold dD at hp
      rcases hp with hp | hp
      · rw [hG.2.2.2.1 (p / 4) (by omega)]; decide
      · have := hG.2.2.2.2.1 (p / 4 - 24) (by omega)
        rw [show 24 + (p / 4 - 24) = p / 4 by omega] at this
        omega
    exact (wW_box hmk).1))
  rw [g3] at hF
  refine ⟨_, _, _, _, _, _, _, _, hF, fun m j d Q hd hj hg h => ?_, fun m j d Q hd hj hh h => ?_⟩
  · refine c_draw hly hd (ly_slotT hly hj) (by omega) hn60 (by decide) hok hl24 hc24 hev hside hg (fun m1 f1 hC => ?_)
    obtain ⟨q1, q2, q3, q4, q5, q6, q7, q8⟩ := hC
    refine c_walkAll (c := (dr t n).2.1) (l := (dr t n).2.2.1) (mk := (dr t n).2.2.2.2.2.2.1) (po := (dr t n).2.2.2.2.2.2.2) (P := (drEnd (dr t n) side).2.2.2.2.2.1) hly (by omega) hG ⟨fun p hp => ?_, fun p hp => ?_, fun b hb => ?_⟩ q1 q2 (fun m' k1 k2 => ?_)
    · have h192 := hG.2.2.1.1 _ (hG.2.2.1.2.2 p hp).1
      exact q6 p (by omega)
    · refine q7 (p / 4) ?_
      show (dr t n).2.2.2.2.2.2.1 (p / 4) ≠ 0
      have hcc := hG.1
      unfold dD at hp
      rcases hp with hp | hp
      · rw [hG.2.2.2.1 (p / 4) (by omega)]; decide
      · have := hG.2.2.2.2.1 (p / 4 - 24) (by omega)
        rw [show 24 + (p / 4 - 24) = p / 4 by omega] at this
        omega
    · refine q8 b ?_
      have := hG.2.2.2.2.2 b hb
      show (dr t n).2.2.2.2.2.2.2 b ≠ 9
      omega
    · rw [g3] at k2
      exact h m' (f1.tr (k1.mono (fun a k q => by unfold wAP wCP at q; unfold dCP; omega))) k2
  · refine c12_curves hly hd hj hn60 hok hl24 hc24 hev hside hh hG rfl rfl rfl rfl rfl (fun m' k1 k2 => ?_)
    rw [g3] at k2
    exact h m' k1 k2
end DRN
