/-! the reference walks -/
def wM (c l : Nat) (m : sm_M) (s : wkS) : Prop := m.1 109 53 = iI (s.1 : Nat) ∧ (∀ i, i < s.1 → m.1 138 i = iI (s.2.1 i : Nat)) ∧ (∀ k, k < 2 * c → m.1 136 k = iI (if s.2.2.1 k = 999 then -1 else (s.2.2.1 k : Int))) ∧ (∀ k, s.2.2.2.1 k ≠ 9 → m.1 137 k = iI (s.2.2.2.1 k : Nat)) ∧ ∀ p, dD c l p → 96 ≤ p → m.1 140 p = iI (s.2.2.2.2 p : Nat)
def dMf (m : sm_M) (c l : Nat) (mk po P : Nat → Nat) : Prop := (∀ p, dD c l p → m.1 128 p = iI (P p : Nat)) ∧ (∀ p, dD c l p → m.1 129 p = iI (wW mk p : Nat)) ∧ ∀ b, b < c → m.1 130 b = iI (2 * (po b : Int) - 1)
def wMP (a k : Nat) : Prop := a = 136 ∨ a = 137 ∨ a = 138 ∨ a = 140 ∨ (a = 109 ∧ k = 53)
theorem dMf.fr {Z : Nat → Nat → Prop} {m m' : sm_M} {c l : Nat} {mk po P : Nat → Nat} (h : dMf m c l mk po P) (hf : fr Z m m') (h1 : ∀ k, ¬ Z 128 k ∧ ¬ Z 129 k ∧ ¬ Z 130 k) : dMf m' c l mk po P := ⟨fun p hp => (hf.i (h1 _).1).trans (h.1 p hp), fun p hp => (hf.i (h1 _).2.1).trans (h.2.1 p hp), fun b hb => (hf.i (h1 _).2.2).trans (h.2.2 b hb)⟩
theorem wM.fr {Z : Nat → Nat → Prop} {m m' : sm_M} {c l : Nat} {s : wkS} (h : wM c l m s) (hf : fr Z m m') (h1 : ∀ k, ¬ Z 136 k ∧ ¬ Z 137 k ∧ ¬ Z 138 k ∧ ¬ Z 140 k ∧ ¬ Z 109 53) : wM c l m' s := by
  obtain ⟨c1, c2, c3, c4, c5⟩ := h
  exact ⟨(hf.i (h1 0).2.2.2.2).trans c1, fun i hi => (hf.i (h1 _).2.2.1).trans (c2 i hi), fun k hk => (hf.i (h1 _).1).trans (c3 k hk), fun k hk => (hf.i (h1 _).2.1).trans (c4 k hk), fun p hp h96 => (hf.i (h1 _).2.2.2.1).trans (c5 p hp h96)⟩
section MWK
variable {E : sm_E} {L : sm_S → Prop} {d : Nat} {c l : Nat} {mk po P : Nat → Nat}
theorem c12_passAt {Q : Int32 → sm_M → Prop} {m : sm_M} {p : Nat} (hly : ∀ S, L S → ly S) (hd : 1 ≤ d) (hg : gd c l mk po P) (hp : p < 4 * c) (hf : dMf m c l mk po P) (h : Q (iI (wPass po p : Nat)) m) : sm_callI E L mX12_passAt d 0 0 [.ref (sm_B E + 109), .int (iI (p : Nat))] m Q := by
  have hc := hg.1
  have v := hf.2.2 (p / 4) (by omega)
  have hpo := hg.2.2.2.2.2 (p / 4) (by omega)
  have d4 : (p : Int).tdiv 4 = ((p / 4 : Nat) : Int) := rfl
  have r4 : (p : Int).tmod 4 = ((p % 4 : Nat) : Int) := rfl
  have go : ∀ f : Int, (f = 0 ∨ f = 1) → (f = 1 ↔ (p % 4 = 0 ∨ p % 4 = 3)) → gX12_passAt_22 E L d [.ref (sm_B E + 109), .int (iI (p : Nat))] (iI ((p / 4 : Nat) : Int)) (iI f) m Q := by
    intro f hf1 hf2
    have fin : ∀ z : Int, z = (wPass po p : Nat) → Q (iI z) m := fun z hz => by rw [hz]; exact h
    refine vX12_passAt_22 hly hd ?_
    simp (disch := omega) only [forall_eq, true_and, and_true, false_and, and_false, forall_const, true_implies, implies_true, not_true_eq_false, not_false_eq_true, false_implies, if_true, if_false, ↓reduceIte, Int.toNat_natCast, Int.reduceEq, Int.reduceNe, Int.reduceLT, Int.reduceLE, Int.reduceToNat, Int.reduceAdd, Int.reduceSub, Int.reduceMul, Int.reduceNeg, Nat.reduceAdd, Nat.reduceMul, Nat.reduceSub, iI_lit, jI_lit, iI_add, iI_sub, iI_mul, iI_neg, jI_add, jI_sub, jI_mul, jI_neg, nI_i, lN_j, iI_le, iI_lt, iI_eq, jI_le, jI_lt, jI_eq, iI_in, iI_cl, iI_j, jI_i, cN, inN, wI_eq, wI_ne, wJ_1, wJ_eq, wJ_ne, wI_2, wJ_3, iI_div, iI_rem, jI_div, jI_rem, true_or, or_true, false_or, or_false, eq_self, Nat.add_zero, v]
    refine ⟨by omega, fun q => ⟨fun q2 => fin _ ?_, fun q2 => fin _ ?_⟩, fun q => ⟨fun q2 => fin _ ?_, fun q2 => fin _ ?_⟩⟩
    · unfold wPass; rw [if_neg (by omega)]; omega
    · unfold wPass; rw [if_pos (by omega)]; omega
    · unfold wPass; rw [if_neg (by omega)]; omega
    · unfold wPass; rw [if_pos (by omega)]; omega
  refine vX12_passAt_0 hd ?_
  simp (disch := omega) only [forall_eq, true_and, and_true, false_and, and_false, forall_const, true_implies, implies_true, not_true_eq_false, not_false_eq_true, false_implies, if_true, if_false, ↓reduceIte, Int.toNat_natCast, Int.reduceEq, Int.reduceNe, Int.reduceLT, Int.reduceLE, Int.reduceToNat, Int.reduceAdd, Int.reduceSub, Int.reduceMul, Int.reduceNeg, Nat.reduceAdd, Nat.reduceMul, Nat.reduceSub, iI_lit, jI_lit, iI_add, iI_sub, iI_mul, iI_neg, jI_add, jI_sub, jI_mul, jI_neg, nI_i, lN_j, iI_le, iI_lt, iI_eq, jI_le, jI_lt, jI_eq, iI_in, iI_cl, iI_j, jI_i, cN, inN, wI_eq, wI_ne, wJ_1, wJ_eq, wJ_ne, wI_2, wJ_3, iI_div, iI_rem, jI_div, jI_rem, true_or, or_true, false_or, or_false, eq_self, Nat.add_zero, d4, r4]
  exact ⟨fun q => go 1 (Or.inr rfl) (by omega), fun q => ⟨fun q2 => go 0 (Or.inl rfl) (by omega), fun q2 => go 1 (Or.inr rfl) (by omega)⟩⟩
theorem wM.note {m : sm_M} {s : wkS} {p K : Nat} (h : wM c l m s) (hg : gd c l mk po P) (hD : dD c l p) (hp : p < 96) (hK : K < 900) : wM c l (sm_wI (sm_wI (sm_wI (sm_wI m 136 (wPass po p) (iI (K : Nat))) 137 (wPass po p) (iI ((1 - p % 2 : Nat) : Int))) 138 s.1 (iI (wPass po p : Nat))) 109 53 (iI ((s.1 + 1 : Nat) : Int))) (wNote mk po K s p) := by
  obtain ⟨c1, c2, c3, c4, c5⟩ := h
  have hcc := hg.1
  have p1 := (pass_lt hg hD hp).1
  have hw : wNote mk po K s p = (s.1 + 1, upN s.2.1 s.1 (wPass po p), upN s.2.2.1 (wPass po p) K, upN s.2.2.2.1 (wPass po p) (1 - p % 2), upN (upN s.2.2.2.2 p 1) (wW mk p) 1) := if_pos hp
  rw [hw]
  refine ⟨?_, ?_, ?_, ?_, ?_⟩
  · rw [wI_eq rfl rfl]
  · rw [wI_oth (by decide)]
    refine wI_upN ?_
    rw [wI_oth (by decide), wI_oth (by decide)]
    exact c2
  · intro k hk
    rw [wI_oth (by decide), wI_oth (by decide), wI_oth (by decide)]
    show _ = iI (if upN s.2.2.1 (wPass po p) K k = 999 then -1 else (upN s.2.2.1 (wPass po p) K k : Int))
    rw [upN_at]
    by_cases hkp : k = wPass po p
    · rw [if_pos hkp, if_neg (by omega), wI_eq rfl hkp]
    · rw [if_neg hkp, wI_ne (Or.inr hkp)]
      exact c3 k hk
  · rw [wI_oth (by decide), wI_oth (by decide)]
    refine wI_upU ?_
    rw [wI_oth (by decide)]
    exact c4
  · intro q hq h96
    rw [wI_oth (by decide), wI_oth (by decide), wI_oth (by decide), wI_oth (by decide)]
    show _ = iI (upN (upN s.2.2.2.2 p 1) (wW mk p) 1 q : Nat)
    have := wW_cross hg p1
    rw [upN_ne (by omega), upN_ne (by omega)]
    exact c5 q hq h96
theorem wM.noteL {m : sm_M} {s : wkS} {p K : Nat} (h : wM c l m s) (hp : 96 ≤ p) : wM c l (sm_wI (sm_wI m 140 p (iI 1)) 140 (wW mk p) (iI 1)) (wNote mk po K s p) := by
  obtain ⟨c1, c2, c3, c4, c5⟩ := h
  have hw : wNote mk po K s p = (s.1, s.2.1, s.2.2.1, s.2.2.2.1, upN (upN s.2.2.2.2 p 1) (wW mk p) 1) := if_neg (by omega)
  rw [hw]
  refine ⟨?_, ?_, ?_, ?_, ?_⟩
  · rw [wI_oth (by decide), wI_oth (by decide)]; exact c1
  · rw [wI_oth (by decide), wI_oth (by decide)]; exact c2
  · rw [wI_oth (by decide), wI_oth (by decide)]; exact c3
  · rw [wI_oth (by decide), wI_oth (by decide)]; exact c4
  · intro q hq h96
    show _ = iI (upN (upN s.2.2.2.2 p 1) (wW mk p) 1 q : Nat)
    rw [upN_at, upN_at]
    by_cases h1 : q = wW mk p
    · rw [if_pos h1, wI_eq rfl h1]; rfl
    · rw [if_neg h1, wI_ne (Or.inr h1)]
      by_cases h2 : q = p
      · rw [if_pos h2, wI_eq rfl h2]; rfl
      · rw [if_neg h2, wI_ne (Or.inr h2)]; exact c5 q hq h96
theorem c12_goes {Q : sm_M → Prop} {m : sm_M} {s : wkS} {b B K : Nat} (hly : ∀ S, L S → ly S) (hd : 2 ≤ d) (hg : gd c l mk po P) (hm : mI c l mk po B s) (hcl : wCl c l P s) (hb : dD c l b) (hb96 : b < 96) (hs : s.2.2.2.2 b = 0) (hKB : K < B) (hB : B ≤ 900) (hf : dMf m c l mk po P) (hK : m.1 109 52 = iI (K : Nat)) (hC : wM c l m s) (h : ∀ m', fr wMP m m' → wM c l m' (wRun mk po P K s b (per (wW mk) P b)) → Q m') : sm_callV E L mX12_goes d 0 0 [.ref (sm_B E + 109), .int (iI (b : Nat))] m Q := by
  have hr := per_is hg.2.2.1 hb
  have hb192 := hg.2.2.1.1 _ hb
  have hcc := hg.1
  have step : ∀ (j : Nat) (m1 : sm_M), j < per (wW mk) P b → orb (wW mk) P b j < 96 → fr wMP m m1 → wM c l m1 (wRun mk po P K s b j) → (∀ m2, fr wMP m m2 → wM c l m2 (wRun mk po P K s b (j + 1)) → gX12_goes_67 E L d [.ref (sm_B E + 109), .int (iI (b : Nat))] (iI (b : Nat)) (iI (orb (wW mk) P b (j + 1) : Nat)) m2 Q) → gX12_goes_2 E L d [.ref (sm_B E + 109), .int (iI (b : Nat))] (iI (b : Nat)) (iI (orb (wW mk) P b j : Nat)) m1 Q := by
    intro j m1 hj h96 hf1 hC1 next
    have hD := orb_D hg.2.2.1 hb j
    have hD2 := (hg.2.2.1.2.1 _ hD).1
    have hD3 := (hg.2.2.1.2.2 _ hD2).1
    have hI := wRun_I (K := K) hg hm hcl hb hs hKB hB hr (j + 1) (by omega)
    have hwk := hI.1.walked
    have hstep : wRun mk po P K s b (j + 1) = wNote mk po K (wRun mk po P K s b j) (orb (wW mk) P b j) := rfl
    have ho1 : orb (wW mk) P b (j + 1) = P (wW mk (orb (wW mk) P b j)) := rfl
    have hf2 := hf.fr hf1 (fun k => ⟨by unfold wMP; omega, by unfold wMP; omega, by unfold wMP; omega⟩)
    have hK1 : m1.1 109 52 = iI (K : Nat) := (hf1.i (by unfold wMP; omega)).trans hK
    rw [hstep] at next hwk
    rw [ho1] at next
    generalize wRun mk po P K s b j = s1 at *
    generalize orb (wW mk) P b j = p at *
    obtain ⟨p1, p2⟩ := pass_lt hg hD h96
    have hw1 : (wNote mk po K s1 p).1 = s1.1 + 1 := by unfold wNote; rw [if_pos h96]
    have hp192 := hg.2.2.1.1 _ hD
    have hq192 := hg.2.2.1.1 _ hD2
    have v129 := hf2.2.1 p hD
    have v128 := hf2.1 _ hD2
    have r2 : (p : Int).tmod 2 = ((p % 2 : Nat) : Int) := rfl
    have go34 : ∀ e : Int, e = ((1 - p % 2 : Nat) : Int) → gX12_goes_34 E L d [.ref (sm_B E + 109), .int (iI (b : Nat))] (iI (b : Nat)) (iI (p : Nat)) (iI (wPass po p : Nat)) (iI (wPass po p : Nat)) (iI e) (sm_wI m1 136 (wPass po p) (iI (K : Nat))) Q := by
      intro e he
      refine vX12_goes_34 hly hd ?_
      simp (disch := omega) only [forall_eq, true_and, and_true, false_and, and_false, forall_const, true_implies, implies_true, not_true_eq_false, not_false_eq_true, false_implies, if_true, if_false, ↓reduceIte, Int.toNat_natCast, Int.reduceEq, Int.reduceNe, Int.reduceLT, Int.reduceLE, Int.reduceToNat, Int.reduceAdd, Int.reduceSub, Int.reduceMul, Int.reduceNeg, Nat.reduceAdd, Nat.reduceMul, Nat.reduceSub, iI_lit, jI_lit, iI_add, iI_sub, iI_mul, iI_neg, jI_add, jI_sub, jI_mul, jI_neg, nI_i, lN_j, iI_le, iI_lt, iI_eq, jI_le, jI_lt, jI_eq, iI_in, iI_cl, iI_j, jI_i, cN, inN, wI_eq, wI_ne, wJ_1, wJ_eq, wJ_ne, wI_2, wJ_3, iI_div, iI_rem, jI_div, jI_rem, true_or, or_true, false_or, or_false, eq_self, Nat.add_zero, hC1.1, v129, v128]
      refine ⟨by omega, by omega, by omega, by omega, ?_⟩
      rw [he]
      exact next _ ((((hf1.wI (Or.inl rfl)).wI (Or.inr (Or.inl rfl))).wI (Or.inr (Or.inr (Or.inl rfl)))).wI (Or.inr (Or.inr (Or.inr (Or.inr ⟨rfl, rfl⟩))))) (hC1.note hg hD h96 (by omega))
    refine vX12_goes_2 hly hd (c12_passAt hly (by omega) hg p1 hf2 ?_)
    simp (disch := omega) only [forall_eq, true_and, and_true, false_and, and_false, forall_const, true_implies, implies_true, not_true_eq_false, not_false_eq_true, false_implies, if_true, if_false, ↓reduceIte, Int.toNat_natCast, Int.reduceEq, Int.reduceNe, Int.reduceLT, Int.reduceLE, Int.reduceToNat, Int.reduceAdd, Int.reduceSub, Int.reduceMul, Int.reduceNeg, Nat.reduceAdd, Nat.reduceMul, Nat.reduceSub, iI_lit, jI_lit, iI_add, iI_sub, iI_mul, iI_neg, jI_add, jI_sub, jI_mul, jI_neg, nI_i, lN_j, iI_le, iI_lt, iI_eq, jI_le, jI_lt, jI_eq, iI_in, iI_cl, iI_j, jI_i, cN, inN, wI_eq, wI_ne, wJ_1, wJ_eq, wJ_ne, wI_2, wJ_3, iI_div, iI_rem, jI_div, jI_rem, true_or, or_true, false_or, or_false, eq_self, Nat.add_zero, hK1, r2]
    exact ⟨by omega, fun q => go34 0 (by omega), fun q => go34 1 (by omega)⟩
  have loop : ∀ (r j : Nat) (m1 : sm_M), j + r = per (wW mk) P b → 1 ≤ j → fr wMP m m1 → wM c l m1 (wRun mk po P K s b j) → gX12_goes_67 E L d [.ref (sm_B E + 109), .int (iI (b : Nat))] (iI (b : Nat)) (iI (orb (wW mk) P b j : Nat)) m1 Q := by
    intro r
    induction r with
    | zero =>
      intro j m1 hj _ hf1 hC1
      have hjr : j = per (wW mk) P b := by omega
      subst hjr
      rw [hr.2.2.1]
      refine vX12_goes_67 hly hd ?_
      simp (disch := omega) only [forall_eq, true_and, and_true, false_and, and_false, forall_const, true_implies, implies_true, not_true_eq_false, not_false_eq_true, false_implies, if_true, if_false, ↓reduceIte, Int.toNat_natCast, Int.reduceEq, Int.reduceNe, Int.reduceLT, Int.reduceLE, Int.reduceToNat, Int.reduceAdd, Int.reduceSub, Int.reduceMul, Int.reduceNeg, Nat.reduceAdd, Nat.reduceMul, Nat.reduceSub, iI_lit, jI_lit, iI_add, iI_sub, iI_mul, iI_neg, jI_add, jI_sub, jI_mul, jI_neg, nI_i, lN_j, iI_le, iI_lt, iI_eq, jI_le, jI_lt, jI_eq, iI_in, iI_cl, iI_j, jI_i, cN, inN, wI_eq, wI_ne, wJ_1, wJ_eq, wJ_ne, wI_2, wJ_3, iI_div, iI_rem, jI_div, jI_rem, true_or, or_true, false_or, or_false, eq_self, Nat.add_zero]
      exact ⟨fun _ => h m1 hf1 hC1, fun q => by omega⟩
    | succ r ih =>
      intro j m1 hj hj1 hf1 hC1
      have hne := hr.2.2.2 j hj1 (by omega)
      have hD := orb_D hg.2.2.1 hb j
      by_cases h96 : orb (wW mk) P b j < 96
      · have st := step j m1 (by omega) h96 hf1 hC1 (fun m2 g1 g2 => ih (j + 1) m2 (by omega) (by omega) g1 g2)
        refine vX12_goes_67 hly hd ?_
        simp (disch := omega) only [forall_eq, true_and, and_true, false_and, and_false, forall_const, true_implies, implies_true, not_true_eq_false, not_false_eq_true, false_implies, if_true, if_false, ↓reduceIte, Int.toNat_natCast, Int.reduceEq, Int.reduceNe, Int.reduceLT, Int.reduceLE, Int.reduceToNat, Int.reduceAdd, Int.reduceSub, Int.reduceMul, Int.reduceNeg, Nat.reduceAdd, Nat.reduceMul, Nat.reduceSub, iI_lit, jI_lit, iI_add, iI_sub, iI_mul, iI_neg, jI_add, jI_sub, jI_mul, jI_neg, nI_i, lN_j, iI_le, iI_lt, iI_eq, jI_le, jI_lt, jI_eq, iI_in, iI_cl, iI_j, jI_i, cN, inN, wI_eq, wI_ne, wJ_1, wJ_eq, wJ_ne, wI_2, wJ_3, iI_div, iI_rem, jI_div, jI_rem, true_or, or_true, false_or, or_false, eq_self, Nat.add_zero]
        exact ⟨fun _ => ⟨fun _ => st, fun q => absurd (by omega) hne⟩, fun q => by omega⟩
      · have hD2 := (hg.2.2.1.2.1 _ hD).1
        have hf2 := hf.fr hf1 (fun k => ⟨by unfold wMP; omega, by unfold wMP; omega, by unfold wMP; omega⟩)
        have nx := fun m2 => ih (j + 1) m2 (by omega) (by omega)
        have hstep : wRun mk po P K s b (j + 1) = wNote mk po K (wRun mk po P K s b j) (orb (wW mk) P b j) := rfl
        have ho1 : orb (wW mk) P b (j + 1) = P (wW mk (orb (wW mk) P b j)) := rfl
        rw [hstep, ho1] at nx
        clear ih step
        generalize wRun mk po P K s b j = s1 at *
        generalize orb (wW mk) P b j = p at *
        have hp192 := hg.2.2.1.1 _ hD
        have hq192 := hg.2.2.1.1 _ hD2
        have v129 := hf2.2.1 p hD
        have v128 := hf2.1 _ hD2
        refine vX12_goes_67 hly hd ?_
        simp (disch := omega) only [forall_eq, true_and, and_true, false_and, and_false, forall_const, true_implies, implies_true, not_true_eq_false, not_false_eq_true, false_implies, if_true, if_false, ↓reduceIte, Int.toNat_natCast, Int.reduceEq, Int.reduceNe, Int.reduceLT, Int.reduceLE, Int.reduceToNat, Int.reduceAdd, Int.reduceSub, Int.reduceMul, Int.reduceNeg, Nat.reduceAdd, Nat.reduceMul, Nat.reduceSub, iI_lit, jI_lit, iI_add, iI_sub, iI_mul, iI_neg, jI_add, jI_sub, jI_mul, jI_neg, nI_i, lN_j, iI_le, iI_lt, iI_eq, jI_le, jI_lt, jI_eq, iI_in, iI_cl, iI_j, jI_i, cN, inN, wI_eq, wI_ne, wJ_1, wJ_eq, wJ_ne, wI_2, wJ_3, iI_div, iI_rem, jI_div, jI_rem, true_or, or_true, false_or, or_false, eq_self, Nat.add_zero, v129, v128]
        refine ⟨fun q => by omega, fun _ => ⟨by omega, by omega, by omega, by omega, by omega, ?_⟩⟩
        exact nx _ ((hf1.wI (Or.inr (Or.inr (Or.inr (Or.inl rfl))))).wI (Or.inr (Or.inr (Or.inr (Or.inl rfl))))) (hC1.noteL (by omega))
  refine vX12_goes_0 hd ?_
  exact step 0 m hr.1 hb96 fr.rf hC (fun m2 g1 g2 => loop (per (wW mk) P b - 1) 1 m2 (by have := hr.1; omega) (by omega) g1 g2)
end MWK
