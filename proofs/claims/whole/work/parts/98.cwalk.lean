/-! the class walks -/
def wC (m : sm_M) (s : wkS) : Prop := m.1 16 15 = iI (s.1 : Nat) ∧ (∀ i, i < s.1 → m.1 23 i = iI (s.2.1 i : Nat)) ∧ (∀ k, s.2.2.1 k ≠ 999 → m.1 25 k = iI (s.2.2.1 k : Nat)) ∧ (∀ k, s.2.2.2.1 k ≠ 9 → m.1 26 k = iI (s.2.2.2.1 k : Nat)) ∧ ∀ p, p < 192 → m.1 19 p = iI (s.2.2.2.2 p : Nat)
/-- what a drawing in the class's memory is, once it stands -/
def dCf (m : sm_M) (c l : Nat) (mk po P : Nat → Nat) : Prop := (∀ p, dD c l p → m.1 18 p = iI (P p : Nat)) ∧ (∀ p, dD c l p → m.1 17 (p / 4) = iI (mk (p / 4) : Nat)) ∧ ∀ b, b < c → m.1 22 b = iI (po b : Nat)
def wCP (a k : Nat) : Prop := a = 19 ∨ a = 23 ∨ a = 25 ∨ a = 26 ∨ (a = 16 ∧ k = 15)
theorem dCf.fr {Z : Nat → Nat → Prop} {m m' : sm_M} {c l : Nat} {mk po P : Nat → Nat} (h : dCf m c l mk po P) (hf : fr Z m m') (h1 : ∀ k, ¬ Z 17 k ∧ ¬ Z 18 k ∧ ¬ Z 22 k) : dCf m' c l mk po P := ⟨fun p hp => (hf.i (h1 _).2.1).trans (h.1 p hp), fun p hp => (hf.i (h1 _).1).trans (h.2.1 p hp), fun b hb => (hf.i (h1 _).2.2).trans (h.2.2 b hb)⟩
theorem xor192 : ∀ p : Fin 192, ∀ k : Fin 4, iI (p.val : Nat) ^^^ iI (k.val : Nat) = iI ((4 * (p.val / 4) + ((p.val % 4) ^^^ k.val) : Nat) : Int) := by decide +kernel
section CWK
variable {E : sm_E} {L : sm_S → Prop} {d : Nat} {c l : Nat} {mk po P : Nat → Nat}
theorem c_notePass {Q : sm_M → Prop} {m : sm_M} {p K w : Nat} (hly : ∀ S, L S → ly S) (hd : 1 ≤ d) (hg : gd c l mk po P) (hD : dD c l p) (hp : p < 96) (hf : dCf m c l mk po P) (hK : m.1 16 11 = iI (K : Nat)) (hw : m.1 16 15 = iI (w : Nat)) (hw2 : w < 48) (h : Q (sm_wI (sm_wI (sm_wI (sm_wI m 25 (wPass po p) (iI (K : Nat))) 26 (wPass po p) (iI ((1 - p % 2 : Nat) : Int))) 23 w (iI (wPass po p : Nat))) 16 15 (iI ((w + 1 : Nat) : Int)))) : sm_callV E L mX2_notePass d 0 0 [.ref (sm_B E + 16), .int (iI ((p / 4 : Nat) : Int)), .int (iI ((p % 4 : Nat) : Int))] m Q := by
  obtain ⟨p1, p2⟩ := pass_lt hg hD hp
  have hc := hg.1
  have v22 := hf.2.2 (p / 4) (by omega)
  have hpo := hg.2.2.2.2.2 (p / 4) (by omega)
  have e48 : ¬ ((48 : Int) ≤ (w : Int)) := by omega
  have u48 : ((48 : Nat) : Int) = 48 := rfl
  have go67 : ∀ (e : Int), e = ((1 - p % 2 : Nat) : Int) → gX2_notePass_67 E L d [.ref (sm_B E + 16), .int (iI ((p / 4 : Nat) : Int)), .int (iI ((p % 4 : Nat) : Int))] (iI (wPass po p : Nat)) (iI (wPass po p : Nat)) (iI e) (sm_wI m 25 (wPass po p) (iI (K : Nat))) Q := by
    intro e he
    have h01 : e = 0 ∨ e = 1 := by omega
    refine vX2_notePass_67 hly hd ?_
    simp (disch := omega) only [forall_eq, true_and, and_true, false_and, and_false, forall_const, true_implies, implies_true, not_true_eq_false, not_false_eq_true, false_implies, if_true, if_false, ↓reduceIte, Int.toNat_natCast, Int.reduceEq, Int.reduceNe, Int.reduceLT, Int.reduceLE, Int.reduceToNat, Int.reduceAdd, Int.reduceSub, Int.reduceMul, Int.reduceNeg, Nat.reduceAdd, Nat.reduceMul, Nat.reduceSub, iI_lit, jI_lit, iI_add, iI_sub, iI_mul, iI_neg, jI_add, jI_sub, jI_mul, jI_neg, nI_i, lN_j, iI_le, iI_lt, iI_eq, jI_le, jI_lt, jI_eq, iI_in, iI_cl, iI_j, jI_i, cN, inN, wI_eq, wI_ne, wJ_1, wJ_eq, wJ_ne, wI_2, wJ_3, iI_div, iI_rem, jI_div, jI_rem, true_or, or_true, false_or, or_false, eq_self, Nat.add_zero, hw, u48, e48]
    refine ⟨by omega, by omega, by omega, ?_⟩
    rw [he]
    exact h
  have go33 : ∀ s1 : Int, ((2 * (p / 4) : Nat) : Int) + s1 = (wPass po p : Nat) → gX2_notePass_33 E L d [.ref (sm_B E + 16), .int (iI ((p / 4 : Nat) : Int)), .int (iI ((p % 4 : Nat) : Int))] (iI ((p % 4 : Nat) : Int)) (iI ((2 * (p / 4) : Nat) : Int)) (iI s1) m Q := by
    intro s1 hs
    refine vX2_notePass_33 hly hd ?_
    rw [iI_add, hs]
    simp (disch := omega) only [forall_eq, true_and, and_true, false_and, and_false, forall_const, true_implies, implies_true, not_true_eq_false, not_false_eq_true, false_implies, if_true, if_false, ↓reduceIte, Int.toNat_natCast, Int.reduceEq, Int.reduceNe, Int.reduceLT, Int.reduceLE, Int.reduceToNat, Int.reduceAdd, Int.reduceSub, Int.reduceMul, Int.reduceNeg, Nat.reduceAdd, Nat.reduceMul, Nat.reduceSub, iI_lit, jI_lit, iI_add, iI_sub, iI_mul, iI_neg, jI_add, jI_sub, jI_mul, jI_neg, nI_i, lN_j, iI_le, iI_lt, iI_eq, jI_le, jI_lt, jI_eq, iI_in, iI_cl, iI_j, jI_i, cN, inN, wI_eq, wI_ne, wJ_1, wJ_eq, wJ_ne, wI_2, wJ_3, iI_div, iI_rem, jI_div, jI_rem, true_or, or_true, false_or, or_false, eq_self, Nat.add_zero, hK]
    refine ⟨by omega, fun q => go67 1 (by omega), fun q => ⟨fun q2 => go67 0 (by omega), fun q2 => go67 1 (by omega)⟩⟩
  have go14 : ∀ f : Int, (f = 0 ∨ f = 1) → (f = 1 ↔ (p % 4 = 0 ∨ p % 4 = 3)) → gX2_notePass_14 E L d [.ref (sm_B E + 16), .int (iI ((p / 4 : Nat) : Int)), .int (iI ((p % 4 : Nat) : Int))] (iI ((p / 4 : Nat) : Int)) (iI ((p % 4 : Nat) : Int)) (iI f) m Q := by
    intro f hf1 hf2
    have e2 : 2 * ((p / 4 : Nat) : Int) = ((2 * (p / 4) : Nat) : Int) := by omega
    refine vX2_notePass_14 hly hd ?_
    simp (disch := omega) only [forall_eq, true_and, and_true, false_and, and_false, forall_const, true_implies, implies_true, not_true_eq_false, not_false_eq_true, false_implies, if_true, if_false, ↓reduceIte, Int.toNat_natCast, Int.reduceEq, Int.reduceNe, Int.reduceLT, Int.reduceLE, Int.reduceToNat, Int.reduceAdd, Int.reduceSub, Int.reduceMul, Int.reduceNeg, Nat.reduceAdd, Nat.reduceMul, Nat.reduceSub, iI_lit, jI_lit, iI_add, iI_sub, iI_mul, iI_neg, jI_add, jI_sub, jI_mul, jI_neg, nI_i, lN_j, iI_le, iI_lt, iI_eq, jI_le, jI_lt, jI_eq, iI_in, iI_cl, iI_j, jI_i, cN, inN, wI_eq, wI_ne, wJ_1, wJ_eq, wJ_ne, wI_2, wJ_3, iI_div, iI_rem, jI_div, jI_rem, true_or, or_true, false_or, or_false, eq_self, Nat.add_zero, v22, e2]
    refine ⟨by omega, fun q => go33 1 ?_, fun q => go33 0 ?_⟩
    · unfold wPass
      rw [if_neg (by omega)]
      omega
    · unfold wPass
      rw [if_pos (by omega)]
      omega
  refine vX2_notePass_0 hd ?_
  simp (disch := omega) only [forall_eq, true_and, and_true, false_and, and_false, forall_const, true_implies, implies_true, not_true_eq_false, not_false_eq_true, false_implies, if_true, if_false, ↓reduceIte, Int.toNat_natCast, Int.reduceEq, Int.reduceNe, Int.reduceLT, Int.reduceLE, Int.reduceToNat, Int.reduceAdd, Int.reduceSub, Int.reduceMul, Int.reduceNeg, Nat.reduceAdd, Nat.reduceMul, Nat.reduceSub, iI_lit, jI_lit, iI_add, iI_sub, iI_mul, iI_neg, jI_add, jI_sub, jI_mul, jI_neg, nI_i, lN_j, iI_le, iI_lt, iI_eq, jI_le, jI_lt, jI_eq, iI_in, iI_cl, iI_j, jI_i, cN, inN, wI_eq, wI_ne, wJ_1, wJ_eq, wJ_ne, wI_2, wJ_3, iI_div, iI_rem, jI_div, jI_rem, true_or, or_true, false_or, or_false, eq_self, Nat.add_zero]
  exact ⟨fun q => go14 1 (Or.inr rfl) (by omega), fun q => ⟨fun q2 => go14 0 (Or.inl rfl) (by omega), fun q2 => go14 1 (Or.inr rfl) (by omega)⟩⟩
theorem wC.note {m : sm_M} {s : wkS} {p K : Nat} (h : wC m s) (hp : p < 96) : wC (sm_wI (sm_wI (sm_wI (sm_wI (sm_wI (sm_wI m 19 p (iI 1)) 19 (wW mk p) (iI 1)) 25 (wPass po p) (iI (K : Nat))) 26 (wPass po p) (iI ((1 - p % 2 : Nat) : Int))) 23 s.1 (iI (wPass po p : Nat))) 16 15 (iI ((s.1 + 1 : Nat) : Int))) (wNote mk po K s p) := by
  obtain ⟨c1, c2, c3, c4, c5⟩ := h
  have hw : wNote mk po K s p = (s.1 + 1, upN s.2.1 s.1 (wPass po p), upN s.2.2.1 (wPass po p) K, upN s.2.2.2.1 (wPass po p) (1 - p % 2), upN (upN s.2.2.2.2 p 1) (wW mk p) 1) := if_pos hp
  rw [hw]
  refine ⟨?_, ?_, ?_, ?_, ?_⟩
  · rw [wI_eq rfl rfl]
  · rw [wI_oth (by decide)]
    refine wI_upN ?_
    rw [wI_oth (by decide), wI_oth (by decide), wI_oth (by decide), wI_oth (by decide)]
    exact c2
  · rw [wI_oth (by decide), wI_oth (by decide), wI_oth (by decide)]
    refine wI_upU ?_
    rw [wI_oth (by decide), wI_oth (by decide)]
    exact c3
  · rw [wI_oth (by decide), wI_oth (by decide)]
    refine wI_upU ?_
    rw [wI_oth (by decide), wI_oth (by decide), wI_oth (by decide)]
    exact c4
  · rw [wI_oth (by decide), wI_oth (by decide), wI_oth (by decide), wI_oth (by decide)]
    exact wI_up (wI_up c5)
theorem wC.noteL {m : sm_M} {s : wkS} {p K : Nat} (h : wC m s) (hp : 96 ≤ p) : wC (sm_wI (sm_wI m 19 p (iI 1)) 19 (wW mk p) (iI 1)) (wNote mk po K s p) := by
  obtain ⟨c1, c2, c3, c4, c5⟩ := h
  have hw : wNote mk po K s p = (s.1, s.2.1, s.2.2.1, s.2.2.2.1, upN (upN s.2.2.2.2 p 1) (wW mk p) 1) := if_neg (by omega)
  rw [hw]
  refine ⟨?_, ?_, ?_, ?_, ?_⟩
  · rw [wI_oth (by decide), wI_oth (by decide)]; exact c1
  · rw [wI_oth (by decide), wI_oth (by decide)]; exact c2
  · rw [wI_oth (by decide), wI_oth (by decide)]; exact c3
  · rw [wI_oth (by decide), wI_oth (by decide)]; exact c4
  · exact wI_up (wI_up c5)
theorem c_walk {Q : sm_M → Prop} {m : sm_M} {s : wkS} {b B K : Nat} (hly : ∀ S, L S → ly S) (hd : 2 ≤ d) (hg : gd c l mk po P) (hm : mI c l mk po B s) (hcl : wCl c l P s) (hb : dD c l b) (hs : s.2.2.2.2 b = 0) (hKB : K < B) (hB : B ≤ 900) (hf : dCf m c l mk po P) (hK : m.1 16 11 = iI (K : Nat)) (hC : wC m s) (h : ∀ m', fr wCP m m' → wC m' (wRun mk po P K s b (per (wW mk) P b)) → Q m') : sm_callV E L mX2_walk d 0 0 [.ref (sm_B E + 16), .int (iI (b : Nat))] m Q := by
  have hr := per_is hg.2.2.1 hb
  have hb192 := hg.2.2.1.1 _ hb
  have loop : ∀ (r j : Nat) (m1 : sm_M), j + r = per (wW mk) P b → 1 ≤ r → fr wCP m m1 → wC m1 (wRun mk po P K s b j) → gX2_walk_4 E L d [.ref (sm_B E + 16), .int (iI (b : Nat))] (iI (b : Nat)) (iI (orb (wW mk) P b j : Nat)) (iI (j : Nat)) m1 Q := by
    intro r
    induction r with
    | zero => intro j m1 _ h0; omega
    | succ r ih =>
      intro j m1 hj _ hf1 hC1
      have hD := orb_D hg.2.2.1 hb j
      have hD2 := (hg.2.2.1.2.1 _ hD).1
      have hD3 := (hg.2.2.1.2.2 _ hD2).1
      have hI := wRun_I (K := K) hg hm hcl hb hs hKB hB hr (j + 1) (by omega)
      have hwk := hI.1.walked
      have hstep : wRun mk po P K s b (j + 1) = wNote mk po K (wRun mk po P K s b j) (orb (wW mk) P b j) := rfl
      have ho1 : orb (wW mk) P b (j + 1) = P (wW mk (orb (wW mk) P b j)) := rfl
      have hnx : r ≠ 0 → orb (wW mk) P b (j + 1) ≠ b := fun q => hr.2.2.2 (j + 1) (by omega) (by omega)
      have hl1 : r = 0 → orb (wW mk) P b (j + 1) = b := fun q => by rw [show j + 1 = per (wW mk) P b by omega]; exact hr.2.2.1
      have hf2 := hf.fr hf1 (fun k => ⟨by unfold wCP; omega, by unfold wCP; omega, by unfold wCP; omega⟩)
      have hK1 : m1.1 16 11 = iI (K : Nat) := (hf1.i (by unfold wCP; omega)).trans hK
      have K2 := fun (q : r ≠ 0) m2 => ih (j + 1) m2 (by omega) (by omega)
      have hj192 : j < 192 := by have := hr.2.1; omega
      rw [hstep] at K2 hwk
      rw [ho1] at K2 hnx hl1
      clear ih
      generalize wRun mk po P K s b j = s1 at *
      generalize orb (wW mk) P b j = p at *
      have hp192 := hg.2.2.1.1 _ hD
      have hq192 := hg.2.2.1.1 _ hD2
      have hz192 := hg.2.2.1.1 _ hD3
      have v17 := hf2.2.1 p hD
      have v18 := hf2.1 _ hD2
      have hmk : mk (p / 4) < 4 := by
        unfold dD at hD
        rcases hD with q | q
        · rw [hg.2.2.2.1 (p / 4) (by omega)]; decide
        · have := hg.2.2.2.2.1 (p / 4 - 24) (by omega)
          rw [show 24 + (p / 4 - 24) = p / 4 by omega] at this
          omega
      have d4 : (p : Int).tdiv 4 = ((p / 4 : Nat) : Int) := rfl
      have r4 : (p : Int).tmod 4 = ((p % 4 : Nat) : Int) := rfl
      have hx : iI (p : Nat) ^^^ iI (mk (p / 4) : Nat) = iI (wW mk p : Nat) := xor192 ⟨p, hp192⟩ ⟨mk (p / 4), hmk⟩
      have u : ¬ ((192 : Int) ≤ (j : Int)) := by omega
      have ej : (j : Int) + 1 = ((j + 1 : Nat) : Int) := by omega
      have go54 : ∀ m2, fr wCP m m2 → wC m2 (wNote mk po K s1 p) → gX2_walk_54 E L d [.ref (sm_B E + 16), .int (iI (b : Nat))] (iI (b : Nat)) (iI (j : Nat)) (iI (wW mk p : Nat)) m2 Q := by
        intro m2 g1 g2
        have v18' := (hf.fr g1 (fun k => ⟨by unfold wCP; omega, by unfold wCP; omega, by unfold wCP; omega⟩)).1 _ hD2
        refine vX2_walk_54 hly hd ?_
        simp (disch := omega) only [forall_eq, true_and, and_true, false_and, and_false, forall_const, true_implies, implies_true, not_true_eq_false, not_false_eq_true, false_implies, if_true, if_false, ↓reduceIte, Int.toNat_natCast, Int.reduceEq, Int.reduceNe, Int.reduceLT, Int.reduceLE, Int.reduceToNat, Int.reduceAdd, Int.reduceSub, Int.reduceMul, Int.reduceNeg, Nat.reduceAdd, Nat.reduceMul, Nat.reduceSub, iI_lit, jI_lit, iI_add, iI_sub, iI_mul, iI_neg, jI_add, jI_sub, jI_mul, jI_neg, nI_i, lN_j, iI_le, iI_lt, iI_eq, jI_le, jI_lt, jI_eq, iI_in, iI_cl, iI_j, jI_i, cN, inN, wI_eq, wI_ne, wJ_1, wJ_eq, wJ_ne, wI_2, wJ_3, iI_div, iI_rem, jI_div, jI_rem, true_or, or_true, false_or, or_false, eq_self, Nat.add_zero, v18', ej]
        refine ⟨by omega, fun q => ?_, fun q => ?_⟩
        · by_cases hr0 : r = 0
          · exact absurd (congrArg (fun n : Nat => (n : Int)) (hl1 hr0)) q
          · exact K2 hr0 m2 g1 g2
        · by_cases hr0 : r = 0
          · have e : wNote mk po K s1 p = wRun mk po P K s b (per (wW mk) P b) := by
              rw [← show j + 1 = per (wW mk) P b by omega, ← hstep]
            rw [e] at g2
            exact h m2 g1 g2
          · exact absurd (by omega) (hnx hr0)
      refine vX2_walk_4 hly hd ?_
      simp (disch := omega) only [forall_eq, true_and, and_true, false_and, and_false, forall_const, true_implies, implies_true, not_true_eq_false, not_false_eq_true, false_implies, if_true, if_false, ↓reduceIte, Int.toNat_natCast, Int.reduceEq, Int.reduceNe, Int.reduceLT, Int.reduceLE, Int.reduceToNat, Int.reduceAdd, Int.reduceSub, Int.reduceMul, Int.reduceNeg, Nat.reduceAdd, Nat.reduceMul, Nat.reduceSub, iI_lit, jI_lit, iI_add, iI_sub, iI_mul, iI_neg, jI_add, jI_sub, jI_mul, jI_neg, nI_i, lN_j, iI_le, iI_lt, iI_eq, jI_le, jI_lt, jI_eq, iI_in, iI_cl, iI_j, jI_i, cN, inN, wI_eq, wI_ne, wJ_1, wJ_eq, wJ_ne, wI_2, wJ_3, iI_div, iI_rem, jI_div, jI_rem, true_or, or_true, false_or, or_false, eq_self, Nat.add_zero, u, d4, r4, v17, hx]
      refine ⟨by omega, by omega, by omega, fun q => ?_, fun q => ?_⟩
      · refine go54 _ ((hf1.wI (Or.inl rfl)).wI (Or.inl rfl)) (hC1.noteL (by omega))
      · have hw1 : (wNote mk po K s1 p).1 = s1.1 + 1 := by unfold wNote; rw [if_pos (by omega)]
        have hc24 := hg.1
        refine c_notePass (w := s1.1) (K := K) hly (by omega) hg hD (by omega) (hf2.fr (Z := wCP) ((fr.rf.wI (Or.inl rfl)).wI (Or.inl rfl)) (fun k => ⟨by unfold wCP; omega, by unfold wCP; omega, by unfold wCP; omega⟩)) (by simp (disch := omega) only [forall_eq, true_and, and_true, false_and, and_false, forall_const, true_implies, implies_true, not_true_eq_false, not_false_eq_true, false_implies, if_true, if_false, ↓reduceIte, Int.toNat_natCast, Int.reduceEq, Int.reduceNe, Int.reduceLT, Int.reduceLE, Int.reduceToNat, Int.reduceAdd, Int.reduceSub, Int.reduceMul, Int.reduceNeg, Nat.reduceAdd, Nat.reduceMul, Nat.reduceSub, iI_lit, jI_lit, iI_add, iI_sub, iI_mul, iI_neg, jI_add, jI_sub, jI_mul, jI_neg, nI_i, lN_j, iI_le, iI_lt, iI_eq, jI_le, jI_lt, jI_eq, iI_in, iI_cl, iI_j, jI_i, cN, inN, wI_eq, wI_ne, wJ_1, wJ_eq, wJ_ne, wI_2, wJ_3, iI_div, iI_rem, jI_div, jI_rem, true_or, or_true, false_or, or_false, eq_self, Nat.add_zero, hK1]) (by simp (disch := omega) only [forall_eq, true_and, and_true, false_and, and_false, forall_const, true_implies, implies_true, not_true_eq_false, not_false_eq_true, false_implies, if_true, if_false, ↓reduceIte, Int.toNat_natCast, Int.reduceEq, Int.reduceNe, Int.reduceLT, Int.reduceLE, Int.reduceToNat, Int.reduceAdd, Int.reduceSub, Int.reduceMul, Int.reduceNeg, Nat.reduceAdd, Nat.reduceMul, Nat.reduceSub, iI_lit, jI_lit, iI_add, iI_sub, iI_mul, iI_neg, jI_add, jI_sub, jI_mul, jI_neg, nI_i, lN_j, iI_le, iI_lt, iI_eq, jI_le, jI_lt, jI_eq, iI_in, iI_cl, iI_j, jI_i, cN, inN, wI_eq, wI_ne, wJ_1, wJ_eq, wJ_ne, wI_2, wJ_3, iI_div, iI_rem, jI_div, jI_rem, true_or, or_true, false_or, or_false, eq_self, Nat.add_zero, hC1.1]) (by omega) ?_
        exact go54 _ ((((((hf1.wI (Or.inl rfl)).wI (Or.inl rfl)).wI (Or.inr (Or.inr (Or.inl rfl)))).wI (Or.inr (Or.inr (Or.inr (Or.inl rfl))))).wI (Or.inr (Or.inl rfl))).wI (Or.inr (Or.inr (Or.inr (Or.inr ⟨rfl, rfl⟩))))) (hC1.note (by omega))
  refine vX2_walk_0 hd ?_
  rw [iI_lit]
  exact loop (per (wW mk) P b) 0 m (by omega) hr.1 fr.rf hC
end CWK
