/-! the reference: the least number by trying all -/
def ulP (lv a k : Nat) : Prop := (a = 109 ∧ (k = 29 ∨ k = 30 ∨ k = 36 ∨ k = 60 ∨ k = 61 ∨ k = 64)) ∨ a = 127 ∨ (a = 145 ∧ 16 * lv ≤ k) ∨ (a = 146 ∧ lv ≤ k)
theorem ulP_sc {lv a k : Nat} (h : ulP lv a k) : scM a k := by
  unfold ulP at h
  unfold scM
  omega
theorem ulP_te {lv a k : Nat} (h : teP a k) : ulP lv a k := by
  unfold teP at h
  unfold ulP
  omega
theorem ulP_nb {lv a k : Nat} (h : nbP a k) : ulP lv a k := by
  unfold nbP at h
  unfold ulP
  omega
theorem ulP_up {lv a k : Nat} (h : ulP (lv + 1) a k) : ulP lv a k := by
  unfold ulP at *
  omega
theorem bst_bd {f : Nat} {P R : Int} (h : nmT P R) (hs : szN P R ≤ 12) (n : Nat) : -1 ≤ (bstG (unl f) P R n).1 ∧ (bstG (unl f) P R n).1 ≤ 12 := by
  rcases bst_is (unl_nn f) P R n with ⟨i1, _⟩ | ⟨i0, k0, i1, i2, i3, i4, _⟩
  · rw [i1]; decide
  · have hl := i3
    unfold lss at hl
    have := unl_le f (nxt P R k0).1 (nxt P R k0).2 (by
      by_cases h2 : (nxt P R k0).1 < 2
      · exact Or.inl h2
      · exact Or.inr ⟨nxt_T h hs (by omega), by omega⟩)
    omega
section MUN
variable {E : sm_E} {L : sm_S → Prop}
/-- one term more -/
theorem u_step {Q : Int32 → sm_M → Prop} {vs : List Value} {d lv k i M : Nat} {m : sm_M} {x6 : Int64} {x14 x15 : Int32} {t : Nat → Int} {u v : Int} (hly : ∀ S, L S → ly S) (hd : 5 ≤ d) (hlv : lv ≤ 9) (hM : M ≤ 12) (hi : i < M) (hk : k < M) (hM1 : m.1 146 lv = iI (M : Nat)) (ht : m.2.1 145 (16 * lv + i) = jI (t i)) (h : gX12_unlinkOf_124 E L d vs (iI (lv : Nat)) x6 (iI (16 * (lv : Int))) x14 x15 (iI (k : Nat)) (jI (if i + 1 = M then chg t k i else chg t k i * u + v)) (jI (if i + 1 = M then 1 else u)) (iI ((i : Int) + -1)) m Q) : gX12_unlinkOf_124 E L d vs (iI (lv : Nat)) x6 (iI (16 * (lv : Int))) x14 x15 (iI (k : Nat)) (jI u) (jI v) (iI (i : Nat)) m Q := by
  have e : (16 * (lv : Int) + (i : Int)).toNat = 16 * lv + i := by omega
  have u1 : ¬ ((i : Int) < 0) := by omega
  have go : ∀ s1 : Int, chg t k i = t i - s1 → gX12_unlinkOf_153 E L d vs (iI (lv : Nat)) x6 (iI (16 * (lv : Int))) x14 x15 (iI (k : Nat)) (jI u) (jI v) (iI (i : Nat)) (jI (t i)) (jI s1) m Q := by
    intro s1 hs1
    refine vX12_unlinkOf_153 (dr := d - 1) hly (by omega) (by omega) ?_
    simp (disch := omega) only [forall_eq, true_and, and_true, false_and, and_false, forall_const, true_implies, implies_true, not_true_eq_false, not_false_eq_true, false_implies, if_true, if_false, ↓reduceIte, Int.toNat_natCast, Int.reduceEq, Int.reduceNe, Int.reduceLT, Int.reduceLE, Int.reduceToNat, Int.reduceAdd, Int.reduceSub, Int.reduceMul, Int.reduceNeg, Nat.reduceAdd, Nat.reduceMul, Nat.reduceSub, iI_lit, jI_lit, iI_add, iI_sub, iI_mul, iI_neg, jI_add, jI_sub, jI_mul, jI_neg, nI_i, lN_j, iI_le, iI_lt, iI_eq, jI_le, jI_lt, jI_eq, iI_in, iI_cl, iI_j, jI_i, cN, inN, wI_eq, wI_ne, wJ_1, wJ_eq, wJ_ne, wI_2, wJ_3, iI_div, iI_rem, jI_div, jI_rem, true_or, or_true, false_or, or_false, eq_self, Nat.add_zero, hM1]
    rw [← hs1]
    refine ⟨by omega, fun q => ?_, fun q => ?_⟩
    · rw [if_neg (by omega), if_neg (by omega)] at h
      refine vX12_unlinkOf_175 (dr := d - 1) (by omega) (by omega) ?_
      simp (disch := omega) only [forall_eq, true_and, and_true, false_and, and_false, forall_const, true_implies, implies_true, not_true_eq_false, not_false_eq_true, false_implies, if_true, if_false, ↓reduceIte, Int.toNat_natCast, Int.reduceEq, Int.reduceNe, Int.reduceLT, Int.reduceLE, Int.reduceToNat, Int.reduceAdd, Int.reduceSub, Int.reduceMul, Int.reduceNeg, Nat.reduceAdd, Nat.reduceMul, Nat.reduceSub, iI_lit, jI_lit, iI_add, iI_sub, iI_mul, iI_neg, jI_add, jI_sub, jI_mul, jI_neg, nI_i, lN_j, iI_le, iI_lt, iI_eq, jI_le, jI_lt, jI_eq, iI_in, iI_cl, iI_j, jI_i, cN, inN, wI_eq, wI_ne, wJ_1, wJ_eq, wJ_ne, wI_2, wJ_3, iI_div, iI_rem, jI_div, jI_rem, true_or, or_true, false_or, or_false, eq_self, Nat.add_zero]
      refine vX12_unlinkOf_195 (dr := d - 1) (by omega) (by omega) ?_
      simp (disch := omega) only [forall_eq, true_and, and_true, false_and, and_false, forall_const, true_implies, implies_true, not_true_eq_false, not_false_eq_true, false_implies, if_true, if_false, ↓reduceIte, Int.toNat_natCast, Int.reduceEq, Int.reduceNe, Int.reduceLT, Int.reduceLE, Int.reduceToNat, Int.reduceAdd, Int.reduceSub, Int.reduceMul, Int.reduceNeg, Nat.reduceAdd, Nat.reduceMul, Nat.reduceSub, iI_lit, jI_lit, iI_add, iI_sub, iI_mul, iI_neg, jI_add, jI_sub, jI_mul, jI_neg, nI_i, lN_j, iI_le, iI_lt, iI_eq, jI_le, jI_lt, jI_eq, iI_in, iI_cl, iI_j, jI_i, cN, inN, wI_eq, wI_ne, wJ_1, wJ_eq, wJ_ne, wI_2, wJ_3, iI_div, iI_rem, jI_div, jI_rem, true_or, or_true, false_or, or_false, eq_self, Nat.add_zero]
      exact h
    · rw [if_pos (by omega), if_pos (by omega)] at h
      refine vX12_unlinkOf_175 (dr := d - 1) (by omega) (by omega) ?_
      simp (disch := omega) only [forall_eq, true_and, and_true, false_and, and_false, forall_const, true_implies, implies_true, not_true_eq_false, not_false_eq_true, false_implies, if_true, if_false, ↓reduceIte, Int.toNat_natCast, Int.reduceEq, Int.reduceNe, Int.reduceLT, Int.reduceLE, Int.reduceToNat, Int.reduceAdd, Int.reduceSub, Int.reduceMul, Int.reduceNeg, Nat.reduceAdd, Nat.reduceMul, Nat.reduceSub, iI_lit, jI_lit, iI_add, iI_sub, iI_mul, iI_neg, jI_add, jI_sub, jI_mul, jI_neg, nI_i, lN_j, iI_le, iI_lt, iI_eq, jI_le, jI_lt, jI_eq, iI_in, iI_cl, iI_j, jI_i, cN, inN, wI_eq, wI_ne, wJ_1, wJ_eq, wJ_ne, wI_2, wJ_3, iI_div, iI_rem, jI_div, jI_rem, true_or, or_true, false_or, or_false, eq_self, Nat.add_zero]
      refine vX12_unlinkOf_195 (dr := d - 1) (by omega) (by omega) ?_
      simp (disch := omega) only [forall_eq, true_and, and_true, false_and, and_false, forall_const, true_implies, implies_true, not_true_eq_false, not_false_eq_true, false_implies, if_true, if_false, ↓reduceIte, Int.toNat_natCast, Int.reduceEq, Int.reduceNe, Int.reduceLT, Int.reduceLE, Int.reduceToNat, Int.reduceAdd, Int.reduceSub, Int.reduceMul, Int.reduceNeg, Nat.reduceAdd, Nat.reduceMul, Nat.reduceSub, iI_lit, jI_lit, iI_add, iI_sub, iI_mul, iI_neg, jI_add, jI_sub, jI_mul, jI_neg, nI_i, lN_j, iI_le, iI_lt, iI_eq, jI_le, jI_lt, jI_eq, iI_in, iI_cl, iI_j, jI_i, cN, inN, wI_eq, wI_ne, wJ_1, wJ_eq, wJ_ne, wI_2, wJ_3, iI_div, iI_rem, jI_div, jI_rem, true_or, or_true, false_or, or_false, eq_self, Nat.add_zero]
      exact h
  refine vX12_unlinkOf_124 (dr := d - 1) hly (by omega) (by omega) ?_
  simp (disch := omega) only [forall_eq, true_and, and_true, false_and, and_false, forall_const, true_implies, implies_true, not_true_eq_false, not_false_eq_true, false_implies, if_true, if_false, ↓reduceIte, Int.toNat_natCast, Int.reduceEq, Int.reduceNe, Int.reduceLT, Int.reduceLE, Int.reduceToNat, Int.reduceAdd, Int.reduceSub, Int.reduceMul, Int.reduceNeg, Nat.reduceAdd, Nat.reduceMul, Nat.reduceSub, iI_lit, jI_lit, iI_add, iI_sub, iI_mul, iI_neg, jI_add, jI_sub, jI_mul, jI_neg, nI_i, lN_j, iI_le, iI_lt, iI_eq, jI_le, jI_lt, jI_eq, iI_in, iI_cl, iI_j, jI_i, cN, inN, wI_eq, wI_ne, wJ_1, wJ_eq, wJ_ne, wI_2, wJ_3, iI_div, iI_rem, jI_div, jI_rem, true_or, or_true, false_or, or_false, eq_self, Nat.add_zero, u1, e, ht]
  refine ⟨by omega, fun q => go 0 ?_, fun q => go 2 ?_⟩
  · rw [chg, if_neg (by omega), Int.sub_zero]
  · rw [chg, if_pos (by omega)]
theorem c12_unlinkOf (hly : ∀ S, L S → ly S) : ∀ (f : Nat) (P R : Int) (lv d : Nat) (m : sm_M) (Q : Int32 → sm_M → Prop), isNm P R → P ≤ 16777216 → (2 ≤ P → szN P R ≤ f ∧ szN P R + lv ≤ 12 ∧ lv ≤ 9) → lv ≤ 10 → f + 5 ≤ d → (∀ m', fr (ulP lv) m m' → (2 ≤ P → m'.1 109 64 = iI (bstG (unl (f - 1)) P R (tmN P R)).2) → Q (iI (unl f P R)) m') → sm_callI E L mX12_unlinkOf d 0 0 [.ref (sm_B E + 109), .long (jI P), .long (jI R), .int (iI (lv : Nat))] m Q := by
  intro f
  induction f with
  | zero =>
    intro P R lv d m Q hn hP hf hlv hd h
    have h2 : ¬ 2 ≤ P := fun q => by
      have := szN_2 ⟨q, hP, hn⟩
      have := hf q
      omega
    have hb := hn.bd
    refine vX12_unlinkOf_0 (dr := d - 1) hly (by omega) (by omega) ?_
    simp (disch := omega) only [forall_eq, true_and, and_true, false_and, and_false, forall_const, true_implies, implies_true, not_true_eq_false, not_false_eq_true, false_implies, if_true, if_false, ↓reduceIte, Int.toNat_natCast, Int.reduceEq, Int.reduceNe, Int.reduceLT, Int.reduceLE, Int.reduceToNat, Int.reduceAdd, Int.reduceSub, Int.reduceMul, Int.reduceNeg, Nat.reduceAdd, Nat.reduceMul, Nat.reduceSub, iI_lit, jI_lit, iI_add, iI_sub, iI_mul, iI_neg, jI_add, jI_sub, jI_mul, jI_neg, nI_i, lN_j, iI_le, iI_lt, iI_eq, jI_le, jI_lt, jI_eq, iI_in, iI_cl, iI_j, jI_i, cN, inN, wI_eq, wI_ne, wJ_1, wJ_eq, wJ_ne, wI_2, wJ_3, iI_div, iI_rem, jI_div, jI_rem, true_or, or_true, false_or, or_false, eq_self, Nat.add_zero, h2]
    exact h m fr.rf (fun q => absurd q h2)
  | succ f ih =>
    intro P R lv d m Q hn hP hf hlv hd h
    have hb := hn.bd
    by_cases h2 : 2 ≤ P
    rotate_left
    · refine vX12_unlinkOf_0 (dr := d - 1) hly (by omega) (by omega) ?_
      simp (disch := omega) only [forall_eq, true_and, and_true, false_and, and_false, forall_const, true_implies, implies_true, not_true_eq_false, not_false_eq_true, false_implies, if_true, if_false, ↓reduceIte, Int.toNat_natCast, Int.reduceEq, Int.reduceNe, Int.reduceLT, Int.reduceLE, Int.reduceToNat, Int.reduceAdd, Int.reduceSub, Int.reduceMul, Int.reduceNeg, Nat.reduceAdd, Nat.reduceMul, Nat.reduceSub, iI_lit, jI_lit, iI_add, iI_sub, iI_mul, iI_neg, jI_add, jI_sub, jI_mul, jI_neg, nI_i, lN_j, iI_le, iI_lt, iI_eq, jI_le, jI_lt, jI_eq, iI_in, iI_cl, iI_j, jI_i, cN, inN, wI_eq, wI_ne, wJ_1, wJ_eq, wJ_ne, wI_2, wJ_3, iI_div, iI_rem, jI_div, jI_rem, true_or, or_true, false_or, or_false, eq_self, Nat.add_zero, h2]
      have h9 := h m fr.rf (fun q => absurd q h2)
      rw [unl_low (by omega)] at h9
      exact h9
    have hT : nmT P R := ⟨h2, hP, hn⟩
    obtain ⟨hf1, hf2, hlv9⟩ := hf h2
    have hs12 : szN P R ≤ 12 := by omega
    obtain ⟨m1, m2, m3, m4⟩ := tmN_is hT
    have hMs := tmN_le hT
    have hbP := hT.bd
    -- the places
    have places : ∀ (r k : Nat) (m3 : sm_M), k + r = tmN P R → fr (ulP lv) m m3 → (∀ i, i < tmN P R → m3.2.1 145 (16 * lv + i) = jI (tm P R i)) → m3.1 146 lv = iI (tmN P R : Nat) → gX12_unlinkOf_95 E L d [.ref (sm_B E + 109), .long (jI P), .long (jI R), .int (iI (lv : Nat))] (iI (lv : Nat)) (jI (szN P R : Nat)) (iI (16 * (lv : Int))) (iI (bstG (unl f) P R k).1) (iI (bstG (unl f) P R k).2) (iI (k : Nat)) m3 Q := by
      intro r
      induction r with
      | zero =>
        intro k m3 hk f3 ht hM1
        have hkM : k = tmN P R := by omega
        subst hkM
        have e : unl (f + 1) P R = (bstG (unl f) P R (tmN P R)).1 + 1 := if_neg (by omega)
        refine vX12_unlinkOf_95 (dr := d - 1) hly (by omega) (by omega) ?_
        simp (disch := omega) only [forall_eq, true_and, and_true, false_and, and_false, forall_const, true_implies, implies_true, not_true_eq_false, not_false_eq_true, false_implies, if_true, if_false, ↓reduceIte, Int.toNat_natCast, Int.reduceEq, Int.reduceNe, Int.reduceLT, Int.reduceLE, Int.reduceToNat, Int.reduceAdd, Int.reduceSub, Int.reduceMul, Int.reduceNeg, Nat.reduceAdd, Nat.reduceMul, Nat.reduceSub, iI_lit, jI_lit, iI_add, iI_sub, iI_mul, iI_neg, jI_add, jI_sub, jI_mul, jI_neg, nI_i, lN_j, iI_le, iI_lt, iI_eq, jI_le, jI_lt, jI_eq, iI_in, iI_cl, iI_j, jI_i, cN, inN, wI_eq, wI_ne, wJ_1, wJ_eq, wJ_ne, wI_2, wJ_3, iI_div, iI_rem, jI_div, jI_rem, true_or, or_true, false_or, or_false, eq_self, Nat.add_zero, hM1, Int.le_refl]
        refine ⟨by omega, ?_⟩
        have h9 := h (sm_wI m3 109 64 (iI (bstG (unl f) P R (tmN P R)).2)) (f3.wI (by unfold ulP; omega)) (fun _ => wI_eq rfl rfl)
        rw [e] at h9
        exact h9
      | succ r ihr =>
        intro k m3 hk f3 ht hM1
        have nx := ihr (k + 1)
        clear ihr
        have hkM : k < tmN P R := by omega
        obtain ⟨n1, n2, n3, n4⟩ := nxt_is hT hs12 k
        have hnb := n1.bd
        have hg := ctF_cop (chg (tm P R) k) (tmN P R) (tmN P R)
        have hfo := f_one hg
        have hnm := (nm_f hg).1
        have hbst := bst_bd (f := f) hT hs12 k
        have eb : bstG (unl f) P R (k + 1) = if szN (nxt P R k).1 (nxt P R k).2 < szN P R then (if (bstG (unl f) P R k).1 < 0 ∨ unl f (nxt P R k).1 (nxt P R k).2 < (bstG (unl f) P R k).1 then (unl f (nxt P R k).1 (nxt P R k).2, (k : Int)) else bstG (unl f) P R k) else bstG (unl f) P R k := rfl
        -- all terms are taken in
        have fin : gX12_unlinkOf_124 E L d [.ref (sm_B E + 109), .long (jI P), .long (jI R), .int (iI (lv : Nat))] (iI (lv : Nat)) (jI (szN P R : Nat)) (iI (16 * (lv : Int))) (iI (bstG (unl f) P R k).1) (iI (bstG (unl f) P R k).2) (iI (k : Nat)) (jI (ctF (chg (tm P R) k) (tmN P R) (tmN P R)).1) (jI (ctF (chg (tm P R) k) (tmN P R) (tmN P R)).2) (iI (-1)) m3 Q := by
          refine vX12_unlinkOf_124 (dr := d - 1) hly (by omega) (by omega) ?_
          simp (disch := omega) only [forall_eq, true_and, and_true, false_and, and_false, forall_const, true_implies, implies_true, not_true_eq_false, not_false_eq_true, false_implies, if_true, if_false, ↓reduceIte, Int.toNat_natCast, Int.reduceEq, Int.reduceNe, Int.reduceLT, Int.reduceLE, Int.reduceToNat, Int.reduceAdd, Int.reduceSub, Int.reduceMul, Int.reduceNeg, Nat.reduceAdd, Nat.reduceMul, Nat.reduceSub, iI_lit, jI_lit, iI_add, iI_sub, iI_mul, iI_neg, jI_add, jI_sub, jI_mul, jI_neg, nI_i, lN_j, iI_le, iI_lt, iI_eq, jI_le, jI_lt, jI_eq, iI_in, iI_cl, iI_j, jI_i, cN, inN, wI_eq, wI_ne, wJ_1, wJ_eq, wJ_ne, wI_2, wJ_3, iI_div, iI_rem, jI_div, jI_rem, true_or, or_true, false_or, or_false, eq_self, Nat.add_zero]
          refine c12_fractionOf hly (by omega) (by omega) (fun m4 f4 hpq => ?_)
          obtain ⟨p1, p2⟩ := hpq (by rw [hg]; decide)
          rw [p1, p2]
          have hgf : Int.gcd (fP (ctF (chg (tm P R) k) (tmN P R) (tmN P R)).1 (ctF (chg (tm P R) k) (tmN P R) (tmN P R)).2) (fQ (ctF (chg (tm P R) k) (tmN P R) (tmN P R)).1 (ctF (chg (tm P R) k) (tmN P R) (tmN P R)).2) = 1 := by
            rcases hfo with ⟨q1, q2⟩ | ⟨q1, q2⟩
            · rw [q1, q2]; exact hg
            · rw [q1, q2, Int.neg_gcd, Int.gcd_neg]; exact hg
          refine c12_namesFraction hly (by omega) (by omega) (by omega) (by omega) (by omega) hgf (fun m5 f5 e5 e6 => ?_)
          rw [hnm] at e5 e6
          have e5' : m5.2.1 109 60 = jI (nxt P R k).1 := e5
          have e6' : m5.2.1 109 61 = jI (nxt P R k).2 := e6
          rw [e5', e6']
          refine c12_sz hly (by omega) n1 (by omega) (fun m6 f6 => ?_)
          have f36 : fr (ulP lv) m3 m6 := (f4.mono (fun a k q => by unfold ulP; omega)).tr ((f5.mono (fun a k q => ulP_nb q)).tr (f6.mono (fun a k q => ulP_te q)))
          have f36' : ∀ (a k : Nat), (a = 145 ∨ a = 146) → m6.1 a k = m3.1 a k ∧ m6.2.1 a k = m3.2.1 a k := by
            intro a k hak
            refine ⟨(f6.i (by unfold teP; omega)).trans ((f5.i (by unfold nbP; omega)).trans (f4.i (by omega))), (f6.j (by unfold teP; omega)).trans ((f5.j (by unfold nbP; omega)).trans (f4.j (by omega)))⟩
          have t6 : ∀ i, i < tmN P R → m6.2.1 145 (16 * lv + i) = jI (tm P R i) := fun i hi => (f36' 145 _ (Or.inl rfl)).2.trans (ht i hi)
          have M6 : m6.1 146 lv = iI (tmN P R : Nat) := (f36' 146 _ (Or.inr rfl)).1.trans hM1
          have g5 : m6.2.1 109 60 = jI (nxt P R k).1 := (f6.j (by unfold teP; omega)).trans e5'
          have g6 : m6.2.1 109 61 = jI (nxt P R k).2 := (f6.j (by unfold teP; omega)).trans e6'
          have hszb := nxt_sz (P := P) (Q := R) k
          have hszc := sN_chg hT k
          rw [g5, g6]
          simp (disch := omega) only [forall_eq, true_and, and_true, false_and, and_false, forall_const, true_implies, implies_true, not_true_eq_false, not_false_eq_true, false_implies, if_true, if_false, ↓reduceIte, Int.toNat_natCast, Int.reduceEq, Int.reduceNe, Int.reduceLT, Int.reduceLE, Int.reduceToNat, Int.reduceAdd, Int.reduceSub, Int.reduceMul, Int.reduceNeg, Nat.reduceAdd, Nat.reduceMul, Nat.reduceSub, iI_lit, jI_lit, iI_add, iI_sub, iI_mul, iI_neg, jI_add, jI_sub, jI_mul, jI_neg, nI_i, lN_j, iI_le, iI_lt, iI_eq, jI_le, jI_lt, jI_eq, iI_in, iI_cl, iI_j, jI_i, cN, inN, wI_eq, wI_ne, wJ_1, wJ_eq, wJ_ne, wI_2, wJ_3, iI_div, iI_rem, jI_div, jI_rem, true_or, or_true, false_or, or_false, eq_self, Nat.add_zero]
          refine ⟨fun q => ?_, fun q => ?_⟩
          · rw [if_neg (by omega)] at eb
            have n9 := nx m6 (by omega) (f3.tr f36) t6 M6
            rw [eb] at n9
            exact n9
          · rw [if_pos (by omega)] at eb
            have hul := unl_le f (nxt P R k).1 (nxt P R k).2 (by
              by_cases hp2 : (nxt P R k).1 < 2
              · exact Or.inl hp2
              · exact Or.inr ⟨nxt_T hT hs12 (by omega), by omega⟩)
            have hun := unl_nn f (nxt P R k).1 (nxt P R k).2
            have e7 : (lv : Int) + 1 = ((lv + 1 : Nat) : Int) := by omega
            rw [e7]
            refine ih (nxt P R k).1 (nxt P R k).2 (lv + 1) (d - 1) m6 _ n1 (by omega) (fun hq2 => ⟨by omega, by omega, ?_⟩) (by omega) (by omega) (fun m7 f7 _ => ?_)
            · apply Classical.byContradiction
              intro hlv10
              have := nxt_small hT (by omega) hkM
              omega
            have f37 : fr (ulP lv) m3 m7 := f36.tr (f7.mono (fun a k q => ulP_up q))
            have t7 : ∀ i, i < tmN P R → m7.2.1 145 (16 * lv + i) = jI (tm P R i) := fun i hi => (f7.j (by unfold ulP; omega)).trans (t6 i hi)
            have M7 : m7.1 146 lv = iI (tmN P R : Nat) := (f7.i (by unfold ulP; omega)).trans M6
            have n9 := nx m7 (by omega) (f3.tr f37) t7 M7
            rw [eb] at n9
            generalize unl f (nxt P R k).1 (nxt P R k).2 = U at *
            generalize (bstG (unl f) P R k) = B at *
            simp (disch := omega) only [forall_eq, true_and, and_true, false_and, and_false, forall_const, true_implies, implies_true, not_true_eq_false, not_false_eq_true, false_implies, if_true, if_false, ↓reduceIte, Int.toNat_natCast, Int.reduceEq, Int.reduceNe, Int.reduceLT, Int.reduceLE, Int.reduceToNat, Int.reduceAdd, Int.reduceSub, Int.reduceMul, Int.reduceNeg, Nat.reduceAdd, Nat.reduceMul, Nat.reduceSub, iI_lit, jI_lit, iI_add, iI_sub, iI_mul, iI_neg, jI_add, jI_sub, jI_mul, jI_neg, nI_i, lN_j, iI_le, iI_lt, iI_eq, jI_le, jI_lt, jI_eq, iI_in, iI_cl, iI_j, jI_i, cN, inN, wI_eq, wI_ne, wJ_1, wJ_eq, wJ_ne, wI_2, wJ_3, iI_div, iI_rem, jI_div, jI_rem, true_or, or_true, false_or, or_false, eq_self, Nat.add_zero]
            refine ⟨fun q1 => ?_, fun q1 => ⟨fun q2 => ?_, fun q2 => ?_⟩⟩
            · rw [if_pos (Or.inl q1)] at n9
              refine vX12_unlinkOf_296 (dr := d - 1) (by omega) (by omega) ?_
              simp (disch := omega) only [forall_eq, true_and, and_true, false_and, and_false, forall_const, true_implies, implies_true, not_true_eq_false, not_false_eq_true, false_implies, if_true, if_false, ↓reduceIte, Int.toNat_natCast, Int.reduceEq, Int.reduceNe, Int.reduceLT, Int.reduceLE, Int.reduceToNat, Int.reduceAdd, Int.reduceSub, Int.reduceMul, Int.reduceNeg, Nat.reduceAdd, Nat.reduceMul, Nat.reduceSub, iI_lit, jI_lit, iI_add, iI_sub, iI_mul, iI_neg, jI_add, jI_sub, jI_mul, jI_neg, nI_i, lN_j, iI_le, iI_lt, iI_eq, jI_le, jI_lt, jI_eq, iI_in, iI_cl, iI_j, jI_i, cN, inN, wI_eq, wI_ne, wJ_1, wJ_eq, wJ_ne, wI_2, wJ_3, iI_div, iI_rem, jI_div, jI_rem, true_or, or_true, false_or, or_false, eq_self, Nat.add_zero, q1]
              exact n9
            · rw [if_neg (by omega)] at n9
              refine vX12_unlinkOf_296 (dr := d - 1) (by omega) (by omega) ?_
              simp (disch := omega) only [forall_eq, true_and, and_true, false_and, and_false, forall_const, true_implies, implies_true, not_true_eq_false, not_false_eq_true, false_implies, if_true, if_false, ↓reduceIte, Int.toNat_natCast, Int.reduceEq, Int.reduceNe, Int.reduceLT, Int.reduceLE, Int.reduceToNat, Int.reduceAdd, Int.reduceSub, Int.reduceMul, Int.reduceNeg, Nat.reduceAdd, Nat.reduceMul, Nat.reduceSub, iI_lit, jI_lit, iI_add, iI_sub, iI_mul, iI_neg, jI_add, jI_sub, jI_mul, jI_neg, nI_i, lN_j, iI_le, iI_lt, iI_eq, jI_le, jI_lt, jI_eq, iI_in, iI_cl, iI_j, jI_i, cN, inN, wI_eq, wI_ne, wJ_1, wJ_eq, wJ_ne, wI_2, wJ_3, iI_div, iI_rem, jI_div, jI_rem, true_or, or_true, false_or, or_false, eq_self, Nat.add_zero, q1, q2]
              exact n9
            · rw [if_pos (Or.inr (by omega))] at n9
              refine vX12_unlinkOf_296 (dr := d - 1) (by omega) (by omega) ?_
              simp (disch := omega) only [forall_eq, true_and, and_true, false_and, and_false, forall_const, true_implies, implies_true, not_true_eq_false, not_false_eq_true, false_implies, if_true, if_false, ↓reduceIte, Int.toNat_natCast, Int.reduceEq, Int.reduceNe, Int.reduceLT, Int.reduceLE, Int.reduceToNat, Int.reduceAdd, Int.reduceSub, Int.reduceMul, Int.reduceNeg, Nat.reduceAdd, Nat.reduceMul, Nat.reduceSub, iI_lit, jI_lit, iI_add, iI_sub, iI_mul, iI_neg, jI_add, jI_sub, jI_mul, jI_neg, nI_i, lN_j, iI_le, iI_lt, iI_eq, jI_le, jI_lt, jI_eq, iI_in, iI_cl, iI_j, jI_i, cN, inN, wI_eq, wI_ne, wJ_1, wJ_eq, wJ_ne, wI_2, wJ_3, iI_div, iI_rem, jI_div, jI_rem, true_or, or_true, false_or, or_false, eq_self, Nat.add_zero, q1, q2]
              exact n9
        have lp : ∀ (r2 j : Nat), j + r2 = tmN P R → 1 ≤ j → gX12_unlinkOf_124 E L d [.ref (sm_B E + 109), .long (jI P), .long (jI R), .int (iI (lv : Nat))] (iI (lv : Nat)) (jI (szN P R : Nat)) (iI (16 * (lv : Int))) (iI (bstG (unl f) P R k).1) (iI (bstG (unl f) P R k).2) (iI (k : Nat)) (jI (ctF (chg (tm P R) k) (tmN P R) j).1) (jI (ctF (chg (tm P R) k) (tmN P R) j).2) (iI ((tmN P R : Int) - 1 - (j : Int))) m3 Q := by
          intro r2
          induction r2 with
          | zero =>
            intro j hj hj1
            have hjM : j = tmN P R := by omega
            subst hjM
            rw [show ((tmN P R : Int) - 1 - (tmN P R : Int)) = -1 by omega]
            exact fin
          | succ r2 ih2 =>
            intro j hj hj1
            have n2' := ih2 (j + 1) (by omega) (by omega)
            clear ih2
            obtain ⟨i, hi⟩ : ∃ i : Nat, i = tmN P R - 1 - j := ⟨_, rfl⟩
            have e1 : ((tmN P R : Int) - 1 - (j : Int)) = (i : Int) := by omega
            have e2 : ((tmN P R : Int) - 1 - ((j + 1 : Nat) : Int)) = (i : Int) + -1 := by omega
            have e3 : (ctF (chg (tm P R) k) (tmN P R) (j + 1)) = (chg (tm P R) k i * (ctF (chg (tm P R) k) (tmN P R) j).1 + (ctF (chg (tm P R) k) (tmN P R) j).2, (ctF (chg (tm P R) k) (tmN P R) j).1) := by rw [hi]; rfl
            rw [e2, e3] at n2'
            rw [e1]
            refine u_step (t := tm P R) (M := tmN P R) hly (by omega) hlv9 (by omega) (by omega) hkM hM1 (ht i (by omega)) ?_
            rw [if_neg (by omega), if_neg (by omega)]
            exact n2'
        have u : ¬ ((tmN P R : Int) ≤ (k : Int)) := by omega
        refine vX12_unlinkOf_95 (dr := d - 1) hly (by omega) (by omega) ?_
        simp (disch := omega) only [forall_eq, true_and, and_true, false_and, and_false, forall_const, true_implies, implies_true, not_true_eq_false, not_false_eq_true, false_implies, if_true, if_false, ↓reduceIte, Int.toNat_natCast, Int.reduceEq, Int.reduceNe, Int.reduceLT, Int.reduceLE, Int.reduceToNat, Int.reduceAdd, Int.reduceSub, Int.reduceMul, Int.reduceNeg, Nat.reduceAdd, Nat.reduceMul, Nat.reduceSub, iI_lit, jI_lit, iI_add, iI_sub, iI_mul, iI_neg, jI_add, jI_sub, jI_mul, jI_neg, nI_i, lN_j, iI_le, iI_lt, iI_eq, jI_le, jI_lt, jI_eq, iI_in, iI_cl, iI_j, jI_i, cN, inN, wI_eq, wI_ne, wJ_1, wJ_eq, wJ_ne, wI_2, wJ_3, iI_div, iI_rem, jI_div, jI_rem, true_or, or_true, false_or, or_false, eq_self, Nat.add_zero, hM1, u]
        refine ⟨by omega, by omega, ?_⟩
        obtain ⟨i, hi⟩ : ∃ i : Nat, i = tmN P R - 1 := ⟨_, rfl⟩
        have l1 := lp (tmN P R - 1) 1 (by omega) (by omega)
        have e3 : (ctF (chg (tm P R) k) (tmN P R) 1) = (chg (tm P R) k i, 1) := by
          show (chg (tm P R) k (tmN P R - 1 - 0) * 1 + 0, (1 : Int)) = _
          rw [hi, Nat.sub_zero, Int.mul_one, Int.add_zero]
        rw [e3, show ((tmN P R : Int) - 1 - ((1 : Nat) : Int)) = (i : Int) + -1 by omega] at l1
        rw [show ((tmN P R : Int) - 1) = (i : Int) by omega]
        refine u_step (t := tm P R) (M := tmN P R) hly (by omega) hlv9 (by omega) (by omega) hkM hM1 (ht i (by omega)) ?_
        rw [if_pos (by omega), if_pos (by omega)]
        exact l1
    -- the terms
    have fill : ∀ (r j : Nat) (m2 : sm_M), j + r = tmN P R → fr (ulP lv) m m2 → (∀ i, i < j → m2.2.1 145 (16 * lv + i) = jI (tm P R i)) → gX12_unlinkOf_34 E L d [.ref (sm_B E + 109), .long (jI P), .long (jI R), .int (iI (lv : Nat))] (iI (lv : Nat)) (jI (szN P R : Nat)) (iI (16 * (lv : Int))) (iI (j : Nat)) (jI (rst 3 P R j).1) (jI (rst 3 P R j).2) m2 Q := by
      intro r
      induction r with
      | zero =>
        intro j m2 hj f2 ht
        have hjM : j = tmN P R := by omega
        subst hjM
        refine vX12_unlinkOf_34 (dr := d - 1) hly (by omega) (by omega) ?_
        rw [m3]
        simp (disch := omega) only [forall_eq, true_and, and_true, false_and, and_false, forall_const, true_implies, implies_true, not_true_eq_false, not_false_eq_true, false_implies, if_true, if_false, ↓reduceIte, Int.toNat_natCast, Int.reduceEq, Int.reduceNe, Int.reduceLT, Int.reduceLE, Int.reduceToNat, Int.reduceAdd, Int.reduceSub, Int.reduceMul, Int.reduceNeg, Nat.reduceAdd, Nat.reduceMul, Nat.reduceSub, iI_lit, jI_lit, iI_add, iI_sub, iI_mul, iI_neg, jI_add, jI_sub, jI_mul, jI_neg, nI_i, lN_j, iI_le, iI_lt, iI_eq, jI_le, jI_lt, jI_eq, iI_in, iI_cl, iI_j, jI_i, cN, inN, wI_eq, wI_ne, wJ_1, wJ_eq, wJ_ne, wI_2, wJ_3, iI_div, iI_rem, jI_div, jI_rem, true_or, or_true, false_or, or_false, eq_self, Nat.add_zero]
        refine ⟨by omega, ?_⟩
        have p0 := places (tmN P R) 0 (sm_wI m2 146 lv (iI (tmN P R : Nat))) (by omega) (f2.wI (by unfold ulP; omega)) (fun i hi => ht i hi) (wI_eq rfl rfl)
        exact p0
      | succ r ihr =>
        intro j m2 hj f2 ht
        have nx := ihr (j + 1)
        clear ihr
        obtain ⟨f1', f2', f3⟩ := rst_floor (u := P) (v := R) (by omega) (by omega) j (fun i hi => m4 i (by omega))
        have hk0 := m4 j (by omega)
        have hbd := rst_bd (how := 3) (u := P) (v := R) (B := 16777216) (by omega) (by omega) (by omega) j (fun i hi => m4 i (by omega))
        have htm : tm P R j = (rst 3 P R j).1 / (rst 3 P R j).2 := rfl
        rw [f3 hk0] at nx
        refine vX12_unlinkOf_34 (dr := d - 1) hly (by omega) (by omega) ?_
        generalize (rst 3 P R j).1 = x at *
        generalize (rst 3 P R j).2 = y at *
        have ed : x.tdiv y = x / y := Int.tdiv_eq_ediv_of_nonneg f1'
        have er : x.tmod y = x % y := Int.tmod_eq_emod_of_nonneg f1'
        have e : (16 * (lv : Int) + (j : Int)).toNat = 16 * lv + j := by omega
        simp (disch := omega) only [forall_eq, true_and, and_true, false_and, and_false, forall_const, true_implies, implies_true, not_true_eq_false, not_false_eq_true, false_implies, if_true, if_false, ↓reduceIte, Int.toNat_natCast, Int.reduceEq, Int.reduceNe, Int.reduceLT, Int.reduceLE, Int.reduceToNat, Int.reduceAdd, Int.reduceSub, Int.reduceMul, Int.reduceNeg, Nat.reduceAdd, Nat.reduceMul, Nat.reduceSub, iI_lit, jI_lit, iI_add, iI_sub, iI_mul, iI_neg, jI_add, jI_sub, jI_mul, jI_neg, nI_i, lN_j, iI_le, iI_lt, iI_eq, jI_le, jI_lt, jI_eq, iI_in, iI_cl, iI_j, jI_i, cN, inN, wI_eq, wI_ne, wJ_1, wJ_eq, wJ_ne, wI_2, wJ_3, iI_div, iI_rem, jI_div, jI_rem, true_or, or_true, false_or, or_false, eq_self, Nat.add_zero, hk0, ed, er, e]
        refine ⟨by omega, nx _ (by omega) (f2.wJ (by unfold ulP; omega)) (fun i hi => ?_)⟩
        by_cases hij : i = j
        · rw [wJ_eq rfl (by rw [hij]), hij, htm]
        · rw [wJ_ne (Or.inr (by omega))]
          exact ht i (by omega)
    refine vX12_unlinkOf_0 (dr := d - 1) hly (by omega) (by omega) ?_
    simp (disch := omega) only [forall_eq, true_and, and_true, false_and, and_false, forall_const, true_implies, implies_true, not_true_eq_false, not_false_eq_true, false_implies, if_true, if_false, ↓reduceIte, Int.toNat_natCast, Int.reduceEq, Int.reduceNe, Int.reduceLT, Int.reduceLE, Int.reduceToNat, Int.reduceAdd, Int.reduceSub, Int.reduceMul, Int.reduceNeg, Nat.reduceAdd, Nat.reduceMul, Nat.reduceSub, iI_lit, jI_lit, iI_add, iI_sub, iI_mul, iI_neg, jI_add, jI_sub, jI_mul, jI_neg, nI_i, lN_j, iI_le, iI_lt, iI_eq, jI_le, jI_lt, jI_eq, iI_in, iI_cl, iI_j, jI_i, cN, inN, wI_eq, wI_ne, wJ_1, wJ_eq, wJ_ne, wI_2, wJ_3, iI_div, iI_rem, jI_div, jI_rem, true_or, or_true, false_or, or_false, eq_self, Nat.add_zero, h2]
    refine c12_sz hly (by omega) hn hP (fun mm f1 => ?_)
    exact fill (tmN P R) 0 mm (by omega) (f1.mono (fun a k q => ulP_te q)) (fun i hi => absurd hi (Nat.not_lt_zero _))
end MUN
