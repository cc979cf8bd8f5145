/-! the class: size, terms, changes -/
section CUN
variable {E : sm_E} {L : sm_S → Prop} {d d1 d2 : Nat} {m : sm_M}
theorem c_sizeOf {Q : Int32 → sm_M → Prop} {P R : Int} (hd : 2 ≤ d) (hn : isNm P R) (hP : P ≤ 16777216) (h : Q (iI (szN P R : Nat)) m) : sm_callI E L mX6_sizeOf d 0 0 [.long (pk P R)] m Q := by
  have hb := hn.bd
  refine vX6_sizeOf_0 hd (c_topOf (by omega) (by omega) (by omega) (c_bottomOf (by omega) ⟨fun z => ?_, fun z => ?_⟩))
  · simp (disch := omega) only [forall_eq, true_and, and_true, false_and, and_false, forall_const, true_implies, implies_true, not_true_eq_false, not_false_eq_true, false_implies, if_true, if_false, ↓reduceIte, Int.toNat_natCast, Int.reduceEq, Int.reduceNe, Int.reduceLT, Int.reduceLE, Int.reduceToNat, Int.reduceAdd, Int.reduceSub, Int.reduceMul, Int.reduceNeg, Nat.reduceAdd, Nat.reduceMul, Nat.reduceSub, iI_lit, jI_lit, iI_add, iI_sub, iI_mul, iI_neg, jI_add, jI_sub, jI_mul, jI_neg, nI_i, lN_j, iI_le, iI_lt, iI_eq, jI_le, jI_lt, jI_eq, iI_in, iI_cl, iI_j, jI_i, cN, inN, wI_eq, wI_ne, wJ_1, wJ_eq, wJ_ne, wI_2, wJ_3, iI_div, iI_rem, jI_div, jI_rem, true_or, or_true, false_or, or_false, eq_self, Nat.add_zero] at z
    have hT : nmT P R := ⟨by omega, hP, hn⟩
    obtain ⟨m1, m2, m3, m4⟩ := tmN_is hT
    have e := (szN_is hT).2
    rw [← e] at h
    exact c_sizeOf_loop hd (by omega) (by omega) (by omega) (by omega) m2 m3 m4 h (tmN P R) 0 (by omega)
  · simp (disch := omega) only [forall_eq, true_and, and_true, false_and, and_false, forall_const, true_implies, implies_true, not_true_eq_false, not_false_eq_true, false_implies, if_true, if_false, ↓reduceIte, Int.toNat_natCast, Int.reduceEq, Int.reduceNe, Int.reduceLT, Int.reduceLE, Int.reduceToNat, Int.reduceAdd, Int.reduceSub, Int.reduceMul, Int.reduceNeg, Nat.reduceAdd, Nat.reduceMul, Nat.reduceSub, iI_lit, jI_lit, iI_add, iI_sub, iI_mul, iI_neg, jI_add, jI_sub, jI_mul, jI_neg, nI_i, lN_j, iI_le, iI_lt, iI_eq, jI_le, jI_lt, jI_eq, iI_in, iI_cl, iI_j, jI_i, cN, inN, wI_eq, wI_ne, wJ_1, wJ_eq, wJ_ne, wI_2, wJ_3, iI_div, iI_rem, jI_div, jI_rem, true_or, or_true, false_or, or_false, eq_self, Nat.add_zero] at z
    have e : szN P R = 0 := if_pos (by omega)
    rw [e] at h
    exact h
theorem c12_sz {Q : Int64 → sm_M → Prop} {P R : Int} (hly : ∀ S, L S → ly S) (hd : 2 ≤ d) (hn : isNm P R) (hP : P ≤ 16777216) (h : ∀ m', fr teP m m' → Q (jI (szN P R : Nat)) m') : sm_callJ E L mX12_sizeOf d 0 0 [.ref (sm_B E + 109), .long (jI P), .long (jI R)] m Q := by
  have hb := hn.bd
  by_cases h2 : 2 ≤ P
  · have hT : nmT P R := ⟨h2, hP, hn⟩
    obtain ⟨m1, m2, m3, m4⟩ := tmN_is hT
    have e := (szN_is hT).2
    refine c12_sizeOf hly hd h2 (by omega) (by omega) (by omega) m2 m3 m4 (fun m' f' => ?_)
    rw [e]
    exact h m' f'
  · have e : szN P R = 0 := if_pos (by omega)
    refine vX12_sizeOf_0 hly hd ?_
    simp (disch := omega) only [forall_eq, true_and, and_true, false_and, and_false, forall_const, true_implies, implies_true, not_true_eq_false, not_false_eq_true, false_implies, if_true, if_false, ↓reduceIte, Int.toNat_natCast, Int.reduceEq, Int.reduceNe, Int.reduceLT, Int.reduceLE, Int.reduceToNat, Int.reduceAdd, Int.reduceSub, Int.reduceMul, Int.reduceNeg, Nat.reduceAdd, Nat.reduceMul, Nat.reduceSub, iI_lit, jI_lit, iI_add, iI_sub, iI_mul, iI_neg, jI_add, jI_sub, jI_mul, jI_neg, nI_i, lN_j, iI_le, iI_lt, iI_eq, jI_le, jI_lt, jI_eq, iI_in, iI_cl, iI_j, jI_i, cN, inN, wI_eq, wI_ne, wJ_1, wJ_eq, wJ_ne, wI_2, wJ_3, iI_div, iI_rem, jI_div, jI_rem, true_or, or_true, false_or, or_false, eq_self, Nat.add_zero, h2]
    have := h m fr.rf
    rw [e] at this
    exact this
theorem c_spread {Q : Int32 → sm_M → Prop} {P R : Int} {a : Nat} (hT : ∀ S, L S → sm_K S a = 11 ∧ sm_N S a = 12) (hd : 2 ≤ d) (hn : nmT P R) (hs : szN P R ≤ 12) (h : ∀ m', fr (fun b _ => b = a) m m' → (∀ k, k < tmN P R → m'.1 a k = iI (tm P R k)) → Q (iI (tmN P R : Nat)) m') : sm_callI E L mX10_spread d 0 0 [.long (pk P R), .ref (sm_B E + a)] m Q := by
  obtain ⟨m1, m2, m3, m4⟩ := tmN_is hn
  have hb := hn.bd
  have hP := hn.2.1
  have hle := tmN_le hn
  have loop : ∀ (r k : Nat) (mm : sm_M), k + r = tmN P R → fr (fun b _ => b = a) m mm → (∀ j, j < k → mm.1 a j = iI (tm P R j)) → gX10_spread_14 E L d [.long (pk P R), .ref (sm_B E + a)] a (iI (rst 3 P R k).1) (iI (rst 3 P R k).2) (iI (k : Nat)) mm Q := by
    intro r
    induction r with
    | zero =>
      intro k mm hk f1 hg
      have hkM : k = tmN P R := by omega
      subst hkM
      refine vX10_spread_14 hd hT ?_
      rw [m3]
      exact ⟨fun _ => h mm f1 hg, fun _ => ⟨fun _ => h mm f1 hg, fun z => absurd rfl z⟩⟩
    | succ r ih =>
      intro k mm hk f1 hg
      have nx := ih (k + 1)
      clear ih
      obtain ⟨f1', f2, f3⟩ := rst_floor (u := P) (v := R) (by omega) (by omega) k (fun j hj => m4 j (by omega))
      have hk0 := m4 k (by omega)
      have hbd := rst_bd (how := 3) (u := P) (v := R) (B := 16777216) (by omega) (by omega) (by omega) k (fun j hj => m4 j (by omega))
      have ht : tm P R k = (rst 3 P R k).1 / (rst 3 P R k).2 := rfl
      rw [f3 hk0] at nx
      have u : ¬ ((12 : Nat) : Int) ≤ (k : Int) := by omega
      refine vX10_spread_14 hd hT ?_
      generalize (rst 3 P R k).1 = x at *
      generalize (rst 3 P R k).2 = y at *
      have ed : x.tdiv y = x / y := Int.tdiv_eq_ediv_of_nonneg f1'
      have er : x.tmod y = x % y := Int.tmod_eq_emod_of_nonneg f1'
      simp (disch := omega) only [forall_eq, true_and, and_true, false_and, and_false, forall_const, true_implies, implies_true, not_true_eq_false, not_false_eq_true, false_implies, if_true, if_false, ↓reduceIte, Int.toNat_natCast, Int.reduceEq, Int.reduceNe, Int.reduceLT, Int.reduceLE, Int.reduceToNat, Int.reduceAdd, Int.reduceSub, Int.reduceMul, Int.reduceNeg, Nat.reduceAdd, Nat.reduceMul, Nat.reduceSub, iI_lit, jI_lit, iI_add, iI_sub, iI_mul, iI_neg, jI_add, jI_sub, jI_mul, jI_neg, nI_i, lN_j, iI_le, iI_lt, iI_eq, jI_le, jI_lt, jI_eq, iI_in, iI_cl, iI_j, jI_i, cN, inN, wI_eq, wI_ne, wJ_1, wJ_eq, wJ_ne, wI_2, wJ_3, iI_div, iI_rem, jI_div, jI_rem, true_or, or_true, false_or, or_false, eq_self, Nat.add_zero, u, hk0, ed, er]
      refine ⟨by omega, nx _ (by omega) (f1.wI rfl) (fun j hj => ?_)⟩
      by_cases hjk : j = k
      · rw [wI_eq rfl hjk, hjk, ht]
      · rw [wI_ne (Or.inr hjk)]
        exact hg j (by omega)
  refine vX10_spread_0 hd hT (c_topOf (by omega) (by omega) (by omega) (c_bottomOf (by omega) ?_))
  exact loop (tmN P R) 0 m (by omega) fr.rf (fun j hj => absurd hj (Nat.not_lt_zero _))
theorem c_changed {Q : Int64 → sm_M → Prop} {P R : Int} {a k : Nat} (hT : ∀ S, L S → sm_K S a = 11 ∧ sm_N S a = 12) (hd : 3 ≤ d) (hn : nmT P R) (hs : szN P R ≤ 12) (hk : k < tmN P R) (hr : ∀ j, j < tmN P R → m.1 a j = iI (tm P R j)) (h : Q (pk (nxt P R k).1 (nxt P R k).2) m) : sm_callJ E L mX10_changed d 0 0 [.ref (sm_B E + a), .int (iI (tmN P R : Nat)), .int (iI (k : Nat))] m Q := by
  have hle := tmN_le hn
  obtain ⟨n1, n2, n3, n4⟩ := nxt_is hn hs k
  have loop : ∀ (r j : Nat), j + r = tmN P R → gX10_changed_10 E L d [.ref (sm_B E + a), .int (iI (tmN P R : Nat)), .int (iI (k : Nat))] a (iI (k : Nat)) (iI (ctF (chg (tm P R) k) (tmN P R) j).1) (iI (ctF (chg (tm P R) k) (tmN P R) j).2) (iI ((tmN P R : Int) - 1 - (j : Int))) m Q := by
    intro r
    induction r with
    | zero =>
      intro j hj
      have hjM : j = tmN P R := by omega
      subst hjM
      have u : ((tmN P R : Int) - 1 - (tmN P R : Int)) < 0 := by omega
      refine vX10_changed_10 hd hT ?_
      simp (disch := omega) only [forall_eq, true_and, and_true, false_and, and_false, forall_const, true_implies, implies_true, not_true_eq_false, not_false_eq_true, false_implies, if_true, if_false, ↓reduceIte, Int.toNat_natCast, Int.reduceEq, Int.reduceNe, Int.reduceLT, Int.reduceLE, Int.reduceToNat, Int.reduceAdd, Int.reduceSub, Int.reduceMul, Int.reduceNeg, Nat.reduceAdd, Nat.reduceMul, Nat.reduceSub, iI_lit, jI_lit, iI_add, iI_sub, iI_mul, iI_neg, jI_add, jI_sub, jI_mul, jI_neg, nI_i, lN_j, iI_le, iI_lt, iI_eq, jI_le, jI_lt, jI_eq, iI_in, iI_cl, iI_j, jI_i, cN, inN, wI_eq, wI_ne, wJ_1, wJ_eq, wJ_ne, wI_2, wJ_3, iI_div, iI_rem, jI_div, jI_rem, true_or, or_true, false_or, or_false, eq_self, Nat.add_zero, u]
      exact c_named (by omega) (by omega) (by omega) (by omega) (ctF_cop _ _ _) (by omega) h
    | succ r ih =>
      intro j hj
      have nx := ih (j + 1) (by omega)
      clear ih
      obtain ⟨i, hi⟩ : ∃ i : Nat, i = tmN P R - 1 - j := ⟨_, rfl⟩
      have e1 : ((tmN P R : Int) - 1 - (j : Int)) = (i : Int) := by omega
      have e2 : ((tmN P R : Int) - 1 - ((j + 1 : Nat) : Int)) = (i : Int) + -1 := by omega
      have e3 : (ctF (chg (tm P R) k) (tmN P R) (j + 1)) = (chg (tm P R) k i * (ctF (chg (tm P R) k) (tmN P R) j).1 + (ctF (chg (tm P R) k) (tmN P R) j).2, (ctF (chg (tm P R) k) (tmN P R) j).1) := by rw [hi]; rfl
      have v := hr i (by omega)
      rw [e2, e3] at nx
      rw [e1]
      have u : ¬ ((i : Int) < 0) := by omega
      refine vX10_changed_10 hd hT ?_
      simp (disch := omega) only [forall_eq, true_and, and_true, false_and, and_false, forall_const, true_implies, implies_true, not_true_eq_false, not_false_eq_true, false_implies, if_true, if_false, ↓reduceIte, Int.toNat_natCast, Int.reduceEq, Int.reduceNe, Int.reduceLT, Int.reduceLE, Int.reduceToNat, Int.reduceAdd, Int.reduceSub, Int.reduceMul, Int.reduceNeg, Nat.reduceAdd, Nat.reduceMul, Nat.reduceSub, iI_lit, jI_lit, iI_add, iI_sub, iI_mul, iI_neg, jI_add, jI_sub, jI_mul, jI_neg, nI_i, lN_j, iI_le, iI_lt, iI_eq, jI_le, jI_lt, jI_eq, iI_in, iI_cl, iI_j, jI_i, cN, inN, wI_eq, wI_ne, wJ_1, wJ_eq, wJ_ne, wI_2, wJ_3, iI_div, iI_rem, jI_div, jI_rem, true_or, or_true, false_or, or_false, eq_self, Nat.add_zero, u, v]
      refine ⟨fun q => ⟨by omega, vX10_changed_34 hd hT ?_⟩, fun q => ⟨by omega, vX10_changed_34 hd hT ?_⟩⟩
      · have ec : chg (tm P R) k i = tm P R i := if_neg (by omega)
        rw [ec] at nx
        simp (disch := omega) only [forall_eq, true_and, and_true, false_and, and_false, forall_const, true_implies, implies_true, not_true_eq_false, not_false_eq_true, false_implies, if_true, if_false, ↓reduceIte, Int.toNat_natCast, Int.reduceEq, Int.reduceNe, Int.reduceLT, Int.reduceLE, Int.reduceToNat, Int.reduceAdd, Int.reduceSub, Int.reduceMul, Int.reduceNeg, Nat.reduceAdd, Nat.reduceMul, Nat.reduceSub, iI_lit, jI_lit, iI_add, iI_sub, iI_mul, iI_neg, jI_add, jI_sub, jI_mul, jI_neg, nI_i, lN_j, iI_le, iI_lt, iI_eq, jI_le, jI_lt, jI_eq, iI_in, iI_cl, iI_j, jI_i, cN, inN, wI_eq, wI_ne, wJ_1, wJ_eq, wJ_ne, wI_2, wJ_3, iI_div, iI_rem, jI_div, jI_rem, true_or, or_true, false_or, or_false, eq_self, Nat.add_zero]
        exact nx
      · have ec : chg (tm P R) k i = tm P R i - 2 := if_pos (by omega)
        rw [ec] at nx
        simp (disch := omega) only [forall_eq, true_and, and_true, false_and, and_false, forall_const, true_implies, implies_true, not_true_eq_false, not_false_eq_true, false_implies, if_true, if_false, ↓reduceIte, Int.toNat_natCast, Int.reduceEq, Int.reduceNe, Int.reduceLT, Int.reduceLE, Int.reduceToNat, Int.reduceAdd, Int.reduceSub, Int.reduceMul, Int.reduceNeg, Nat.reduceAdd, Nat.reduceMul, Nat.reduceSub, iI_lit, jI_lit, iI_add, iI_sub, iI_mul, iI_neg, jI_add, jI_sub, jI_mul, jI_neg, nI_i, lN_j, iI_le, iI_lt, iI_eq, jI_le, jI_lt, jI_eq, iI_in, iI_cl, iI_j, jI_i, cN, inN, wI_eq, wI_ne, wJ_1, wJ_eq, wJ_ne, wI_2, wJ_3, iI_div, iI_rem, jI_div, jI_rem, true_or, or_true, false_or, or_false, eq_self, Nat.add_zero]
        exact nx
  refine vX10_changed_0 hd hT ?_
  have l0 := loop (tmN P R) 0 (by omega)
  simp (disch := omega) only [forall_eq, true_and, and_true, false_and, and_false, forall_const, true_implies, implies_true, not_true_eq_false, not_false_eq_true, false_implies, if_true, if_false, ↓reduceIte, Int.toNat_natCast, Int.reduceEq, Int.reduceNe, Int.reduceLT, Int.reduceLE, Int.reduceToNat, Int.reduceAdd, Int.reduceSub, Int.reduceMul, Int.reduceNeg, Nat.reduceAdd, Nat.reduceMul, Nat.reduceSub, iI_lit, jI_lit, iI_add, iI_sub, iI_mul, iI_neg, jI_add, jI_sub, jI_mul, jI_neg, nI_i, lN_j, iI_le, iI_lt, iI_eq, jI_le, jI_lt, jI_eq, iI_in, iI_cl, iI_j, jI_i, cN, inN, wI_eq, wI_ne, wJ_1, wJ_eq, wJ_ne, wI_2, wJ_3, iI_div, iI_rem, jI_div, jI_rem, true_or, or_true, false_or, or_false, eq_self, Nat.add_zero]
  rw [show ((tmN P R : Int) - 1 - ((0 : Nat) : Int)) = (tmN P R : Int) - 1 by omega] at l0
  exact l0
end CUN
