/-! leaf, join, move -/
theorem tcat_zero {t u : Nat → Int} : tcat t 0 u = u := by
  funext k
  simp [tcat]
theorem tcat_lt {t u : Nat → Int} {n k : Nat} (h : k < n) : tcat t n u k = t k := if_pos h
theorem tcat_ge {t u : Nat → Int} {n k : Nat} : tcat t n u (n + k) = u k := by
  unfold tcat
  rw [if_neg (by omega), show n + k - n = k by omega]
theorem lvs_tcat {t u : Nat → Int} {n : Nat} (k : Nat) : lvs (tcat t n u) (n + k) = lvs t n + lvs u k := by
  induction k with
  | zero => exact lvs_congr (fun j hj => tcat_lt hj)
  | succ k ih =>
    rw [show n + (k + 1) = (n + k) + 1 by omega, lvs, ih, tcat_ge, lvs]
    omega
theorem crs_tcat {t u : Nat → Int} {n : Nat} (k : Nat) : crs (tcat t n u) (n + k) = crs t n + crs u k := by
  induction k with
  | zero => exact crs_congr (fun j hj => tcat_lt hj)
  | succ k ih =>
    rw [show n + (k + 1) = (n + k) + 1 by omega, crs, ih, tcat_ge, crs]
    omega
theorem ev_tcat_h {t u : Nat → Int} {n : Nat} (k : Nat) (hu : okT u k) : (ev (tcat t n u) (n + k)).1 = (ev t n).1 + (ev u k).1 := by
  induction k with
  | zero => exact congrArg (·.1) (ev_congr (fun j hj => tcat_lt hj))
  | succ k ih =>
    have h1 := hu k (by omega)
    rw [show n + (k + 1) = (n + k) + 1 by omega, ev, evStep_h, ih (hu.le (by omega)), tcat_ge, ev, evStep_h]
    split
    · omega
    · split
      · have := h1.2.2.2 (by omega) (by omega)
        omega
      · rfl
theorem okT_tcat {t u : Nat → Int} {n k : Nat} (ht : okT t n) (hu : okT u k) : okT (tcat t n u) (n + k) := fun j hj => by
  by_cases hjn : j < n
  · rw [tcat_lt hjn, ev_congr (u := t) (fun i hi => tcat_lt (by omega))]
    exact ht j hjn
  · obtain ⟨i, rfl⟩ : ∃ i, j = n + i := ⟨j - n, by omega⟩
    have h1 := hu i (by omega)
    rw [tcat_ge, ev_tcat_h i (hu.le (by omega))]
    refine ⟨h1.1, h1.2.1, fun q => ?_, fun q q2 => ?_⟩
    · have := h1.2.2.1 q
      omega
    · have := h1.2.2.2 q q2
      omega
def sltP (i a k : Nat) : Prop := scC a k ∨ scM a k ∨ a = 77 + 4 * i ∨ a = 78 + 4 * i ∨ (a = 112 ∧ k = i) ∨ (a = 111 ∧ 60 * i ≤ k ∧ k < 60 * i + 60)
theorem Inv.slot {c i n : Nat} {m m' : sm_M} {t : Nat → Int} (h : Inv c m) (hi : i < 6) (hf : frw (sltP i) m m') (hv : vT t n) (hg : tgm m' (77 + 4 * i) t n) (hh : hl m' i t n) : Inv c m' := by
  obtain ⟨h0, ⟨a1, a2, a3, a4, a5, a6, a7⟩, h9⟩ := h
  refine ⟨h0, ⟨fun j hj => ?_, fun h0 => ?_, a3.frw hf ?_, a4.frw hf ?_, a5.frw hf ?_, a6.frw hf ?_, a7.frw hf ?_⟩, fun k hk => ?_⟩
  · by_cases hij : j = i
    · subst hij
      exact ⟨t, n, hv, hg, hh⟩
    · obtain ⟨u, k, g1, g2, g3⟩ := a1 j hj
      have hk6 := g1.2.2.2.2
      refine ⟨u, k, g1, g2.frw hf ?_ ?_, g3.frw hf ?_ ?_⟩
      · intro q; unfold sltP scC scM; omega
      · intro q; unfold sltP scC scM; omega
      · unfold sltP scC scM; omega
      · intro q hq; unfold sltP scC scM; omega
  · rw [hf.i (by unfold sltP scC scM; omega)] at h0
    obtain ⟨q1, q2⟩ := a2 h0
    refine ⟨?_, fun j hj => ?_⟩
    · rw [hf.i (by unfold sltP scC scM; omega), hf.i (by unfold sltP scC scM; omega)]
      exact q1
    · obtain ⟨u, k, g1, g2, g3⟩ := q2 j hj
      refine ⟨u, k, g1, g2.frw hf ?_ ?_, g3.frw hf ?_ ?_⟩
      · intro q; unfold sltP scC scM; omega
      · intro q; unfold sltP scC scM; omega
      · unfold sltP scC scM; omega
      · intro q hq; unfold sltP scC scM; omega
  · unfold sltP scC scM; omega
  · refine ⟨by unfold sltP scC scM; omega, by unfold sltP scC scM; omega, fun k => ?_⟩; unfold sltP scC scM; omega
  · refine ⟨by unfold sltP scC scM; omega, by unfold sltP scC scM; omega, by unfold sltP scC scM; omega, fun k => ?_⟩; unfold sltP scC scM; omega
  · intro s hs; refine ⟨by unfold sltP scC scM; omega, by unfold sltP scC scM; omega, by unfold sltP scC scM; omega, by unfold sltP scC scM; omega, fun k => ?_⟩; unfold sltP scC scM; omega
  · intro a k h1; unfold sltP scC scM; omega
  · rw [hf.i (by unfold sltP scC scM; omega), hf.i (by unfold sltP scC scM; omega)]
    exact h9 k hk
theorem vT_leaf {z : Int} (h1 : -9 ≤ z) (h2 : z ≤ 10) (t : Nat → Int) : vT (tup t 0 z) 1 := by
  refine ⟨okT_tup (n := 0) (fun k hk => absurd hk (Nat.not_lt_zero _)) h1 (by omega) (by omega) (by omega), ?_, ?_, ?_, by decide⟩
  · rw [ev_tup1, evStep_h, if_pos h2]
    rfl
  · rw [lvs_tup1, if_pos h2]
    show 0 + 1 ≤ 24
    decide
  · rw [crs_tup1]
    show 0 + _ ≤ 24
    split <;> omega
theorem ctP_slt {i a k : Nat} (h : ctP i a k) : sltP i a k := by
  unfold ctP mmP at h
  unfold sltP scC scM
  omega
theorem wkP_sc {a k : Nat} (h : wkP a k) : scM a k := by
  unfold wkP at h
  unfold scM
  omega
theorem mmP_sc {a k : Nat} (h : mmP a k) : scM a k := by
  unfold mmP at h
  unfold scM
  omega
section K2
variable {E : sm_E} {L : sm_S → Prop} {d1 d2 : Nat} {m : sm_M} {c : Nat}
theorem k_leaf {x1 x2 : Int32} (hly : ∀ S, L S → ly S) (hd1 : 5 ≤ d1) (hd2 : 5 ≤ d2) (hI : Inv c m) : sm_callI E L mX11_leaf d1 0 0 [.ref (sm_B E + 0), .int x1, .int x2] m (fun r m1 => sm_callI E L mX12_leaf d2 0 0 [.ref (sm_B E + 109), .int x1, .int x2] m1 (fun r2 m2 => r = r2 ∧ Inv c m2)) := by
  obtain ⟨i, i1, i2, rfl⟩ := iI_ex x1
  obtain ⟨w, w1, w2, rfl⟩ := iI_ex x2
  have bad : ¬ (0 ≤ i ∧ i < 6 ∧ -9 ≤ w ∧ w ≤ 10) → sm_callI E L mX12_leaf d2 0 0 [.ref (sm_B E + 109), .int (iI i), .int (iI w)] (sm_wI m 76 1 (m.1 76 1 + 1)) (fun r2 m2 => iI (-1000000000 - (1 : Nat)) = r2 ∧ Inv c m2) := fun hb => by
    have fin : (fun (r2 : Int32) m2 => iI (-1000000000 - (1 : Nat)) = r2 ∧ Inv c m2) (iI (-1000000000 - (1 : Nat))) (sm_wI (sm_wI m 76 1 (m.1 76 1 + 1)) 110 1 ((sm_wI m 76 1 (m.1 76 1 + 1)).1 110 1 + 1)) := ⟨rfl, hI.er frw.rf frw.rf⟩
    refine vX12_leaf_0 hly hd2 (c12_isSlot i1 i2 (by omega) ?_)
    by_cases hi : 0 ≤ i ∧ i < 6
    · simp (disch := omega) only [forall_eq, true_and, and_true, false_and, and_false, forall_const, true_implies, implies_true, not_true_eq_false, not_false_eq_true, false_implies, if_true, if_false, ↓reduceIte, Int.toNat_natCast, Int.reduceEq, Int.reduceNe, Int.reduceLT, Int.reduceLE, Int.reduceToNat, Int.reduceAdd, Int.reduceSub, Int.reduceMul, Int.reduceNeg, Nat.reduceAdd, Nat.reduceMul, Nat.reduceSub, iI_lit, jI_lit, iI_add, iI_sub, iI_mul, iI_neg, jI_add, jI_sub, jI_mul, jI_neg, nI_i, lN_j, iI_le, iI_lt, iI_eq, jI_le, jI_lt, jI_eq, iI_in, iI_cl, iI_j, jI_i, cN, inN, wI_eq, wI_ne, wJ_1, wJ_eq, wJ_ne, wI_2, wJ_3, iI_div, iI_rem, jI_div, jI_rem, true_or, or_true, false_or, or_false, eq_self, Nat.add_zero, hi]
      refine c12_isIn (by omega) (by omega) (by omega) (by omega) (by omega) (by omega) (by omega) ?_
      have hb2 : ¬ (-9 ≤ w ∧ w ≤ 10) := by omega
      simp (disch := omega) only [forall_eq, true_and, and_true, false_and, and_false, forall_const, true_implies, implies_true, not_true_eq_false, not_false_eq_true, false_implies, if_true, if_false, ↓reduceIte, Int.toNat_natCast, Int.reduceEq, Int.reduceNe, Int.reduceLT, Int.reduceLE, Int.reduceToNat, Int.reduceAdd, Int.reduceSub, Int.reduceMul, Int.reduceNeg, Nat.reduceAdd, Nat.reduceMul, Nat.reduceSub, iI_lit, jI_lit, iI_add, iI_sub, iI_mul, iI_neg, jI_add, jI_sub, jI_mul, jI_neg, nI_i, lN_j, iI_le, iI_lt, iI_eq, jI_le, jI_lt, jI_eq, iI_in, iI_cl, iI_j, jI_i, cN, inN, wI_eq, wI_ne, wJ_1, wJ_eq, wJ_ne, wI_2, wJ_3, iI_div, iI_rem, jI_div, jI_rem, true_or, or_true, false_or, or_false, eq_self, Nat.add_zero, hb2]
      exact c12_finds (e := 1) hly (by decide) (by omega) fin
    · simp (disch := omega) only [forall_eq, true_and, and_true, false_and, and_false, forall_const, true_implies, implies_true, not_true_eq_false, not_false_eq_true, false_implies, if_true, if_false, ↓reduceIte, Int.toNat_natCast, Int.reduceEq, Int.reduceNe, Int.reduceLT, Int.reduceLE, Int.reduceToNat, Int.reduceAdd, Int.reduceSub, Int.reduceMul, Int.reduceNeg, Nat.reduceAdd, Nat.reduceMul, Nat.reduceSub, iI_lit, jI_lit, iI_add, iI_sub, iI_mul, iI_neg, jI_add, jI_sub, jI_mul, jI_neg, nI_i, lN_j, iI_le, iI_lt, iI_eq, jI_le, jI_lt, jI_eq, iI_in, iI_cl, iI_j, jI_i, cN, inN, wI_eq, wI_ne, wJ_1, wJ_eq, wJ_ne, wI_2, wJ_3, iI_div, iI_rem, jI_div, jI_rem, true_or, or_true, false_or, or_false, eq_self, Nat.add_zero, hi]
      exact c12_finds (e := 1) hly (by decide) (by omega) fin
  refine vX11_leaf_0 hly hd1 (c_isSlot i1 i2 (by omega) ?_)
  by_cases hi : 0 ≤ i ∧ i < 6
  · obtain ⟨j, rfl⟩ : ∃ j : Nat, i = (j : Int) := ⟨i.toNat, by omega⟩
    have hj : j < 6 := by omega
    simp (disch := omega) only [forall_eq, true_and, and_true, false_and, and_false, forall_const, true_implies, implies_true, not_true_eq_false, not_false_eq_true, false_implies, if_true, if_false, ↓reduceIte, Int.toNat_natCast, Int.reduceEq, Int.reduceNe, Int.reduceLT, Int.reduceLE, Int.reduceToNat, Int.reduceAdd, Int.reduceSub, Int.reduceMul, Int.reduceNeg, Nat.reduceAdd, Nat.reduceMul, Nat.reduceSub, iI_lit, jI_lit, iI_add, iI_sub, iI_mul, iI_neg, jI_add, jI_sub, jI_mul, jI_neg, nI_i, lN_j, iI_le, iI_lt, iI_eq, jI_le, jI_lt, jI_eq, iI_in, iI_cl, iI_j, jI_i, cN, inN, wI_eq, wI_ne, wJ_1, wJ_eq, wJ_ne, wI_2, wJ_3, iI_div, iI_rem, jI_div, jI_rem, true_or, or_true, false_or, or_false, eq_self, Nat.add_zero, hi]
    refine ⟨fun q => c_error (e := 1) hly (by decide) (by omega) (bad (by omega)), fun q => ⟨fun q2 => ⟨by omega, ?_⟩, fun q2 => c_error (e := 1) hly (by decide) (by omega) (bad (by omega))⟩⟩
    clear bad
    have hT := ly_slotT hly hj
    have hv := vT_leaf (z := w) (by omega) (by omega) (fun _ => 0)
    refine c_clear hT (by omega) (fun m1 f1 g1 => c_add (t := fun _ => 0) (n := 0) hT (by omega) (g1 _) (by omega) (by omega) (by omega) (by omega) (fun m2 f2 g2 => ?_))
    refine c_measure hly (by omega) hT (by omega) (by omega) (by omega) hv.1 hv.2.1 ⟨hv.2.2.1, hv.2.2.2.1⟩ g2 (fun m3 f3 g3 => ?_)
    rw [g3.1.2.2.2.1]
    have hb : -9 ≤ w ∧ w ≤ 10 := by omega
    refine vX12_leaf_0 hly hd2 (c12_isSlot i1 i2 (by omega) ?_)
    simp (disch := omega) only [forall_eq, true_and, and_true, false_and, and_false, forall_const, true_implies, implies_true, not_true_eq_false, not_false_eq_true, false_implies, if_true, if_false, ↓reduceIte, Int.toNat_natCast, Int.reduceEq, Int.reduceNe, Int.reduceLT, Int.reduceLE, Int.reduceToNat, Int.reduceAdd, Int.reduceSub, Int.reduceMul, Int.reduceNeg, Nat.reduceAdd, Nat.reduceMul, Nat.reduceSub, iI_lit, jI_lit, iI_add, iI_sub, iI_mul, iI_neg, jI_add, jI_sub, jI_mul, jI_neg, nI_i, lN_j, iI_le, iI_lt, iI_eq, jI_le, jI_lt, jI_eq, iI_in, iI_cl, iI_j, jI_i, cN, inN, wI_eq, wI_ne, wJ_1, wJ_eq, wJ_ne, wI_2, wJ_3, iI_div, iI_rem, jI_div, jI_rem, true_or, or_true, false_or, or_false, eq_self, Nat.add_zero, hi]
    refine c12_isIn (by omega) (by omega) (by omega) (by omega) (by omega) (by omega) (by omega) ?_
    simp (disch := omega) only [forall_eq, true_and, and_true, false_and, and_false, forall_const, true_implies, implies_true, not_true_eq_false, not_false_eq_true, false_implies, if_true, if_false, ↓reduceIte, Int.toNat_natCast, Int.reduceEq, Int.reduceNe, Int.reduceLT, Int.reduceLE, Int.reduceToNat, Int.reduceAdd, Int.reduceSub, Int.reduceMul, Int.reduceNeg, Nat.reduceAdd, Nat.reduceMul, Nat.reduceSub, iI_lit, jI_lit, iI_add, iI_sub, iI_mul, iI_neg, jI_add, jI_sub, jI_mul, jI_neg, nI_i, lN_j, iI_le, iI_lt, iI_eq, jI_le, jI_lt, jI_eq, iI_in, iI_cl, iI_j, jI_i, cN, inN, wI_eq, wI_ne, wJ_1, wJ_eq, wJ_ne, wI_2, wJ_3, iI_div, iI_rem, jI_div, jI_rem, true_or, or_true, false_or, or_false, eq_self, Nat.add_zero, hb]
    have hp := c12_puts (E := E) (L := L) (d := 1) (m := sm_wI m3 109 6 (iI 0)) (t := fun _ => 0) (n := 0) (z := w) (Q := fun m_8 => sm_callI E L mX12_comesTo 4 0 0 [.ref (sm_B E + 109), .int (iI (j : Nat))] m_8 (fun r_10 m_9 => iI (crs (tup (fun _ => 0) 0 w) 1 : Nat) = r_10 ∧ Inv c m_9)) hly ⟨by simp (disch := omega) only [forall_eq, true_and, and_true, false_and, and_false, forall_const, true_implies, implies_true, not_true_eq_false, not_false_eq_true, false_implies, if_true, if_false, ↓reduceIte, Int.toNat_natCast, Int.reduceEq, Int.reduceNe, Int.reduceLT, Int.reduceLE, Int.reduceToNat, Int.reduceAdd, Int.reduceSub, Int.reduceMul, Int.reduceNeg, Nat.reduceAdd, Nat.reduceMul, Nat.reduceSub, iI_lit, jI_lit, iI_add, iI_sub, iI_mul, iI_neg, jI_add, jI_sub, jI_mul, jI_neg, nI_i, lN_j, iI_le, iI_lt, iI_eq, jI_le, jI_lt, jI_eq, iI_in, iI_cl, iI_j, jI_i, cN, inN, wI_eq, wI_ne, wJ_1, wJ_eq, wJ_ne, wI_2, wJ_3, iI_div, iI_rem, jI_div, jI_rem, true_or, or_true, false_or, or_false, eq_self, Nat.add_zero]; rfl, fun k hk => absurd hk (Nat.not_lt_zero _)⟩ (by omega) (by omega) (fun m4 f4 k4 => ?_)
    · rw [show tc w = w from if_pos (by omega)] at hp
      exact hp
    · refine c12_comesTo hly (by omega) k4 hj hv (fun m5 f5 h5 _ => ⟨rfl, ?_⟩)
      have f12 : frw (sltP j) m m3 := ((f1.w.tr f2.w).mono (fun a k h => ?_)).tr (f3.w.mono (fun a k h => ?_))
      · have f34 : frw (sltP j) m3 m4 := ((fr.rf.wI (P := wkP) (Or.inl ⟨rfl, rfl⟩)).tr f4).w.mono (fun a k h => Or.inr (Or.inl (wkP_sc h)))
        have f45 : frw (sltP j) m4 m5 := f5.w.mono (fun a k h => ctP_slt h)
        refine hI.slot hj ((f12.tr f34).tr f45) hv ?_ h5
        refine (g3.fr ((fr.rf.wI (P := wkP) (Or.inl ⟨rfl, rfl⟩)).tr f4) ?_ ?_).fr f5 ?_ ?_
        · intro k h1 h2; unfold wkP; omega
        · intro k; unfold wkP; omega
        · intro k h1 h2; unfold ctP mmP; omega
        · intro k; unfold ctP mmP; omega
      · unfold tgP at h; unfold sltP; omega
      · unfold meP gaP at h; unfold sltP scC; omega
  · simp (disch := omega) only [forall_eq, true_and, and_true, false_and, and_false, forall_const, true_implies, implies_true, not_true_eq_false, not_false_eq_true, false_implies, if_true, if_false, ↓reduceIte, Int.toNat_natCast, Int.reduceEq, Int.reduceNe, Int.reduceLT, Int.reduceLE, Int.reduceToNat, Int.reduceAdd, Int.reduceSub, Int.reduceMul, Int.reduceNeg, Nat.reduceAdd, Nat.reduceMul, Nat.reduceSub, iI_lit, jI_lit, iI_add, iI_sub, iI_mul, iI_neg, jI_add, jI_sub, jI_mul, jI_neg, nI_i, lN_j, iI_le, iI_lt, iI_eq, jI_le, jI_lt, jI_eq, iI_in, iI_cl, iI_j, jI_i, cN, inN, wI_eq, wI_ne, wJ_1, wJ_eq, wJ_ne, wI_2, wJ_3, iI_div, iI_rem, jI_div, jI_rem, true_or, or_true, false_or, or_false, eq_self, Nat.add_zero, hi]
    exact c_error (e := 1) hly (by decide) (by omega) (bad (by omega))
theorem k_move {x1 x2 : Int32} (hly : ∀ S, L S → ly S) (hd1 : 5 ≤ d1) (hd2 : 5 ≤ d2) (hI : Inv c m) : sm_callI E L mX11_move d1 0 0 [.ref (sm_B E + 0), .int x1, .int x2] m (fun r m1 => sm_callI E L mX12_move d2 0 0 [.ref (sm_B E + 109), .int x1, .int x2] m1 (fun r2 m2 => r = r2 ∧ Inv c m2)) := by
  obtain ⟨i, i1, i2, rfl⟩ := iI_ex x1
  obtain ⟨w, w1, w2, rfl⟩ := iI_ex x2
  have bad : ¬ (0 ≤ i ∧ i < 6 ∧ 0 ≤ w ∧ w ≤ 5) → sm_callI E L mX12_move d2 0 0 [.ref (sm_B E + 109), .int (iI i), .int (iI w)] (sm_wI m 76 1 (m.1 76 1 + 1)) (fun r2 m2 => iI (-1000000000 - (1 : Nat)) = r2 ∧ Inv c m2) := fun hb => by
    have fin : (fun (r2 : Int32) m2 => iI (-1000000000 - (1 : Nat)) = r2 ∧ Inv c m2) (iI (-1000000000 - (1 : Nat))) (sm_wI (sm_wI m 76 1 (m.1 76 1 + 1)) 110 1 ((sm_wI m 76 1 (m.1 76 1 + 1)).1 110 1 + 1)) := ⟨rfl, hI.er frw.rf frw.rf⟩
    refine vX12_move_0 hly hd2 (c12_isSlot i1 i2 (by omega) ?_)
    by_cases hi : 0 ≤ i ∧ i < 6
    · simp (disch := omega) only [forall_eq, true_and, and_true, false_and, and_false, forall_const, true_implies, implies_true, not_true_eq_false, not_false_eq_true, false_implies, if_true, if_false, ↓reduceIte, Int.toNat_natCast, Int.reduceEq, Int.reduceNe, Int.reduceLT, Int.reduceLE, Int.reduceToNat, Int.reduceAdd, Int.reduceSub, Int.reduceMul, Int.reduceNeg, Nat.reduceAdd, Nat.reduceMul, Nat.reduceSub, iI_lit, jI_lit, iI_add, iI_sub, iI_mul, iI_neg, jI_add, jI_sub, jI_mul, jI_neg, nI_i, lN_j, iI_le, iI_lt, iI_eq, jI_le, jI_lt, jI_eq, iI_in, iI_cl, iI_j, jI_i, cN, inN, wI_eq, wI_ne, wJ_1, wJ_eq, wJ_ne, wI_2, wJ_3, iI_div, iI_rem, jI_div, jI_rem, true_or, or_true, false_or, or_false, eq_self, Nat.add_zero, hi]
      refine c12_isIn (by omega) (by omega) (by omega) (by omega) (by omega) (by omega) (by omega) ?_
      have hb2 : ¬ (0 ≤ w ∧ w ≤ 5) := by omega
      simp (disch := omega) only [forall_eq, true_and, and_true, false_and, and_false, forall_const, true_implies, implies_true, not_true_eq_false, not_false_eq_true, false_implies, if_true, if_false, ↓reduceIte, Int.toNat_natCast, Int.reduceEq, Int.reduceNe, Int.reduceLT, Int.reduceLE, Int.reduceToNat, Int.reduceAdd, Int.reduceSub, Int.reduceMul, Int.reduceNeg, Nat.reduceAdd, Nat.reduceMul, Nat.reduceSub, iI_lit, jI_lit, iI_add, iI_sub, iI_mul, iI_neg, jI_add, jI_sub, jI_mul, jI_neg, nI_i, lN_j, iI_le, iI_lt, iI_eq, jI_le, jI_lt, jI_eq, iI_in, iI_cl, iI_j, jI_i, cN, inN, wI_eq, wI_ne, wJ_1, wJ_eq, wJ_ne, wI_2, wJ_3, iI_div, iI_rem, jI_div, jI_rem, true_or, or_true, false_or, or_false, eq_self, Nat.add_zero, hb2]
      exact c12_finds (e := 1) hly (by decide) (by omega) fin
    · simp (disch := omega) only [forall_eq, true_and, and_true, false_and, and_false, forall_const, true_implies, implies_true, not_true_eq_false, not_false_eq_true, false_implies, if_true, if_false, ↓reduceIte, Int.toNat_natCast, Int.reduceEq, Int.reduceNe, Int.reduceLT, Int.reduceLE, Int.reduceToNat, Int.reduceAdd, Int.reduceSub, Int.reduceMul, Int.reduceNeg, Nat.reduceAdd, Nat.reduceMul, Nat.reduceSub, iI_lit, jI_lit, iI_add, iI_sub, iI_mul, iI_neg, jI_add, jI_sub, jI_mul, jI_neg, nI_i, lN_j, iI_le, iI_lt, iI_eq, jI_le, jI_lt, jI_eq, iI_in, iI_cl, iI_j, jI_i, cN, inN, wI_eq, wI_ne, wJ_1, wJ_eq, wJ_ne, wI_2, wJ_3, iI_div, iI_rem, jI_div, jI_rem, true_or, or_true, false_or, or_false, eq_self, Nat.add_zero, hi]
      exact c12_finds (e := 1) hly (by decide) (by omega) fin
  refine vX11_move_0 hly hd1 (c_isSlot i1 i2 (by omega) ?_)
  by_cases hi : 0 ≤ i ∧ i < 6
  · obtain ⟨j, rfl⟩ : ∃ j : Nat, i = (j : Int) := ⟨i.toNat, by omega⟩
    have hj : j < 6 := by omega
    simp (disch := omega) only [forall_eq, true_and, and_true, false_and, and_false, forall_const, true_implies, implies_true, not_true_eq_false, not_false_eq_true, false_implies, if_true, if_false, ↓reduceIte, Int.toNat_natCast, Int.reduceEq, Int.reduceNe, Int.reduceLT, Int.reduceLE, Int.reduceToNat, Int.reduceAdd, Int.reduceSub, Int.reduceMul, Int.reduceNeg, Nat.reduceAdd, Nat.reduceMul, Nat.reduceSub, iI_lit, jI_lit, iI_add, iI_sub, iI_mul, iI_neg, jI_add, jI_sub, jI_mul, jI_neg, nI_i, lN_j, iI_le, iI_lt, iI_eq, jI_le, jI_lt, jI_eq, iI_in, iI_cl, iI_j, jI_i, cN, inN, wI_eq, wI_ne, wJ_1, wJ_eq, wJ_ne, wI_2, wJ_3, iI_div, iI_rem, jI_div, jI_rem, true_or, or_true, false_or, or_false, eq_self, Nat.add_zero, hi]
    refine ⟨fun q => c_error (e := 1) hly (by decide) (by omega) (bad (by omega)), fun q => ⟨fun q2 => ⟨by omega, ?_⟩, fun q2 => c_error (e := 1) hly (by decide) (by omega) (bad (by omega))⟩⟩
    clear bad
    have hT := ly_slotT hly hj
    obtain ⟨t, n, hv, hg, hh⟩ := hI.2.1.1 j hj
    have hn6 := hv.2.2.2.2
    have hmn : mvn n w ≤ n + 2 := by unfold mvn; split <;> omega
    -- the reference
    have model : ∀ (m1 : sm_M) (Q : Int32 → sm_M → Prop), hl m1 j t n → (fit (mvt t n w) (mvn n w) → ∀ m2, fr (fun a k => wkP a k ∨ ctP j a k) m1 m2 → hl m2 j (mvt t n w) (mvn n w) → Q (iI (crs (mvt t n w) (mvn n w) : Nat)) m2) → (¬ fit (mvt t n w) (mvn n w) → ∀ m2, fr (fun a k => wkP a k ∨ mmP a k) m1 m2 → Q (iI (-1000000000 - (4 : Nat))) (sm_wI m2 110 4 (m2.1 110 4 + 1))) → sm_callI E L mX12_move d2 0 0 [.ref (sm_B E + 109), .int (iI (j : Nat)), .int (iI w)] m1 Q := by
      intro m1 Q hh1 hQ1 hQ2
      have hb : 0 ≤ w ∧ w ≤ 5 := by omega
      refine vX12_move_0 hly hd2 (c12_isSlot i1 i2 (by omega) ?_)
      simp (disch := omega) only [forall_eq, true_and, and_true, false_and, and_false, forall_const, true_implies, implies_true, not_true_eq_false, not_false_eq_true, false_implies, if_true, if_false, ↓reduceIte, Int.toNat_natCast, Int.reduceEq, Int.reduceNe, Int.reduceLT, Int.reduceLE, Int.reduceToNat, Int.reduceAdd, Int.reduceSub, Int.reduceMul, Int.reduceNeg, Nat.reduceAdd, Nat.reduceMul, Nat.reduceSub, iI_lit, jI_lit, iI_add, iI_sub, iI_mul, iI_neg, jI_add, jI_sub, jI_mul, jI_neg, nI_i, lN_j, iI_le, iI_lt, iI_eq, jI_le, jI_lt, jI_eq, iI_in, iI_cl, iI_j, jI_i, cN, inN, wI_eq, wI_ne, wJ_1, wJ_eq, wJ_ne, wI_2, wJ_3, iI_div, iI_rem, jI_div, jI_rem, true_or, or_true, false_or, or_false, eq_self, Nat.add_zero, hi]
      refine c12_isIn (by omega) (by omega) (by omega) (by omega) (by omega) (by omega) (by omega) ?_
      simp (disch := omega) only [forall_eq, true_and, and_true, false_and, and_false, forall_const, true_implies, implies_true, not_true_eq_false, not_false_eq_true, false_implies, if_true, if_false, ↓reduceIte, Int.toNat_natCast, Int.reduceEq, Int.reduceNe, Int.reduceLT, Int.reduceLE, Int.reduceToNat, Int.reduceAdd, Int.reduceSub, Int.reduceMul, Int.reduceNeg, Nat.reduceAdd, Nat.reduceMul, Nat.reduceSub, iI_lit, jI_lit, iI_add, iI_sub, iI_mul, iI_neg, jI_add, jI_sub, jI_mul, jI_neg, nI_i, lN_j, iI_le, iI_lt, iI_eq, jI_le, jI_lt, jI_eq, iI_in, iI_cl, iI_j, jI_i, cN, inN, wI_eq, wI_ne, wJ_1, wJ_eq, wJ_ne, wI_2, wJ_3, iI_div, iI_rem, jI_div, jI_rem, true_or, or_true, false_or, or_false, eq_self, Nat.add_zero, hb]
      have f0 : fr wkP m1 (sm_wI m1 109 6 (iI 0)) := fr.rf.wI (Or.inl ⟨rfl, rfl⟩)
      refine c12_putsSlot (t := fun _ => 0) (n := 0) (u := t) (k := n) hly hj hn6 (by omega) (by omega) ⟨by simp (disch := omega) only [forall_eq, true_and, and_true, false_and, and_false, forall_const, true_implies, implies_true, not_true_eq_false, not_false_eq_true, false_implies, if_true, if_false, ↓reduceIte, Int.toNat_natCast, Int.reduceEq, Int.reduceNe, Int.reduceLT, Int.reduceLE, Int.reduceToNat, Int.reduceAdd, Int.reduceSub, Int.reduceMul, Int.reduceNeg, Nat.reduceAdd, Nat.reduceMul, Nat.reduceSub, iI_lit, jI_lit, iI_add, iI_sub, iI_mul, iI_neg, jI_add, jI_sub, jI_mul, jI_neg, nI_i, lN_j, iI_le, iI_lt, iI_eq, jI_le, jI_lt, jI_eq, iI_in, iI_cl, iI_j, jI_i, cN, inN, wI_eq, wI_ne, wJ_1, wJ_eq, wJ_ne, wI_2, wJ_3, iI_div, iI_rem, jI_div, jI_rem, true_or, or_true, false_or, or_false, eq_self, Nat.add_zero]; rfl, fun k hk => absurd hk (Nat.not_lt_zero _)⟩ (hh1.fr f0 (by unfold wkP; omega) (fun k => by unfold wkP; omega)) (fun m2 f2 k2 => ?_)
      rw [tcat_zero, Nat.zero_add] at k2
      refine c12_putsMove hly (by omega) k2 (by omega) hb.1 hb.2 (fun m3 f3 k3 => ?_)
      have f03 := (f0.tr f2).tr f3
      refine c12_isTooMuch hly (by omega) k3 (by omega) (mv_ok hv.1 hv.2.1).1 (by rw [(mv_ok hv.1 hv.2.1).2]; decide) (fun hft m4 f4 => ?_) (fun hft m4 f4 => ?_)
      · simp (disch := omega) only [forall_eq, true_and, and_true, false_and, and_false, forall_const, true_implies, implies_true, not_true_eq_false, not_false_eq_true, false_implies, if_true, if_false, ↓reduceIte, Int.toNat_natCast, Int.reduceEq, Int.reduceNe, Int.reduceLT, Int.reduceLE, Int.reduceToNat, Int.reduceAdd, Int.reduceSub, Int.reduceMul, Int.reduceNeg, Nat.reduceAdd, Nat.reduceMul, Nat.reduceSub, iI_lit, jI_lit, iI_add, iI_sub, iI_mul, iI_neg, jI_add, jI_sub, jI_mul, jI_neg, nI_i, lN_j, iI_le, iI_lt, iI_eq, jI_le, jI_lt, jI_eq, iI_in, iI_cl, iI_j, jI_i, cN, inN, wI_eq, wI_ne, wJ_1, wJ_eq, wJ_ne, wI_2, wJ_3, iI_div, iI_rem, jI_div, jI_rem, true_or, or_true, false_or, or_false, eq_self, Nat.add_zero]
        exact c12_comesTo hly (by omega) (k3.fr f4 (by unfold mmP; omega) (fun k => by unfold mmP; omega)) hj (mv_v hv hft) (fun m5 f5 h5 _ => hQ1 hft m5 (((f03.mono (fun a k h => Or.inl h)).tr (f4.mono (fun a k h => Or.inr (Or.inl h)))).tr (f5.mono (fun a k h => Or.inr h))) h5)
      · simp (disch := omega) only [forall_eq, true_and, and_true, false_and, and_false, forall_const, true_implies, implies_true, not_true_eq_false, not_false_eq_true, false_implies, if_true, if_false, ↓reduceIte, Int.toNat_natCast, Int.reduceEq, Int.reduceNe, Int.reduceLT, Int.reduceLE, Int.reduceToNat, Int.reduceAdd, Int.reduceSub, Int.reduceMul, Int.reduceNeg, Nat.reduceAdd, Nat.reduceMul, Nat.reduceSub, iI_lit, jI_lit, iI_add, iI_sub, iI_mul, iI_neg, jI_add, jI_sub, jI_mul, jI_neg, nI_i, lN_j, iI_le, iI_lt, iI_eq, jI_le, jI_lt, jI_eq, iI_in, iI_cl, iI_j, jI_i, cN, inN, wI_eq, wI_ne, wJ_1, wJ_eq, wJ_ne, wI_2, wJ_3, iI_div, iI_rem, jI_div, jI_rem, true_or, or_true, false_or, or_false, eq_self, Nat.add_zero]
        exact c12_finds (e := 4) hly (by decide) (by omega) (hQ2 hft m4 ((f03.mono (fun a k h => Or.inl h)).tr (f4.mono (fun a k h => Or.inr h))))
    refine c_advance hT (by omega) hg.1 hv.2.2 (by omega) (by omega) (fun hft m1 f1 g1 => ?_) (fun hft => ?_)
    · simp (disch := omega) only [forall_eq, true_and, and_true, false_and, and_false, forall_const, true_implies, implies_true, not_true_eq_false, not_false_eq_true, false_implies, if_true, if_false, ↓reduceIte, Int.toNat_natCast, Int.reduceEq, Int.reduceNe, Int.reduceLT, Int.reduceLE, Int.reduceToNat, Int.reduceAdd, Int.reduceSub, Int.reduceMul, Int.reduceNeg, Nat.reduceAdd, Nat.reduceMul, Nat.reduceSub, iI_lit, jI_lit, iI_add, iI_sub, iI_mul, iI_neg, jI_add, jI_sub, jI_mul, jI_neg, nI_i, lN_j, iI_le, iI_lt, iI_eq, jI_le, jI_lt, jI_eq, iI_in, iI_cl, iI_j, jI_i, cN, inN, wI_eq, wI_ne, wJ_1, wJ_eq, wJ_ne, wI_2, wJ_3, iI_div, iI_rem, jI_div, jI_rem, true_or, or_true, false_or, or_false, eq_self, Nat.add_zero]
      have hv2 := mv_v hv hft
      refine c_measure hly (by omega) hT (by omega) hv2.2.2.2.2 (by omega) hv2.1 hv2.2.1 ⟨hft.1, hft.2.1⟩ g1 (fun m2 f2 g2 => ?_)
      rw [g2.1.2.2.2.1]
      have hh2 : hl m2 j t n := (hh.fr f1 (by unfold tgP; omega) (fun k => by unfold tgP; omega)).fr f2 (by unfold meP gaP; omega) (fun k => by unfold meP gaP; omega)
      refine model m2 _ hh2 (fun _ m3 f3 h3 => ⟨rfl, ?_⟩) (fun hn => absurd hft hn)
      have f12 : frw (sltP j) m m2 := (f1.w.mono (fun a k h => ?_)).tr (f2.w.mono (fun a k h => ?_))
      · refine hI.slot hj (f12.tr (f3.w.mono (fun a k h => h.elim (fun h => Or.inr (Or.inl (wkP_sc h))) ctP_slt))) hv2 (g2.fr f3 ?_ ?_) h3
        · intro k h1 h2; unfold wkP ctP mmP; omega
        · intro k; unfold wkP ctP mmP; omega
      · unfold tgP at h; unfold sltP; omega
      · unfold meP gaP at h; unfold sltP scC; omega
    · simp (disch := omega) only [forall_eq, true_and, and_true, false_and, and_false, forall_const, true_implies, implies_true, not_true_eq_false, not_false_eq_true, false_implies, if_true, if_false, ↓reduceIte, Int.toNat_natCast, Int.reduceEq, Int.reduceNe, Int.reduceLT, Int.reduceLE, Int.reduceToNat, Int.reduceAdd, Int.reduceSub, Int.reduceMul, Int.reduceNeg, Nat.reduceAdd, Nat.reduceMul, Nat.reduceSub, iI_lit, jI_lit, iI_add, iI_sub, iI_mul, iI_neg, jI_add, jI_sub, jI_mul, jI_neg, nI_i, lN_j, iI_le, iI_lt, iI_eq, jI_le, jI_lt, jI_eq, iI_in, iI_cl, iI_j, jI_i, cN, inN, wI_eq, wI_ne, wJ_1, wJ_eq, wJ_ne, wI_2, wJ_3, iI_div, iI_rem, jI_div, jI_rem, true_or, or_true, false_or, or_false, eq_self, Nat.add_zero]
      refine c_error (e := 4) hly (by decide) (by omega) (model _ _ (hh.fr (fr.rf.wI (P := fun a k => a = 76) rfl) (by omega) (fun k => by omega)) (fun h => absurd h hft) (fun _ m3 f3 => ⟨rfl, hI.er frw.rf (f3.w.mono (fun a k h => h.elim wkP_sc mmP_sc))⟩))
  · simp (disch := omega) only [forall_eq, true_and, and_true, false_and, and_false, forall_const, true_implies, implies_true, not_true_eq_false, not_false_eq_true, false_implies, if_true, if_false, ↓reduceIte, Int.toNat_natCast, Int.reduceEq, Int.reduceNe, Int.reduceLT, Int.reduceLE, Int.reduceToNat, Int.reduceAdd, Int.reduceSub, Int.reduceMul, Int.reduceNeg, Nat.reduceAdd, Nat.reduceMul, Nat.reduceSub, iI_lit, jI_lit, iI_add, iI_sub, iI_mul, iI_neg, jI_add, jI_sub, jI_mul, jI_neg, nI_i, lN_j, iI_le, iI_lt, iI_eq, jI_le, jI_lt, jI_eq, iI_in, iI_cl, iI_j, jI_i, cN, inN, wI_eq, wI_ne, wJ_1, wJ_eq, wJ_ne, wI_2, wJ_3, iI_div, iI_rem, jI_div, jI_rem, true_or, or_true, false_or, or_false, eq_self, Nat.add_zero, hi]
    exact c_error (e := 1) hly (by decide) (by omega) (bad (by omega))
/-- what two are put together to -/
def jnt (t : Nat → Int) (n : Nat) (u : Nat → Int) (k : Nat) (z : Int) : Nat → Int := tup (tcat t n u) (n + k) z
theorem jn_lvs {t u : Nat → Int} {n k : Nat} {z : Int} (hz : z = 11 ∨ z = 12) : lvs (jnt t n u k z) (n + k + 1) = lvs t n + lvs u k := by
  unfold jnt
  rw [lvs_tup1, lvs_tcat, if_neg (by omega), Nat.add_zero]
theorem jn_crs {t u : Nat → Int} {n k : Nat} {z : Int} (hz : z = 11 ∨ z = 12) : crs (jnt t n u k z) (n + k + 1) = crs t n + crs u k := by
  unfold jnt
  rw [crs_tup1, crs_tcat, if_neg (by omega), Nat.add_zero]
theorem jn_ok {t u : Nat → Int} {n k : Nat} {z : Int} (hz : z = 11 ∨ z = 12) (ht : vT t n) (hu : vT u k) : okT (jnt t n u k z) (n + k + 1) ∧ (ev (jnt t n u k z) (n + k + 1)).1 = 1 := by
  have hh := ev_tcat_h (t := t) (n := n) k hu.1
  rw [ht.2.1, hu.2.1] at hh
  unfold jnt
  refine ⟨okT_tup (okT_tcat ht.1 hu.1) (by omega) (by omega) (by omega) (by omega), ?_⟩
  rw [ev_tup1, evStep_h, if_neg (by omega), if_pos (by omega), hh]
theorem k_join {x1 x2 x3 x4 : Int32} (hly : ∀ S, L S → ly S) (hd1 : 6 ≤ d1) (hd2 : 5 ≤ d2) (hI : Inv c m) : sm_callI E L mX11_join d1 0 0 [.ref (sm_B E + 0), .int x1, .int x2, .int x3, .int x4] m (fun r m1 => sm_callI E L mX12_join d2 0 0 [.ref (sm_B E + 109), .int x1, .int x2, .int x3, .int x4] m1 (fun r2 m2 => r = r2 ∧ Inv c m2)) := by
  obtain ⟨i, i1, i2, rfl⟩ := iI_ex x1
  obtain ⟨j, j1, j2, rfl⟩ := iI_ex x2
  obtain ⟨w, w1, w2, rfl⟩ := iI_ex x3
  obtain ⟨o, o1, o2, rfl⟩ := iI_ex x4
  by_cases hi : 0 ≤ i ∧ i < 6
  rotate_left
  · refine vX11_join_0 hly hd1 (c_isSlot i1 i2 (by omega) ?_)
    simp (disch := omega) only [forall_eq, true_and, and_true, false_and, and_false, forall_const, true_implies, implies_true, not_true_eq_false, not_false_eq_true, false_implies, if_true, if_false, ↓reduceIte, Int.toNat_natCast, Int.reduceEq, Int.reduceNe, Int.reduceLT, Int.reduceLE, Int.reduceToNat, Int.reduceAdd, Int.reduceSub, Int.reduceMul, Int.reduceNeg, Nat.reduceAdd, Nat.reduceMul, Nat.reduceSub, iI_lit, jI_lit, iI_add, iI_sub, iI_mul, iI_neg, jI_add, jI_sub, jI_mul, jI_neg, nI_i, lN_j, iI_le, iI_lt, iI_eq, jI_le, jI_lt, jI_eq, iI_in, iI_cl, iI_j, jI_i, cN, inN, wI_eq, wI_ne, wJ_1, wJ_eq, wJ_ne, wI_2, wJ_3, iI_div, iI_rem, jI_div, jI_rem, true_or, or_true, false_or, or_false, eq_self, Nat.add_zero, hi]
    refine c_error (e := 1) hly (by decide) (by omega) (vX12_join_0 hly hd2 (c12_isSlot i1 i2 (by omega) ?_))
    simp (disch := omega) only [forall_eq, true_and, and_true, false_and, and_false, forall_const, true_implies, implies_true, not_true_eq_false, not_false_eq_true, false_implies, if_true, if_false, ↓reduceIte, Int.toNat_natCast, Int.reduceEq, Int.reduceNe, Int.reduceLT, Int.reduceLE, Int.reduceToNat, Int.reduceAdd, Int.reduceSub, Int.reduceMul, Int.reduceNeg, Nat.reduceAdd, Nat.reduceMul, Nat.reduceSub, iI_lit, jI_lit, iI_add, iI_sub, iI_mul, iI_neg, jI_add, jI_sub, jI_mul, jI_neg, nI_i, lN_j, iI_le, iI_lt, iI_eq, jI_le, jI_lt, jI_eq, iI_in, iI_cl, iI_j, jI_i, cN, inN, wI_eq, wI_ne, wJ_1, wJ_eq, wJ_ne, wI_2, wJ_3, iI_div, iI_rem, jI_div, jI_rem, true_or, or_true, false_or, or_false, eq_self, Nat.add_zero, hi]
    exact c12_finds (e := 1) hly (by decide) (by omega) ⟨rfl, hI.er frw.rf frw.rf⟩
  by_cases hj : 0 ≤ j ∧ j < 6
  rotate_left
  · refine vX11_join_0 hly hd1 (c_isSlot i1 i2 (by omega) ?_)
    simp (disch := omega) only [forall_eq, true_and, and_true, false_and, and_false, forall_const, true_implies, implies_true, not_true_eq_false, not_false_eq_true, false_implies, if_true, if_false, ↓reduceIte, Int.toNat_natCast, Int.reduceEq, Int.reduceNe, Int.reduceLT, Int.reduceLE, Int.reduceToNat, Int.reduceAdd, Int.reduceSub, Int.reduceMul, Int.reduceNeg, Nat.reduceAdd, Nat.reduceMul, Nat.reduceSub, iI_lit, jI_lit, iI_add, iI_sub, iI_mul, iI_neg, jI_add, jI_sub, jI_mul, jI_neg, nI_i, lN_j, iI_le, iI_lt, iI_eq, jI_le, jI_lt, jI_eq, iI_in, iI_cl, iI_j, jI_i, cN, inN, wI_eq, wI_ne, wJ_1, wJ_eq, wJ_ne, wI_2, wJ_3, iI_div, iI_rem, jI_div, jI_rem, true_or, or_true, false_or, or_false, eq_self, Nat.add_zero, hi]
    refine c_isSlot j1 j2 (by omega) ?_
    simp (disch := omega) only [forall_eq, true_and, and_true, false_and, and_false, forall_const, true_implies, implies_true, not_true_eq_false, not_false_eq_true, false_implies, if_true, if_false, ↓reduceIte, Int.toNat_natCast, Int.reduceEq, Int.reduceNe, Int.reduceLT, Int.reduceLE, Int.reduceToNat, Int.reduceAdd, Int.reduceSub, Int.reduceMul, Int.reduceNeg, Nat.reduceAdd, Nat.reduceMul, Nat.reduceSub, iI_lit, jI_lit, iI_add, iI_sub, iI_mul, iI_neg, jI_add, jI_sub, jI_mul, jI_neg, nI_i, lN_j, iI_le, iI_lt, iI_eq, jI_le, jI_lt, jI_eq, iI_in, iI_cl, iI_j, jI_i, cN, inN, wI_eq, wI_ne, wJ_1, wJ_eq, wJ_ne, wI_2, wJ_3, iI_div, iI_rem, jI_div, jI_rem, true_or, or_true, false_or, or_false, eq_self, Nat.add_zero, hj]
    refine c_error (e := 1) hly (by decide) (by omega) (vX12_join_0 hly hd2 (c12_isSlot i1 i2 (by omega) ?_))
    simp (disch := omega) only [forall_eq, true_and, and_true, false_and, and_false, forall_const, true_implies, implies_true, not_true_eq_false, not_false_eq_true, false_implies, if_true, if_false, ↓reduceIte, Int.toNat_natCast, Int.reduceEq, Int.reduceNe, Int.reduceLT, Int.reduceLE, Int.reduceToNat, Int.reduceAdd, Int.reduceSub, Int.reduceMul, Int.reduceNeg, Nat.reduceAdd, Nat.reduceMul, Nat.reduceSub, iI_lit, jI_lit, iI_add, iI_sub, iI_mul, iI_neg, jI_add, jI_sub, jI_mul, jI_neg, nI_i, lN_j, iI_le, iI_lt, iI_eq, jI_le, jI_lt, jI_eq, iI_in, iI_cl, iI_j, jI_i, cN, inN, wI_eq, wI_ne, wJ_1, wJ_eq, wJ_ne, wI_2, wJ_3, iI_div, iI_rem, jI_div, jI_rem, true_or, or_true, false_or, or_false, eq_self, Nat.add_zero, hi]
    refine c12_isSlot j1 j2 (by omega) ?_
    simp (disch := omega) only [forall_eq, true_and, and_true, false_and, and_false, forall_const, true_implies, implies_true, not_true_eq_false, not_false_eq_true, false_implies, if_true, if_false, ↓reduceIte, Int.toNat_natCast, Int.reduceEq, Int.reduceNe, Int.reduceLT, Int.reduceLE, Int.reduceToNat, Int.reduceAdd, Int.reduceSub, Int.reduceMul, Int.reduceNeg, Nat.reduceAdd, Nat.reduceMul, Nat.reduceSub, iI_lit, jI_lit, iI_add, iI_sub, iI_mul, iI_neg, jI_add, jI_sub, jI_mul, jI_neg, nI_i, lN_j, iI_le, iI_lt, iI_eq, jI_le, jI_lt, jI_eq, iI_in, iI_cl, iI_j, jI_i, cN, inN, wI_eq, wI_ne, wJ_1, wJ_eq, wJ_ne, wI_2, wJ_3, iI_div, iI_rem, jI_div, jI_rem, true_or, or_true, false_or, or_false, eq_self, Nat.add_zero, hj]
    exact c12_finds (e := 1) hly (by decide) (by omega) ⟨rfl, hI.er frw.rf frw.rf⟩
  by_cases hw : w = 0 ∨ w = 1
  rotate_left
  · refine vX11_join_0 hly hd1 (c_isSlot i1 i2 (by omega) ?_)
    simp (disch := omega) only [forall_eq, true_and, and_true, false_and, and_false, forall_const, true_implies, implies_true, not_true_eq_false, not_false_eq_true, false_implies, if_true, if_false, ↓reduceIte, Int.toNat_natCast, Int.reduceEq, Int.reduceNe, Int.reduceLT, Int.reduceLE, Int.reduceToNat, Int.reduceAdd, Int.reduceSub, Int.reduceMul, Int.reduceNeg, Nat.reduceAdd, Nat.reduceMul, Nat.reduceSub, iI_lit, jI_lit, iI_add, iI_sub, iI_mul, iI_neg, jI_add, jI_sub, jI_mul, jI_neg, nI_i, lN_j, iI_le, iI_lt, iI_eq, jI_le, jI_lt, jI_eq, iI_in, iI_cl, iI_j, jI_i, cN, inN, wI_eq, wI_ne, wJ_1, wJ_eq, wJ_ne, wI_2, wJ_3, iI_div, iI_rem, jI_div, jI_rem, true_or, or_true, false_or, or_false, eq_self, Nat.add_zero, hi]
    refine c_isSlot j1 j2 (by omega) ?_
    simp (disch := omega) only [forall_eq, true_and, and_true, false_and, and_false, forall_const, true_implies, implies_true, not_true_eq_false, not_false_eq_true, false_implies, if_true, if_false, ↓reduceIte, Int.toNat_natCast, Int.reduceEq, Int.reduceNe, Int.reduceLT, Int.reduceLE, Int.reduceToNat, Int.reduceAdd, Int.reduceSub, Int.reduceMul, Int.reduceNeg, Nat.reduceAdd, Nat.reduceMul, Nat.reduceSub, iI_lit, jI_lit, iI_add, iI_sub, iI_mul, iI_neg, jI_add, jI_sub, jI_mul, jI_neg, nI_i, lN_j, iI_le, iI_lt, iI_eq, jI_le, jI_lt, jI_eq, iI_in, iI_cl, iI_j, jI_i, cN, inN, wI_eq, wI_ne, wJ_1, wJ_eq, wJ_ne, wI_2, wJ_3, iI_div, iI_rem, jI_div, jI_rem, true_or, or_true, false_or, or_false, eq_self, Nat.add_zero, hj]
    refine c_isChoice w1 w2 (by omega) ?_
    simp (disch := omega) only [forall_eq, true_and, and_true, false_and, and_false, forall_const, true_implies, implies_true, not_true_eq_false, not_false_eq_true, false_implies, if_true, if_false, ↓reduceIte, Int.toNat_natCast, Int.reduceEq, Int.reduceNe, Int.reduceLT, Int.reduceLE, Int.reduceToNat, Int.reduceAdd, Int.reduceSub, Int.reduceMul, Int.reduceNeg, Nat.reduceAdd, Nat.reduceMul, Nat.reduceSub, iI_lit, jI_lit, iI_add, iI_sub, iI_mul, iI_neg, jI_add, jI_sub, jI_mul, jI_neg, nI_i, lN_j, iI_le, iI_lt, iI_eq, jI_le, jI_lt, jI_eq, iI_in, iI_cl, iI_j, jI_i, cN, inN, wI_eq, wI_ne, wJ_1, wJ_eq, wJ_ne, wI_2, wJ_3, iI_div, iI_rem, jI_div, jI_rem, true_or, or_true, false_or, or_false, eq_self, Nat.add_zero, hw]
    refine c_error (e := 1) hly (by decide) (by omega) (vX12_join_0 hly hd2 (c12_isSlot i1 i2 (by omega) ?_))
    simp (disch := omega) only [forall_eq, true_and, and_true, false_and, and_false, forall_const, true_implies, implies_true, not_true_eq_false, not_false_eq_true, false_implies, if_true, if_false, ↓reduceIte, Int.toNat_natCast, Int.reduceEq, Int.reduceNe, Int.reduceLT, Int.reduceLE, Int.reduceToNat, Int.reduceAdd, Int.reduceSub, Int.reduceMul, Int.reduceNeg, Nat.reduceAdd, Nat.reduceMul, Nat.reduceSub, iI_lit, jI_lit, iI_add, iI_sub, iI_mul, iI_neg, jI_add, jI_sub, jI_mul, jI_neg, nI_i, lN_j, iI_le, iI_lt, iI_eq, jI_le, jI_lt, jI_eq, iI_in, iI_cl, iI_j, jI_i, cN, inN, wI_eq, wI_ne, wJ_1, wJ_eq, wJ_ne, wI_2, wJ_3, iI_div, iI_rem, jI_div, jI_rem, true_or, or_true, false_or, or_false, eq_self, Nat.add_zero, hi]
    refine c12_isSlot j1 j2 (by omega) ?_
    simp (disch := omega) only [forall_eq, true_and, and_true, false_and, and_false, forall_const, true_implies, implies_true, not_true_eq_false, not_false_eq_true, false_implies, if_true, if_false, ↓reduceIte, Int.toNat_natCast, Int.reduceEq, Int.reduceNe, Int.reduceLT, Int.reduceLE, Int.reduceToNat, Int.reduceAdd, Int.reduceSub, Int.reduceMul, Int.reduceNeg, Nat.reduceAdd, Nat.reduceMul, Nat.reduceSub, iI_lit, jI_lit, iI_add, iI_sub, iI_mul, iI_neg, jI_add, jI_sub, jI_mul, jI_neg, nI_i, lN_j, iI_le, iI_lt, iI_eq, jI_le, jI_lt, jI_eq, iI_in, iI_cl, iI_j, jI_i, cN, inN, wI_eq, wI_ne, wJ_1, wJ_eq, wJ_ne, wI_2, wJ_3, iI_div, iI_rem, jI_div, jI_rem, true_or, or_true, false_or, or_false, eq_self, Nat.add_zero, hj]
    refine c12_isPart w1 w2 (by omega) ?_
    simp (disch := omega) only [forall_eq, true_and, and_true, false_and, and_false, forall_const, true_implies, implies_true, not_true_eq_false, not_false_eq_true, false_implies, if_true, if_false, ↓reduceIte, Int.toNat_natCast, Int.reduceEq, Int.reduceNe, Int.reduceLT, Int.reduceLE, Int.reduceToNat, Int.reduceAdd, Int.reduceSub, Int.reduceMul, Int.reduceNeg, Nat.reduceAdd, Nat.reduceMul, Nat.reduceSub, iI_lit, jI_lit, iI_add, iI_sub, iI_mul, iI_neg, jI_add, jI_sub, jI_mul, jI_neg, nI_i, lN_j, iI_le, iI_lt, iI_eq, jI_le, jI_lt, jI_eq, iI_in, iI_cl, iI_j, jI_i, cN, inN, wI_eq, wI_ne, wJ_1, wJ_eq, wJ_ne, wI_2, wJ_3, iI_div, iI_rem, jI_div, jI_rem, true_or, or_true, false_or, or_false, eq_self, Nat.add_zero, hw]
    exact c12_finds (e := 1) hly (by decide) (by omega) ⟨rfl, hI.er frw.rf frw.rf⟩
  by_cases ho : 0 ≤ o ∧ o < 6
  rotate_left
  · refine vX11_join_0 hly hd1 (c_isSlot i1 i2 (by omega) ?_)
    simp (disch := omega) only [forall_eq, true_and, and_true, false_and, and_false, forall_const, true_implies, implies_true, not_true_eq_false, not_false_eq_true, false_implies, if_true, if_false, ↓reduceIte, Int.toNat_natCast, Int.reduceEq, Int.reduceNe, Int.reduceLT, Int.reduceLE, Int.reduceToNat, Int.reduceAdd, Int.reduceSub, Int.reduceMul, Int.reduceNeg, Nat.reduceAdd, Nat.reduceMul, Nat.reduceSub, iI_lit, jI_lit, iI_add, iI_sub, iI_mul, iI_neg, jI_add, jI_sub, jI_mul, jI_neg, nI_i, lN_j, iI_le, iI_lt, iI_eq, jI_le, jI_lt, jI_eq, iI_in, iI_cl, iI_j, jI_i, cN, inN, wI_eq, wI_ne, wJ_1, wJ_eq, wJ_ne, wI_2, wJ_3, iI_div, iI_rem, jI_div, jI_rem, true_or, or_true, false_or, or_false, eq_self, Nat.add_zero, hi]
    refine c_isSlot j1 j2 (by omega) ?_
    simp (disch := omega) only [forall_eq, true_and, and_true, false_and, and_false, forall_const, true_implies, implies_true, not_true_eq_false, not_false_eq_true, false_implies, if_true, if_false, ↓reduceIte, Int.toNat_natCast, Int.reduceEq, Int.reduceNe, Int.reduceLT, Int.reduceLE, Int.reduceToNat, Int.reduceAdd, Int.reduceSub, Int.reduceMul, Int.reduceNeg, Nat.reduceAdd, Nat.reduceMul, Nat.reduceSub, iI_lit, jI_lit, iI_add, iI_sub, iI_mul, iI_neg, jI_add, jI_sub, jI_mul, jI_neg, nI_i, lN_j, iI_le, iI_lt, iI_eq, jI_le, jI_lt, jI_eq, iI_in, iI_cl, iI_j, jI_i, cN, inN, wI_eq, wI_ne, wJ_1, wJ_eq, wJ_ne, wI_2, wJ_3, iI_div, iI_rem, jI_div, jI_rem, true_or, or_true, false_or, or_false, eq_self, Nat.add_zero, hj]
    refine c_isChoice w1 w2 (by omega) ?_
    rw [if_pos hw]
    simp (disch := omega) only [forall_eq, true_and, and_true, false_and, and_false, forall_const, true_implies, implies_true, not_true_eq_false, not_false_eq_true, false_implies, if_true, if_false, ↓reduceIte, Int.toNat_natCast, Int.reduceEq, Int.reduceNe, Int.reduceLT, Int.reduceLE, Int.reduceToNat, Int.reduceAdd, Int.reduceSub, Int.reduceMul, Int.reduceNeg, Nat.reduceAdd, Nat.reduceMul, Nat.reduceSub, iI_lit, jI_lit, iI_add, iI_sub, iI_mul, iI_neg, jI_add, jI_sub, jI_mul, jI_neg, nI_i, lN_j, iI_le, iI_lt, iI_eq, jI_le, jI_lt, jI_eq, iI_in, iI_cl, iI_j, jI_i, cN, inN, wI_eq, wI_ne, wJ_1, wJ_eq, wJ_ne, wI_2, wJ_3, iI_div, iI_rem, jI_div, jI_rem, true_or, or_true, false_or, or_false, eq_self, Nat.add_zero]
    refine c_isSlot o1 o2 (by omega) ?_
    simp (disch := omega) only [forall_eq, true_and, and_true, false_and, and_false, forall_const, true_implies, implies_true, not_true_eq_false, not_false_eq_true, false_implies, if_true, if_false, ↓reduceIte, Int.toNat_natCast, Int.reduceEq, Int.reduceNe, Int.reduceLT, Int.reduceLE, Int.reduceToNat, Int.reduceAdd, Int.reduceSub, Int.reduceMul, Int.reduceNeg, Nat.reduceAdd, Nat.reduceMul, Nat.reduceSub, iI_lit, jI_lit, iI_add, iI_sub, iI_mul, iI_neg, jI_add, jI_sub, jI_mul, jI_neg, nI_i, lN_j, iI_le, iI_lt, iI_eq, jI_le, jI_lt, jI_eq, iI_in, iI_cl, iI_j, jI_i, cN, inN, wI_eq, wI_ne, wJ_1, wJ_eq, wJ_ne, wI_2, wJ_3, iI_div, iI_rem, jI_div, jI_rem, true_or, or_true, false_or, or_false, eq_self, Nat.add_zero, ho]
    refine c_error (e := 1) hly (by decide) (by omega) (vX12_join_0 hly hd2 (c12_isSlot i1 i2 (by omega) ?_))
    simp (disch := omega) only [forall_eq, true_and, and_true, false_and, and_false, forall_const, true_implies, implies_true, not_true_eq_false, not_false_eq_true, false_implies, if_true, if_false, ↓reduceIte, Int.toNat_natCast, Int.reduceEq, Int.reduceNe, Int.reduceLT, Int.reduceLE, Int.reduceToNat, Int.reduceAdd, Int.reduceSub, Int.reduceMul, Int.reduceNeg, Nat.reduceAdd, Nat.reduceMul, Nat.reduceSub, iI_lit, jI_lit, iI_add, iI_sub, iI_mul, iI_neg, jI_add, jI_sub, jI_mul, jI_neg, nI_i, lN_j, iI_le, iI_lt, iI_eq, jI_le, jI_lt, jI_eq, iI_in, iI_cl, iI_j, jI_i, cN, inN, wI_eq, wI_ne, wJ_1, wJ_eq, wJ_ne, wI_2, wJ_3, iI_div, iI_rem, jI_div, jI_rem, true_or, or_true, false_or, or_false, eq_self, Nat.add_zero, hi]
    refine c12_isSlot j1 j2 (by omega) ?_
    simp (disch := omega) only [forall_eq, true_and, and_true, false_and, and_false, forall_const, true_implies, implies_true, not_true_eq_false, not_false_eq_true, false_implies, if_true, if_false, ↓reduceIte, Int.toNat_natCast, Int.reduceEq, Int.reduceNe, Int.reduceLT, Int.reduceLE, Int.reduceToNat, Int.reduceAdd, Int.reduceSub, Int.reduceMul, Int.reduceNeg, Nat.reduceAdd, Nat.reduceMul, Nat.reduceSub, iI_lit, jI_lit, iI_add, iI_sub, iI_mul, iI_neg, jI_add, jI_sub, jI_mul, jI_neg, nI_i, lN_j, iI_le, iI_lt, iI_eq, jI_le, jI_lt, jI_eq, iI_in, iI_cl, iI_j, jI_i, cN, inN, wI_eq, wI_ne, wJ_1, wJ_eq, wJ_ne, wI_2, wJ_3, iI_div, iI_rem, jI_div, jI_rem, true_or, or_true, false_or, or_false, eq_self, Nat.add_zero, hj]
    refine c12_isPart w1 w2 (by omega) ?_
    rw [if_pos hw]
    simp (disch := omega) only [forall_eq, true_and, and_true, false_and, and_false, forall_const, true_implies, implies_true, not_true_eq_false, not_false_eq_true, false_implies, if_true, if_false, ↓reduceIte, Int.toNat_natCast, Int.reduceEq, Int.reduceNe, Int.reduceLT, Int.reduceLE, Int.reduceToNat, Int.reduceAdd, Int.reduceSub, Int.reduceMul, Int.reduceNeg, Nat.reduceAdd, Nat.reduceMul, Nat.reduceSub, iI_lit, jI_lit, iI_add, iI_sub, iI_mul, iI_neg, jI_add, jI_sub, jI_mul, jI_neg, nI_i, lN_j, iI_le, iI_lt, iI_eq, jI_le, jI_lt, jI_eq, iI_in, iI_cl, iI_j, jI_i, cN, inN, wI_eq, wI_ne, wJ_1, wJ_eq, wJ_ne, wI_2, wJ_3, iI_div, iI_rem, jI_div, jI_rem, true_or, or_true, false_or, or_false, eq_self, Nat.add_zero]
    refine c12_isSlot o1 o2 (by omega) ?_
    simp (disch := omega) only [forall_eq, true_and, and_true, false_and, and_false, forall_const, true_implies, implies_true, not_true_eq_false, not_false_eq_true, false_implies, if_true, if_false, ↓reduceIte, Int.toNat_natCast, Int.reduceEq, Int.reduceNe, Int.reduceLT, Int.reduceLE, Int.reduceToNat, Int.reduceAdd, Int.reduceSub, Int.reduceMul, Int.reduceNeg, Nat.reduceAdd, Nat.reduceMul, Nat.reduceSub, iI_lit, jI_lit, iI_add, iI_sub, iI_mul, iI_neg, jI_add, jI_sub, jI_mul, jI_neg, nI_i, lN_j, iI_le, iI_lt, iI_eq, jI_le, jI_lt, jI_eq, iI_in, iI_cl, iI_j, jI_i, cN, inN, wI_eq, wI_ne, wJ_1, wJ_eq, wJ_ne, wI_2, wJ_3, iI_div, iI_rem, jI_div, jI_rem, true_or, or_true, false_or, or_false, eq_self, Nat.add_zero, ho]
    exact c12_finds (e := 1) hly (by decide) (by omega) ⟨rfl, hI.er frw.rf frw.rf⟩
  obtain ⟨a, rfl⟩ : ∃ a : Nat, i = (a : Int) := ⟨i.toNat, by omega⟩
  obtain ⟨b, rfl⟩ : ∃ b : Nat, j = (b : Int) := ⟨j.toNat, by omega⟩
  obtain ⟨e, rfl⟩ : ∃ e : Nat, o = (e : Int) := ⟨o.toNat, by omega⟩
  obtain ⟨z, hz⟩ : ∃ z : Int, z = if w = 0 then 11 else 12 := ⟨_, rfl⟩
  have hz2 : z = 11 ∨ z = 12 := by rw [hz]; split <;> simp
  have ha : a < 6 := by omega
  have hb : b < 6 := by omega
  have he : e < 6 := by omega
  obtain ⟨t, n, hv, hg, hh⟩ := hI.2.1.1 a ha
  obtain ⟨u, k, hv', hg', hh'⟩ := hI.2.1.1 b hb
  obtain ⟨l1, l2, l3⟩ := hv.2.2
  obtain ⟨l1', l2', l3'⟩ := hv'.2.2
  have q1 := jn_lvs (t := t) (u := u) (n := n) (k := k) hz2
  have q2 := jn_crs (t := t) (u := u) (n := n) (k := k) hz2
  obtain ⟨q3, q4⟩ := jn_ok hz2 hv hv'
  have model : ∀ (m1 : sm_M) (Q : Int32 → sm_M → Prop), hl m1 a t n → hl m1 b u k → (fit (jnt t n u k z) (n + k + 1) → ∀ m2, fr (fun a k => wkP a k ∨ ctP e a k) m1 m2 → hl m2 e (jnt t n u k z) (n + k + 1) → Q (iI (crs (jnt t n u k z) (n + k + 1) : Nat)) m2) → (¬ fit (jnt t n u k z) (n + k + 1) → ∀ m2, fr (fun a k => wkP a k ∨ mmP a k) m1 m2 → Q (iI (-1000000000 - (4 : Nat))) (sm_wI m2 110 4 (m2.1 110 4 + 1))) → sm_callI E L mX12_join d2 0 0 [.ref (sm_B E + 109), .int (iI (a : Nat)), .int (iI (b : Nat)), .int (iI w), .int (iI (e : Nat))] m1 Q := by
    intro m1 Q h1 h2 hQ1 hQ2
    have tail : ∀ (vs : List Value) (m3 : sm_M), fr wkP m1 m3 → wk m3 (tcat t n u) (n + k) → gX12_join_62 E L d2 vs (iI (e : Nat)) (iI (tc z)) m3 Q := by
      intro vs m3 f3 k3
      refine vX12_join_62 hly hd2 (c12_puts hly k3 (by omega) (by omega) (fun m4 f4 k4 => ?_))
      have f14 := f3.tr f4
      refine c12_isTooMuch hly (by omega) k4 (by omega) q3 (Nat.le_of_eq q4.symm) (fun hft m5 f5 => ?_) (fun hft m5 f5 => ?_)
      · simp (disch := omega) only [forall_eq, true_and, and_true, false_and, and_false, forall_const, true_implies, implies_true, not_true_eq_false, not_false_eq_true, false_implies, if_true, if_false, ↓reduceIte, Int.toNat_natCast, Int.reduceEq, Int.reduceNe, Int.reduceLT, Int.reduceLE, Int.reduceToNat, Int.reduceAdd, Int.reduceSub, Int.reduceMul, Int.reduceNeg, Nat.reduceAdd, Nat.reduceMul, Nat.reduceSub, iI_lit, jI_lit, iI_add, iI_sub, iI_mul, iI_neg, jI_add, jI_sub, jI_mul, jI_neg, nI_i, lN_j, iI_le, iI_lt, iI_eq, jI_le, jI_lt, jI_eq, iI_in, iI_cl, iI_j, jI_i, cN, inN, wI_eq, wI_ne, wJ_1, wJ_eq, wJ_ne, wI_2, wJ_3, iI_div, iI_rem, jI_div, jI_rem, true_or, or_true, false_or, or_false, eq_self, Nat.add_zero]
        exact c12_comesTo hly (by omega) (k4.fr f5 (by unfold mmP; omega) (fun k => by unfold mmP; omega)) he ⟨q3, q4, hft⟩ (fun m6 f6 h6 _ => hQ1 hft m6 (((f14.mono (fun a k h => Or.inl h)).tr (f5.mono (fun a k h => Or.inr (Or.inl h)))).tr (f6.mono (fun a k h => Or.inr h))) h6)
      · simp (disch := omega) only [forall_eq, true_and, and_true, false_and, and_false, forall_const, true_implies, implies_true, not_true_eq_false, not_false_eq_true, false_implies, if_true, if_false, ↓reduceIte, Int.toNat_natCast, Int.reduceEq, Int.reduceNe, Int.reduceLT, Int.reduceLE, Int.reduceToNat, Int.reduceAdd, Int.reduceSub, Int.reduceMul, Int.reduceNeg, Nat.reduceAdd, Nat.reduceMul, Nat.reduceSub, iI_lit, jI_lit, iI_add, iI_sub, iI_mul, iI_neg, jI_add, jI_sub, jI_mul, jI_neg, nI_i, lN_j, iI_le, iI_lt, iI_eq, jI_le, jI_lt, jI_eq, iI_in, iI_cl, iI_j, jI_i, cN, inN, wI_eq, wI_ne, wJ_1, wJ_eq, wJ_ne, wI_2, wJ_3, iI_div, iI_rem, jI_div, jI_rem, true_or, or_true, false_or, or_false, eq_self, Nat.add_zero]
        exact c12_finds (e := 4) hly (by decide) (by omega) (hQ2 hft m5 ((f14.mono (fun a k h => Or.inl h)).tr (f5.mono (fun a k h => Or.inr h))))
    refine vX12_join_0 hly hd2 (c12_isSlot i1 i2 (by omega) ?_)
    simp (disch := omega) only [forall_eq, true_and, and_true, false_and, and_false, forall_const, true_implies, implies_true, not_true_eq_false, not_false_eq_true, false_implies, if_true, if_false, ↓reduceIte, Int.toNat_natCast, Int.reduceEq, Int.reduceNe, Int.reduceLT, Int.reduceLE, Int.reduceToNat, Int.reduceAdd, Int.reduceSub, Int.reduceMul, Int.reduceNeg, Nat.reduceAdd, Nat.reduceMul, Nat.reduceSub, iI_lit, jI_lit, iI_add, iI_sub, iI_mul, iI_neg, jI_add, jI_sub, jI_mul, jI_neg, nI_i, lN_j, iI_le, iI_lt, iI_eq, jI_le, jI_lt, jI_eq, iI_in, iI_cl, iI_j, jI_i, cN, inN, wI_eq, wI_ne, wJ_1, wJ_eq, wJ_ne, wI_2, wJ_3, iI_div, iI_rem, jI_div, jI_rem, true_or, or_true, false_or, or_false, eq_self, Nat.add_zero, hi]
    refine c12_isSlot j1 j2 (by omega) ?_
    simp (disch := omega) only [forall_eq, true_and, and_true, false_and, and_false, forall_const, true_implies, implies_true, not_true_eq_false, not_false_eq_true, false_implies, if_true, if_false, ↓reduceIte, Int.toNat_natCast, Int.reduceEq, Int.reduceNe, Int.reduceLT, Int.reduceLE, Int.reduceToNat, Int.reduceAdd, Int.reduceSub, Int.reduceMul, Int.reduceNeg, Nat.reduceAdd, Nat.reduceMul, Nat.reduceSub, iI_lit, jI_lit, iI_add, iI_sub, iI_mul, iI_neg, jI_add, jI_sub, jI_mul, jI_neg, nI_i, lN_j, iI_le, iI_lt, iI_eq, jI_le, jI_lt, jI_eq, iI_in, iI_cl, iI_j, jI_i, cN, inN, wI_eq, wI_ne, wJ_1, wJ_eq, wJ_ne, wI_2, wJ_3, iI_div, iI_rem, jI_div, jI_rem, true_or, or_true, false_or, or_false, eq_self, Nat.add_zero, hj]
    refine c12_isPart w1 w2 (by omega) ?_
    rw [if_pos hw]
    simp (disch := omega) only [forall_eq, true_and, and_true, false_and, and_false, forall_const, true_implies, implies_true, not_true_eq_false, not_false_eq_true, false_implies, if_true, if_false, ↓reduceIte, Int.toNat_natCast, Int.reduceEq, Int.reduceNe, Int.reduceLT, Int.reduceLE, Int.reduceToNat, Int.reduceAdd, Int.reduceSub, Int.reduceMul, Int.reduceNeg, Nat.reduceAdd, Nat.reduceMul, Nat.reduceSub, iI_lit, jI_lit, iI_add, iI_sub, iI_mul, iI_neg, jI_add, jI_sub, jI_mul, jI_neg, nI_i, lN_j, iI_le, iI_lt, iI_eq, jI_le, jI_lt, jI_eq, iI_in, iI_cl, iI_j, jI_i, cN, inN, wI_eq, wI_ne, wJ_1, wJ_eq, wJ_ne, wI_2, wJ_3, iI_div, iI_rem, jI_div, jI_rem, true_or, or_true, false_or, or_false, eq_self, Nat.add_zero]
    refine c12_isSlot o1 o2 (by omega) ?_
    simp (disch := omega) only [forall_eq, true_and, and_true, false_and, and_false, forall_const, true_implies, implies_true, not_true_eq_false, not_false_eq_true, false_implies, if_true, if_false, ↓reduceIte, Int.toNat_natCast, Int.reduceEq, Int.reduceNe, Int.reduceLT, Int.reduceLE, Int.reduceToNat, Int.reduceAdd, Int.reduceSub, Int.reduceMul, Int.reduceNeg, Nat.reduceAdd, Nat.reduceMul, Nat.reduceSub, iI_lit, jI_lit, iI_add, iI_sub, iI_mul, iI_neg, jI_add, jI_sub, jI_mul, jI_neg, nI_i, lN_j, iI_le, iI_lt, iI_eq, jI_le, jI_lt, jI_eq, iI_in, iI_cl, iI_j, jI_i, cN, inN, wI_eq, wI_ne, wJ_1, wJ_eq, wJ_ne, wI_2, wJ_3, iI_div, iI_rem, jI_div, jI_rem, true_or, or_true, false_or, or_false, eq_self, Nat.add_zero, ho]
    have f0 : fr wkP m1 (sm_wI m1 109 6 (iI 0)) := fr.rf.wI (Or.inl ⟨rfl, rfl⟩)
    refine c12_putsSlot (t := fun _ => 0) (n := 0) (u := t) (k := n) hly ha l3 (by omega) (by omega) ⟨by simp (disch := omega) only [forall_eq, true_and, and_true, false_and, and_false, forall_const, true_implies, implies_true, not_true_eq_false, not_false_eq_true, false_implies, if_true, if_false, ↓reduceIte, Int.toNat_natCast, Int.reduceEq, Int.reduceNe, Int.reduceLT, Int.reduceLE, Int.reduceToNat, Int.reduceAdd, Int.reduceSub, Int.reduceMul, Int.reduceNeg, Nat.reduceAdd, Nat.reduceMul, Nat.reduceSub, iI_lit, jI_lit, iI_add, iI_sub, iI_mul, iI_neg, jI_add, jI_sub, jI_mul, jI_neg, nI_i, lN_j, iI_le, iI_lt, iI_eq, jI_le, jI_lt, jI_eq, iI_in, iI_cl, iI_j, jI_i, cN, inN, wI_eq, wI_ne, wJ_1, wJ_eq, wJ_ne, wI_2, wJ_3, iI_div, iI_rem, jI_div, jI_rem, true_or, or_true, false_or, or_false, eq_self, Nat.add_zero]; rfl, fun k hk => absurd hk (Nat.not_lt_zero _)⟩ (h1.fr f0 (by unfold wkP; omega) (fun k => by unfold wkP; omega)) (fun m2 f2 k2 => ?_)
    rw [tcat_zero, Nat.zero_add] at k2
    refine c12_putsSlot (t := t) (n := n) (u := u) (k := k) hly hb l3' (by omega) (by omega) k2 (h2.fr (f0.tr f2) (by unfold wkP; omega) (fun k => by unfold wkP; omega)) (fun m3 f3 k3 => ?_)
    have h62 : ∀ vs, gX12_join_62 E L d2 vs (iI (e : Nat)) (iI (tc z)) m3 Q := fun vs => tail vs m3 ((f0.tr f2).tr f3) k3
    refine ⟨fun q => ?_, fun q => ?_⟩
    · rw [show z = 12 by rw [hz, if_neg q]] at h62
      exact h62 _
    · rw [show z = 11 by rw [hz, if_pos q]] at h62
      exact h62 _
  have hT := ly_slotT hly ha
  have hT' := ly_slotT hly hb
  have hTw : sm_tan L 3 60 := ly_t hly 3 rfl rfl (j := 25) rfl
  refine vX11_join_0 hly hd1 (c_isSlot i1 i2 (by omega) ?_)
  simp (disch := omega) only [forall_eq, true_and, and_true, false_and, and_false, forall_const, true_implies, implies_true, not_true_eq_false, not_false_eq_true, false_implies, if_true, if_false, ↓reduceIte, Int.toNat_natCast, Int.reduceEq, Int.reduceNe, Int.reduceLT, Int.reduceLE, Int.reduceToNat, Int.reduceAdd, Int.reduceSub, Int.reduceMul, Int.reduceNeg, Nat.reduceAdd, Nat.reduceMul, Nat.reduceSub, iI_lit, jI_lit, iI_add, iI_sub, iI_mul, iI_neg, jI_add, jI_sub, jI_mul, jI_neg, nI_i, lN_j, iI_le, iI_lt, iI_eq, jI_le, jI_lt, jI_eq, iI_in, iI_cl, iI_j, jI_i, cN, inN, wI_eq, wI_ne, wJ_1, wJ_eq, wJ_ne, wI_2, wJ_3, iI_div, iI_rem, jI_div, jI_rem, true_or, or_true, false_or, or_false, eq_self, Nat.add_zero, hi]
  refine c_isSlot j1 j2 (by omega) ?_
  simp (disch := omega) only [forall_eq, true_and, and_true, false_and, and_false, forall_const, true_implies, implies_true, not_true_eq_false, not_false_eq_true, false_implies, if_true, if_false, ↓reduceIte, Int.toNat_natCast, Int.reduceEq, Int.reduceNe, Int.reduceLT, Int.reduceLE, Int.reduceToNat, Int.reduceAdd, Int.reduceSub, Int.reduceMul, Int.reduceNeg, Nat.reduceAdd, Nat.reduceMul, Nat.reduceSub, iI_lit, jI_lit, iI_add, iI_sub, iI_mul, iI_neg, jI_add, jI_sub, jI_mul, jI_neg, nI_i, lN_j, iI_le, iI_lt, iI_eq, jI_le, jI_lt, jI_eq, iI_in, iI_cl, iI_j, jI_i, cN, inN, wI_eq, wI_ne, wJ_1, wJ_eq, wJ_ne, wI_2, wJ_3, iI_div, iI_rem, jI_div, jI_rem, true_or, or_true, false_or, or_false, eq_self, Nat.add_zero, hj]
  refine c_isChoice w1 w2 (by omega) ?_
  rw [if_pos hw]
  simp (disch := omega) only [forall_eq, true_and, and_true, false_and, and_false, forall_const, true_implies, implies_true, not_true_eq_false, not_false_eq_true, false_implies, if_true, if_false, ↓reduceIte, Int.toNat_natCast, Int.reduceEq, Int.reduceNe, Int.reduceLT, Int.reduceLE, Int.reduceToNat, Int.reduceAdd, Int.reduceSub, Int.reduceMul, Int.reduceNeg, Nat.reduceAdd, Nat.reduceMul, Nat.reduceSub, iI_lit, jI_lit, iI_add, iI_sub, iI_mul, iI_neg, jI_add, jI_sub, jI_mul, jI_neg, nI_i, lN_j, iI_le, iI_lt, iI_eq, jI_le, jI_lt, jI_eq, iI_in, iI_cl, iI_j, jI_i, cN, inN, wI_eq, wI_ne, wJ_1, wJ_eq, wJ_ne, wI_2, wJ_3, iI_div, iI_rem, jI_div, jI_rem, true_or, or_true, false_or, or_false, eq_self, Nat.add_zero]
  refine c_isSlot o1 o2 (by omega) ?_
  simp (disch := omega) only [forall_eq, true_and, and_true, false_and, and_false, forall_const, true_implies, implies_true, not_true_eq_false, not_false_eq_true, false_implies, if_true, if_false, ↓reduceIte, Int.toNat_natCast, Int.reduceEq, Int.reduceNe, Int.reduceLT, Int.reduceLE, Int.reduceToNat, Int.reduceAdd, Int.reduceSub, Int.reduceMul, Int.reduceNeg, Nat.reduceAdd, Nat.reduceMul, Nat.reduceSub, iI_lit, jI_lit, iI_add, iI_sub, iI_mul, iI_neg, jI_add, jI_sub, jI_mul, jI_neg, nI_i, lN_j, iI_le, iI_lt, iI_eq, jI_le, jI_lt, jI_eq, iI_in, iI_cl, iI_j, jI_i, cN, inN, wI_eq, wI_ne, wJ_1, wJ_eq, wJ_ne, wI_2, wJ_3, iI_div, iI_rem, jI_div, jI_rem, true_or, or_true, false_or, or_false, eq_self, Nat.add_zero, ho]
  refine ⟨by omega, by omega, ?_⟩
  rw [hg'.1.2.2.1, hg'.1.2.2.2.1, hg'.1.1]
  simp (disch := omega) only [forall_eq, true_and, and_true, false_and, and_false, forall_const, true_implies, implies_true, not_true_eq_false, not_false_eq_true, false_implies, if_true, if_false, ↓reduceIte, Int.toNat_natCast, Int.reduceEq, Int.reduceNe, Int.reduceLT, Int.reduceLE, Int.reduceToNat, Int.reduceAdd, Int.reduceSub, Int.reduceMul, Int.reduceNeg, Nat.reduceAdd, Nat.reduceMul, Nat.reduceSub, iI_lit, jI_lit, iI_add, iI_sub, iI_mul, iI_neg, jI_add, jI_sub, jI_mul, jI_neg, nI_i, lN_j, iI_le, iI_lt, iI_eq, jI_le, jI_lt, jI_eq, iI_in, iI_cl, iI_j, jI_i, cN, inN, wI_eq, wI_ne, wJ_1, wJ_eq, wJ_ne, wI_2, wJ_3, iI_div, iI_rem, jI_div, jI_rem, true_or, or_true, false_or, or_false, eq_self, Nat.add_zero]
  refine c_hasRoom hT (by omega) hg.1 (by omega) (by omega) (by omega) (by omega) ?_
  by_cases hft : fit (jnt t n u k z) (n + k + 1)
  · rw [if_pos (by unfold fit at hft; omega)]
    simp (disch := omega) only [forall_eq, true_and, and_true, false_and, and_false, forall_const, true_implies, implies_true, not_true_eq_false, not_false_eq_true, false_implies, if_true, if_false, ↓reduceIte, Int.toNat_natCast, Int.reduceEq, Int.reduceNe, Int.reduceLT, Int.reduceLE, Int.reduceToNat, Int.reduceAdd, Int.reduceSub, Int.reduceMul, Int.reduceNeg, Nat.reduceAdd, Nat.reduceMul, Nat.reduceSub, iI_lit, jI_lit, iI_add, iI_sub, iI_mul, iI_neg, jI_add, jI_sub, jI_mul, jI_neg, nI_i, lN_j, iI_le, iI_lt, iI_eq, jI_le, jI_lt, jI_eq, iI_in, iI_cl, iI_j, jI_i, cN, inN, wI_eq, wI_ne, wJ_1, wJ_eq, wJ_ne, wI_2, wJ_3, iI_div, iI_rem, jI_div, jI_rem, true_or, or_true, false_or, or_false, eq_self, Nat.add_zero]
    refine c_copy hTw hT (by omega) l3 l3 (by omega) (by omega) (by omega) (by omega) hg (fun m1 f1 g1 => ?_)
    have hg2 : tg m1 (77 + 4 * b) u k := hg'.1.fr f1 (fun k _ _ => by unfold tmP; omega) (fun k => by unfold tmP; omega)
    refine c_append hTw hT' (by omega) l3' (by omega) (by unfold fit at hft; omega) (by omega) (by omega) (by omega) g1.1 hg2 (fun m2 f2 g2 => ?_)
    have fin : sm_callV E L mX8_add 2 0 0 [.ref (sm_B E + 3), .int (iI z)] m2 (fun m3 => sm_callI E L mX11_settle 5 0 0 [.ref (sm_B E + 0), .ref (sm_B E + 3), .int (iI (e : Nat))] m3 (fun r m4 => sm_callI E L mX12_join d2 0 0 [.ref (sm_B E + 109), .int (iI (a : Nat)), .int (iI (b : Nat)), .int (iI w), .int (iI (e : Nat))] m4 (fun r2 m2 => r = r2 ∧ Inv c m2))) := by
      refine c_add hTw (by omega) g2 (by unfold fit at hft; omega) (by omega) (by omega) (by omega) (fun m3 f3 g3 => ?_)
      refine c_settle hly (by omega) hTw (Or.inl rfl) (by unfold fit at hft; omega) (by omega) he ⟨q3, q4, hft⟩ g3 (fun m4 f4 g4 => ?_)
      have fall : fr (fun a k => tmP 3 a k ∨ tgP 3 a k ∨ meP 3 a k ∨ tmP (77 + 4 * e) a k) m m4 := (((f1.mono (fun a k h => Or.inl h)).tr (f2.mono (fun a k h => Or.inr (Or.inl h)))).tr (f3.mono (fun a k h => Or.inr (Or.inl h)))).tr (f4.mono (fun a k h => Or.inr (Or.inr h)))
      refine model m4 _ (hh.fr fall ?_ ?_) (hh'.fr fall ?_ ?_) (fun _ m5 f5 h5 => ⟨rfl, ?_⟩) (fun hn => absurd hft hn)
      · unfold tmP tgP meP gaP; omega
      · intro k; unfold tmP tgP meP gaP; omega
      · unfold tmP tgP meP gaP; omega
      · intro k; unfold tmP tgP meP gaP; omega
      · refine hI.slot he ((fall.w.mono (fun a k h => ?_)).tr (f5.w.mono (fun a k h => h.elim (fun h => Or.inr (Or.inl (wkP_sc h))) ctP_slt))) ⟨q3, q4, hft⟩ (g4.fr f5 ?_ ?_) h5
        · unfold tmP tgP meP gaP at h; unfold sltP scC; omega
        · intro k h1 h2; unfold wkP ctP mmP; omega
        · intro k; unfold wkP ctP mmP; omega
    refine ⟨fun q => ?_, fun q => ?_⟩
    · rw [hz, if_neg q] at fin
      exact fin
    · rw [hz, if_pos q] at fin
      exact fin
  · rw [if_neg (by unfold fit at hft; omega)]
    simp (disch := omega) only [forall_eq, true_and, and_true, false_and, and_false, forall_const, true_implies, implies_true, not_true_eq_false, not_false_eq_true, false_implies, if_true, if_false, ↓reduceIte, Int.toNat_natCast, Int.reduceEq, Int.reduceNe, Int.reduceLT, Int.reduceLE, Int.reduceToNat, Int.reduceAdd, Int.reduceSub, Int.reduceMul, Int.reduceNeg, Nat.reduceAdd, Nat.reduceMul, Nat.reduceSub, iI_lit, jI_lit, iI_add, iI_sub, iI_mul, iI_neg, jI_add, jI_sub, jI_mul, jI_neg, nI_i, lN_j, iI_le, iI_lt, iI_eq, jI_le, jI_lt, jI_eq, iI_in, iI_cl, iI_j, jI_i, cN, inN, wI_eq, wI_ne, wJ_1, wJ_eq, wJ_ne, wI_2, wJ_3, iI_div, iI_rem, jI_div, jI_rem, true_or, or_true, false_or, or_false, eq_self, Nat.add_zero]
    refine c_error (e := 4) hly (by decide) (by omega) (model _ _ (hh.fr (fr.rf.wI (P := fun a k => a = 76) rfl) (by omega) (fun k => by omega)) (hh'.fr (fr.rf.wI (P := fun a k => a = 76) rfl) (by omega) (fun k => by omega)) (fun h => absurd h hft) (fun _ m3 f3 => ⟨rfl, hI.er frw.rf (f3.w.mono (fun a k h => h.elim wkP_sc mmP_sc))⟩))
end K2
