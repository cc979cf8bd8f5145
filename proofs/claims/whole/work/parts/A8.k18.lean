/-! link: the call -/
section K18
variable {E : sm_E} {L : sm_S → Prop} {d1 d2 : Nat} {m : sm_M} {c : Nat}
theorem arP_sc {a k : Nat} (h : arP a k) : scM a k := by
  unfold arP at h
  unfold scM
  omega
theorem k_link {x1 x2 x3 : Int32} (hly : ∀ S, L S → ly S) (hd1 : 6 ≤ d1) (hd2 : 5 ≤ d2) (hI : Inv c m) : sm_callI E L mX11_link d1 0 0 [.ref (sm_B E + 0), .int x1, .int x2, .int x3] m (fun r m1 => sm_callI E L mX12_link d2 0 0 [.ref (sm_B E + 109), .int x1, .int x2, .int x3] m1 (fun r2 m2 => r = r2 ∧ Inv c m2)) := by
  obtain ⟨i, i1, i2, rfl⟩ := iI_ex x1
  obtain ⟨sd, s1, s2, rfl⟩ := iI_ex x2
  obtain ⟨w, w1, w2, rfl⟩ := iI_ex x3
  by_cases hi : 0 ≤ i ∧ i < 6
  rotate_left
  · refine vX11_link_0 hly hd1 (c_isSlot i1 i2 (by omega) ?_)
    simp (disch := omega) only [forall_eq, true_and, and_true, false_and, and_false, forall_const, true_implies, implies_true, not_true_eq_false, not_false_eq_true, false_implies, if_true, if_false, ↓reduceIte, Int.toNat_natCast, Int.reduceEq, Int.reduceNe, Int.reduceLT, Int.reduceLE, Int.reduceToNat, Int.reduceAdd, Int.reduceSub, Int.reduceMul, Int.reduceNeg, Nat.reduceAdd, Nat.reduceMul, Nat.reduceSub, iI_lit, jI_lit, iI_add, iI_sub, iI_mul, iI_neg, jI_add, jI_sub, jI_mul, jI_neg, nI_i, lN_j, iI_le, iI_lt, iI_eq, jI_le, jI_lt, jI_eq, iI_in, iI_cl, iI_j, jI_i, cN, inN, wI_eq, wI_ne, wJ_1, wJ_eq, wJ_ne, wI_2, wJ_3, iI_div, iI_rem, jI_div, jI_rem, true_or, or_true, false_or, or_false, eq_self, Nat.add_zero, hi]
    refine c_error (e := 1) hly (by decide) (by omega) (vX12_link_0 hly hd2 (c12_isSlot i1 i2 (by omega) ?_))
    simp (disch := omega) only [forall_eq, true_and, and_true, false_and, and_false, forall_const, true_implies, implies_true, not_true_eq_false, not_false_eq_true, false_implies, if_true, if_false, ↓reduceIte, Int.toNat_natCast, Int.reduceEq, Int.reduceNe, Int.reduceLT, Int.reduceLE, Int.reduceToNat, Int.reduceAdd, Int.reduceSub, Int.reduceMul, Int.reduceNeg, Nat.reduceAdd, Nat.reduceMul, Nat.reduceSub, iI_lit, jI_lit, iI_add, iI_sub, iI_mul, iI_neg, jI_add, jI_sub, jI_mul, jI_neg, nI_i, lN_j, iI_le, iI_lt, iI_eq, jI_le, jI_lt, jI_eq, iI_in, iI_cl, iI_j, jI_i, cN, inN, wI_eq, wI_ne, wJ_1, wJ_eq, wJ_ne, wI_2, wJ_3, iI_div, iI_rem, jI_div, jI_rem, true_or, or_true, false_or, or_false, eq_self, Nat.add_zero, hi]
    exact c12_finds (e := 1) hly (by decide) (by omega) ⟨rfl, hI.er frw.rf frw.rf⟩
  by_cases hs : sd = 0 ∨ sd = 1
  rotate_left
  · refine vX11_link_0 hly hd1 (c_isSlot i1 i2 (by omega) ?_)
    simp (disch := omega) only [forall_eq, true_and, and_true, false_and, and_false, forall_const, true_implies, implies_true, not_true_eq_false, not_false_eq_true, false_implies, if_true, if_false, ↓reduceIte, Int.toNat_natCast, Int.reduceEq, Int.reduceNe, Int.reduceLT, Int.reduceLE, Int.reduceToNat, Int.reduceAdd, Int.reduceSub, Int.reduceMul, Int.reduceNeg, Nat.reduceAdd, Nat.reduceMul, Nat.reduceSub, iI_lit, jI_lit, iI_add, iI_sub, iI_mul, iI_neg, jI_add, jI_sub, jI_mul, jI_neg, nI_i, lN_j, iI_le, iI_lt, iI_eq, jI_le, jI_lt, jI_eq, iI_in, iI_cl, iI_j, jI_i, cN, inN, wI_eq, wI_ne, wJ_1, wJ_eq, wJ_ne, wI_2, wJ_3, iI_div, iI_rem, jI_div, jI_rem, true_or, or_true, false_or, or_false, eq_self, Nat.add_zero, hi]
    refine c_isChoice s1 s2 (by omega) ?_
    simp (disch := omega) only [forall_eq, true_and, and_true, false_and, and_false, forall_const, true_implies, implies_true, not_true_eq_false, not_false_eq_true, false_implies, if_true, if_false, ↓reduceIte, Int.toNat_natCast, Int.reduceEq, Int.reduceNe, Int.reduceLT, Int.reduceLE, Int.reduceToNat, Int.reduceAdd, Int.reduceSub, Int.reduceMul, Int.reduceNeg, Nat.reduceAdd, Nat.reduceMul, Nat.reduceSub, iI_lit, jI_lit, iI_add, iI_sub, iI_mul, iI_neg, jI_add, jI_sub, jI_mul, jI_neg, nI_i, lN_j, iI_le, iI_lt, iI_eq, jI_le, jI_lt, jI_eq, iI_in, iI_cl, iI_j, jI_i, cN, inN, wI_eq, wI_ne, wJ_1, wJ_eq, wJ_ne, wI_2, wJ_3, iI_div, iI_rem, jI_div, jI_rem, true_or, or_true, false_or, or_false, eq_self, Nat.add_zero, hs]
    refine c_error (e := 1) hly (by decide) (by omega) (vX12_link_0 hly hd2 (c12_isSlot i1 i2 (by omega) ?_))
    simp (disch := omega) only [forall_eq, true_and, and_true, false_and, and_false, forall_const, true_implies, implies_true, not_true_eq_false, not_false_eq_true, false_implies, if_true, if_false, ↓reduceIte, Int.toNat_natCast, Int.reduceEq, Int.reduceNe, Int.reduceLT, Int.reduceLE, Int.reduceToNat, Int.reduceAdd, Int.reduceSub, Int.reduceMul, Int.reduceNeg, Nat.reduceAdd, Nat.reduceMul, Nat.reduceSub, iI_lit, jI_lit, iI_add, iI_sub, iI_mul, iI_neg, jI_add, jI_sub, jI_mul, jI_neg, nI_i, lN_j, iI_le, iI_lt, iI_eq, jI_le, jI_lt, jI_eq, iI_in, iI_cl, iI_j, jI_i, cN, inN, wI_eq, wI_ne, wJ_1, wJ_eq, wJ_ne, wI_2, wJ_3, iI_div, iI_rem, jI_div, jI_rem, true_or, or_true, false_or, or_false, eq_self, Nat.add_zero, hi]
    refine c12_isPart s1 s2 (by omega) ?_
    simp (disch := omega) only [forall_eq, true_and, and_true, false_and, and_false, forall_const, true_implies, implies_true, not_true_eq_false, not_false_eq_true, false_implies, if_true, if_false, ↓reduceIte, Int.toNat_natCast, Int.reduceEq, Int.reduceNe, Int.reduceLT, Int.reduceLE, Int.reduceToNat, Int.reduceAdd, Int.reduceSub, Int.reduceMul, Int.reduceNeg, Nat.reduceAdd, Nat.reduceMul, Nat.reduceSub, iI_lit, jI_lit, iI_add, iI_sub, iI_mul, iI_neg, jI_add, jI_sub, jI_mul, jI_neg, nI_i, lN_j, iI_le, iI_lt, iI_eq, jI_le, jI_lt, jI_eq, iI_in, iI_cl, iI_j, jI_i, cN, inN, wI_eq, wI_ne, wJ_1, wJ_eq, wJ_ne, wI_2, wJ_3, iI_div, iI_rem, jI_div, jI_rem, true_or, or_true, false_or, or_false, eq_self, Nat.add_zero, hs]
    exact c12_finds (e := 1) hly (by decide) (by omega) ⟨rfl, hI.er frw.rf frw.rf⟩
  have badw : ¬ (0 ≤ w ∧ w ≤ 4) → sm_callI E L mX11_error 1 0 0 [.ref (sm_B E + 0), .int (iI 1)] m (fun r m1 => sm_callI E L mX12_link d2 0 0 [.ref (sm_B E + 109), .int (iI i), .int (iI sd), .int (iI w)] m1 (fun r2 m2 => r = r2 ∧ Inv c m2)) := by
    intro hw
    refine c_error (e := 1) hly (by decide) (by omega) (vX12_link_0 hly hd2 (c12_isSlot i1 i2 (by omega) ?_))
    simp (disch := omega) only [forall_eq, true_and, and_true, false_and, and_false, forall_const, true_implies, implies_true, not_true_eq_false, not_false_eq_true, false_implies, if_true, if_false, ↓reduceIte, Int.toNat_natCast, Int.reduceEq, Int.reduceNe, Int.reduceLT, Int.reduceLE, Int.reduceToNat, Int.reduceAdd, Int.reduceSub, Int.reduceMul, Int.reduceNeg, Nat.reduceAdd, Nat.reduceMul, Nat.reduceSub, iI_lit, jI_lit, iI_add, iI_sub, iI_mul, iI_neg, jI_add, jI_sub, jI_mul, jI_neg, nI_i, lN_j, iI_le, iI_lt, iI_eq, jI_le, jI_lt, jI_eq, iI_in, iI_cl, iI_j, jI_i, cN, inN, wI_eq, wI_ne, wJ_1, wJ_eq, wJ_ne, wI_2, wJ_3, iI_div, iI_rem, jI_div, jI_rem, true_or, or_true, false_or, or_false, eq_self, Nat.add_zero, hi]
    refine c12_isPart s1 s2 (by omega) ?_
    simp (disch := omega) only [forall_eq, true_and, and_true, false_and, and_false, forall_const, true_implies, implies_true, not_true_eq_false, not_false_eq_true, false_implies, if_true, if_false, ↓reduceIte, Int.toNat_natCast, Int.reduceEq, Int.reduceNe, Int.reduceLT, Int.reduceLE, Int.reduceToNat, Int.reduceAdd, Int.reduceSub, Int.reduceMul, Int.reduceNeg, Nat.reduceAdd, Nat.reduceMul, Nat.reduceSub, iI_lit, jI_lit, iI_add, iI_sub, iI_mul, iI_neg, jI_add, jI_sub, jI_mul, jI_neg, nI_i, lN_j, iI_le, iI_lt, iI_eq, jI_le, jI_lt, jI_eq, iI_in, iI_cl, iI_j, jI_i, cN, inN, wI_eq, wI_ne, wJ_1, wJ_eq, wJ_ne, wI_2, wJ_3, iI_div, iI_rem, jI_div, jI_rem, true_or, or_true, false_or, or_false, eq_self, Nat.add_zero, hs]
    refine c12_isIn (by omega) (by omega) (by omega) (by omega) (by omega) (by omega) (by omega) ?_
    rw [if_neg hw]
    simp (disch := omega) only [forall_eq, true_and, and_true, false_and, and_false, forall_const, true_implies, implies_true, not_true_eq_false, not_false_eq_true, false_implies, if_true, if_false, ↓reduceIte, Int.toNat_natCast, Int.reduceEq, Int.reduceNe, Int.reduceLT, Int.reduceLE, Int.reduceToNat, Int.reduceAdd, Int.reduceSub, Int.reduceMul, Int.reduceNeg, Nat.reduceAdd, Nat.reduceMul, Nat.reduceSub, iI_lit, jI_lit, iI_add, iI_sub, iI_mul, iI_neg, jI_add, jI_sub, jI_mul, jI_neg, nI_i, lN_j, iI_le, iI_lt, iI_eq, jI_le, jI_lt, jI_eq, iI_in, iI_cl, iI_j, jI_i, cN, inN, wI_eq, wI_ne, wJ_1, wJ_eq, wJ_ne, wI_2, wJ_3, iI_div, iI_rem, jI_div, jI_rem, true_or, or_true, false_or, or_false, eq_self, Nat.add_zero]
    exact c12_finds (e := 1) hly (by decide) (by omega) ⟨rfl, hI.er frw.rf frw.rf⟩
  obtain ⟨j, rfl⟩ : ∃ j : Nat, i = (j : Int) := ⟨i.toNat, by omega⟩
  obtain ⟨side, rfl⟩ : ∃ side : Nat, sd = (side : Int) := ⟨sd.toNat, by omega⟩
  have hj : j < 6 := by omega
  have hside : side = 0 ∨ side = 1 := by omega
  obtain ⟨t, n, hv, hg, hh⟩ := hI.2.1.1 j hj
  obtain ⟨K, Z, W, po, st, ps, ho, ea, hF, kc, kr⟩ := k_draw (E := E) (L := L) hv hside hly
  have hc24 := hF.1
  have hK := hF.2.1
  have hbd := hv.bd
  obtain ⟨V, hV⟩ : ∃ V : Int, V = if side = 0 then Tt t n else Tb t n := ⟨_, rfl⟩
  have hVb : V.natAbs ≤ 16777216 := by rw [hV]; split <;> omega
  have model : 0 ≤ w → w ≤ 4 → ∀ (m1 : sm_M) (Q : Int32 → sm_M → Prop), hl m1 j t n → (∀ m2, frw scM m1 m2 → Q (iI (if w = 0 then (K : Int) else if w = 1 then (Z : Int) else if w = 2 then ((Z + asm ps st K : Nat) : Int) else if w = 3 then sumI (sgn po ea) (crs t n) else (V.natAbs : Int))) m2) → sm_callI E L mX12_link d2 0 0 [.ref (sm_B E + 109), .int (iI (j : Nat)), .int (iI (side : Nat)), .int (iI w)] m1 Q := by
    intro hw1 hw2 m1 Q h1 hQ
    refine vX12_link_0 hly hd2 (c12_isSlot i1 i2 (by omega) ?_)
    simp (disch := omega) only [forall_eq, true_and, and_true, false_and, and_false, forall_const, true_implies, implies_true, not_true_eq_false, not_false_eq_true, false_implies, if_true, if_false, ↓reduceIte, Int.toNat_natCast, Int.reduceEq, Int.reduceNe, Int.reduceLT, Int.reduceLE, Int.reduceToNat, Int.reduceAdd, Int.reduceSub, Int.reduceMul, Int.reduceNeg, Nat.reduceAdd, Nat.reduceMul, Nat.reduceSub, iI_lit, jI_lit, iI_add, iI_sub, iI_mul, iI_neg, jI_add, jI_sub, jI_mul, jI_neg, nI_i, lN_j, iI_le, iI_lt, iI_eq, jI_le, jI_lt, jI_eq, iI_in, iI_cl, iI_j, jI_i, cN, inN, wI_eq, wI_ne, wJ_1, wJ_eq, wJ_ne, wI_2, wJ_3, iI_div, iI_rem, jI_div, jI_rem, true_or, or_true, false_or, or_false, eq_self, Nat.add_zero, hi]
    refine c12_isPart s1 s2 (by omega) ?_
    simp (disch := omega) only [forall_eq, true_and, and_true, false_and, and_false, forall_const, true_implies, implies_true, not_true_eq_false, not_false_eq_true, false_implies, if_true, if_false, ↓reduceIte, Int.toNat_natCast, Int.reduceEq, Int.reduceNe, Int.reduceLT, Int.reduceLE, Int.reduceToNat, Int.reduceAdd, Int.reduceSub, Int.reduceMul, Int.reduceNeg, Nat.reduceAdd, Nat.reduceMul, Nat.reduceSub, iI_lit, jI_lit, iI_add, iI_sub, iI_mul, iI_neg, jI_add, jI_sub, jI_mul, jI_neg, nI_i, lN_j, iI_le, iI_lt, iI_eq, jI_le, jI_lt, jI_eq, iI_in, iI_cl, iI_j, jI_i, cN, inN, wI_eq, wI_ne, wJ_1, wJ_eq, wJ_ne, wI_2, wJ_3, iI_div, iI_rem, jI_div, jI_rem, true_or, or_true, false_or, or_false, eq_self, Nat.add_zero, hs]
    refine c12_isIn (by omega) (by omega) (by omega) (by omega) (by omega) (by omega) (by omega) ?_
    rw [if_pos ⟨hw1, hw2⟩]
    simp (disch := omega) only [forall_eq, true_and, and_true, false_and, and_false, forall_const, true_implies, implies_true, not_true_eq_false, not_false_eq_true, false_implies, if_true, if_false, ↓reduceIte, Int.toNat_natCast, Int.reduceEq, Int.reduceNe, Int.reduceLT, Int.reduceLE, Int.reduceToNat, Int.reduceAdd, Int.reduceSub, Int.reduceMul, Int.reduceNeg, Nat.reduceAdd, Nat.reduceMul, Nat.reduceSub, iI_lit, jI_lit, iI_add, iI_sub, iI_mul, iI_neg, jI_add, jI_sub, jI_mul, jI_neg, nI_i, lN_j, iI_le, iI_lt, iI_eq, jI_le, jI_lt, jI_eq, iI_in, iI_cl, iI_j, jI_i, cN, inN, wI_eq, wI_ne, wJ_1, wJ_eq, wJ_ne, wI_2, wJ_3, iI_div, iI_rem, jI_div, jI_rem, true_or, or_true, false_or, or_false, eq_self, Nat.add_zero]
    refine kr m1 j 4 _ (by omega) hj h1 (fun m2 f2 hM => ?_)
    have h2 : hl m2 j t n := h1.fr f2 (by unfold dMP; omega) (fun k => by unfold dMP; omega)
    refine c12_layArcs hly (by omega) hF hM (fun m3 f3 hM3 v58 _ => ?_)
    have h3 : hl m3 j t n := h2.fr f3 (by unfold arP; omega) (fun k => by unfold arP; omega)
    have s3 : frw scM m1 m3 := (f2.w.mono (fun a k h => dMP_sc h)).tr (f3.w.mono (fun a k h => arP_sc h))
    have loop : ∀ (r b : Nat), b + r = crs t n → gX12_link_48 E L d2 [.ref (sm_B E + 109), .int (iI (j : Nat)), .int (iI (side : Nat)), .int (iI w)] (iI (j : Nat)) (iI (side : Nat)) (iI w) (iI (sumI (sgn po ea) b)) (iI (b : Nat)) m3 Q := by
      intro r
      induction r with
      | zero =>
        intro b hb
        have hbc : b = crs t n := by omega
        refine vX12_link_48 hly hd2 ⟨fun _ => ?_, fun q => ?_⟩
        · refine c12_measured hly (by omega) h3 hj hv (fun m4 f4 g4 => ?_)
          have s4 : frw scM m1 m4 := s3.tr (f4.w.mono (fun a k h => mmP_sc h))
          have hQ4 := hQ m4 s4
          have v52 : m4.1 109 52 = iI (K : Nat) := (f4.i (by unfold mmP; omega)).trans hM3.2.1
          have v54 : m4.1 109 54 = iI (Z : Nat) := (f4.i (by unfold mmP; omega)).trans hM3.2.2.1
          have v58' : m4.1 109 58 = iI ((Z + asm ps st K : Nat) : Int) := (f4.i (by unfold mmP; omega)).trans v58
          have fin : ∀ v : Int, v = V → gX12_link_94 E L d2 [.ref (sm_B E + 109), .int (iI (j : Nat)), .int (iI (side : Nat)), .int (iI w)] (iI w) (iI (sumI (sgn po ea) b)) (jI v) m4 Q := by
            intro v hv2
            refine vX12_link_94 hly hd2 ?_
            simp (disch := omega) only [forall_eq, true_and, and_true, false_and, and_false, forall_const, true_implies, implies_true, not_true_eq_false, not_false_eq_true, false_implies, if_true, if_false, ↓reduceIte, Int.toNat_natCast, Int.reduceEq, Int.reduceNe, Int.reduceLT, Int.reduceLE, Int.reduceToNat, Int.reduceAdd, Int.reduceSub, Int.reduceMul, Int.reduceNeg, Nat.reduceAdd, Nat.reduceMul, Nat.reduceSub, iI_lit, jI_lit, iI_add, iI_sub, iI_mul, iI_neg, jI_add, jI_sub, jI_mul, jI_neg, nI_i, lN_j, iI_le, iI_lt, iI_eq, jI_le, jI_lt, jI_eq, iI_in, iI_cl, iI_j, jI_i, cN, inN, wI_eq, wI_ne, wJ_1, wJ_eq, wJ_ne, wI_2, wJ_3, iI_div, iI_rem, jI_div, jI_rem, true_or, or_true, false_or, or_false, eq_self, Nat.add_zero, v52, v54, v58']
            refine ⟨fun q0 => ⟨fun q1 => ⟨fun q2 => ⟨fun q3 => ⟨fun q4 => ?_, fun q4 => ?_⟩, fun q3 => ?_⟩, fun q2 => ?_⟩, fun q1 => ?_⟩, fun q0 => ?_⟩
            · rw [if_neg q0, if_neg q1, if_neg q2, if_neg q3, show (V.natAbs : Int) = v by omega] at hQ4
              exact hQ4
            · rw [if_neg q0, if_neg q1, if_neg q2, if_neg q3, show (V.natAbs : Int) = -v by omega] at hQ4
              exact hQ4
            · rw [if_neg q0, if_neg q1, if_neg q2, if_pos q3, ← hbc] at hQ4
              exact hQ4
            · rw [if_neg q0, if_neg q1, if_pos q2] at hQ4
              exact hQ4
            · rw [if_neg q0, if_pos q1] at hQ4
              exact hQ4
            · rw [if_pos q0] at hQ4
              exact hQ4
          rw [g4.2.2.1, g4.2.2.2.1]
          refine ⟨fun q => fin _ ?_, fun q => fin _ ?_⟩
          · rw [iI_lit, iI_eq (by omega) (by omega) (by decide) (by decide)] at q
            rw [hV, if_neg (fun q2 => q (by rw [q2]; rfl))]
          · rw [iI_lit, iI_eq (by omega) (by omega) (by decide) (by decide)] at q
            rw [hV, if_pos (Int.ofNat.inj q)]
        · rw [hM3.1, iI_le (by omega) (by omega) (by omega) (by omega)] at q
          omega
      | succ r ih =>
        intro b hb
        have u : ¬ (((crs t n : Nat) : Int) ≤ (b : Int)) := by omega
        have nx := ih (b + 1) (by omega)
        refine vX12_link_48 hly hd2 ?_
        simp (disch := omega) only [forall_eq, true_and, and_true, false_and, and_false, forall_const, true_implies, implies_true, not_true_eq_false, not_false_eq_true, false_implies, if_true, if_false, ↓reduceIte, Int.toNat_natCast, Int.reduceEq, Int.reduceNe, Int.reduceLT, Int.reduceLE, Int.reduceToNat, Int.reduceAdd, Int.reduceSub, Int.reduceMul, Int.reduceNeg, Nat.reduceAdd, Nat.reduceMul, Nat.reduceSub, iI_lit, jI_lit, iI_add, iI_sub, iI_mul, iI_neg, jI_add, jI_sub, jI_mul, jI_neg, nI_i, lN_j, iI_le, iI_lt, iI_eq, jI_le, jI_lt, jI_eq, iI_in, iI_cl, iI_j, jI_i, cN, inN, wI_eq, wI_ne, wJ_1, wJ_eq, wJ_ne, wI_2, wJ_3, iI_div, iI_rem, jI_div, jI_rem, true_or, or_true, false_or, or_false, eq_self, Nat.add_zero, hM3.1, u]
        refine c12_signOf hly (by omega) hF hM3 (by omega) ?_
        simp (disch := omega) only [forall_eq, true_and, and_true, false_and, and_false, forall_const, true_implies, implies_true, not_true_eq_false, not_false_eq_true, false_implies, if_true, if_false, ↓reduceIte, Int.toNat_natCast, Int.reduceEq, Int.reduceNe, Int.reduceLT, Int.reduceLE, Int.reduceToNat, Int.reduceAdd, Int.reduceSub, Int.reduceMul, Int.reduceNeg, Nat.reduceAdd, Nat.reduceMul, Nat.reduceSub, iI_lit, jI_lit, iI_add, iI_sub, iI_mul, iI_neg, jI_add, jI_sub, jI_mul, jI_neg, nI_i, lN_j, iI_le, iI_lt, iI_eq, jI_le, jI_lt, jI_eq, iI_in, iI_cl, iI_j, jI_i, cN, inN, wI_eq, wI_ne, wJ_1, wJ_eq, wJ_ne, wI_2, wJ_3, iI_div, iI_rem, jI_div, jI_rem, true_or, or_true, false_or, or_false, eq_self, Nat.add_zero]
        exact nx
    exact loop (crs t n) 0 (by omega)
  refine vX11_link_0 hly hd1 (c_isSlot i1 i2 (by omega) ?_)
  simp (disch := omega) only [forall_eq, true_and, and_true, false_and, and_false, forall_const, true_implies, implies_true, not_true_eq_false, not_false_eq_true, false_implies, if_true, if_false, ↓reduceIte, Int.toNat_natCast, Int.reduceEq, Int.reduceNe, Int.reduceLT, Int.reduceLE, Int.reduceToNat, Int.reduceAdd, Int.reduceSub, Int.reduceMul, Int.reduceNeg, Nat.reduceAdd, Nat.reduceMul, Nat.reduceSub, iI_lit, jI_lit, iI_add, iI_sub, iI_mul, iI_neg, jI_add, jI_sub, jI_mul, jI_neg, nI_i, lN_j, iI_le, iI_lt, iI_eq, jI_le, jI_lt, jI_eq, iI_in, iI_cl, iI_j, jI_i, cN, inN, wI_eq, wI_ne, wJ_1, wJ_eq, wJ_ne, wI_2, wJ_3, iI_div, iI_rem, jI_div, jI_rem, true_or, or_true, false_or, or_false, eq_self, Nat.add_zero, hi]
  refine c_isChoice s1 s2 (by omega) ?_
  simp (disch := omega) only [forall_eq, true_and, and_true, false_and, and_false, forall_const, true_implies, implies_true, not_true_eq_false, not_false_eq_true, false_implies, if_true, if_false, ↓reduceIte, Int.toNat_natCast, Int.reduceEq, Int.reduceNe, Int.reduceLT, Int.reduceLE, Int.reduceToNat, Int.reduceAdd, Int.reduceSub, Int.reduceMul, Int.reduceNeg, Nat.reduceAdd, Nat.reduceMul, Nat.reduceSub, iI_lit, jI_lit, iI_add, iI_sub, iI_mul, iI_neg, jI_add, jI_sub, jI_mul, jI_neg, nI_i, lN_j, iI_le, iI_lt, iI_eq, jI_le, jI_lt, jI_eq, iI_in, iI_cl, iI_j, jI_i, cN, inN, wI_eq, wI_ne, wJ_1, wJ_eq, wJ_ne, wI_2, wJ_3, iI_div, iI_rem, jI_div, jI_rem, true_or, or_true, false_or, or_false, eq_self, Nat.add_zero, hs]
  refine ⟨fun hw => badw (by omega), fun hw => ⟨fun hw2 => ⟨by omega, fun hw4 => ?_, fun hw4 => ?_⟩, fun hw2 => badw (by omega)⟩⟩
  · refine kc m j 5 _ (by omega) hj hg.1 (fun m1 f1 hC => ?_)
    have s1' : frw scC m m1 := f1.w.mono (fun a k h => dCP_sc h)
    have hh1 : hl m1 j t n := hh.fr f1 (by unfold dCP; omega) (fun k => by unfold dCP; omega)
    have fin : ∀ z : Int, z = (if w = 0 then (K : Int) else if w = 1 then (Z : Int) else if w = 2 then ((Z + asm ps st K : Nat) : Int) else if w = 3 then sumI (sgn po ea) (crs t n) else (V.natAbs : Int)) → sm_callI E L mX12_link d2 0 0 [.ref (sm_B E + 109), .int (iI (j : Nat)), .int (iI (side : Nat)), .int (iI w)] m1 (fun r2 m2 => iI z = r2 ∧ Inv c m2) := by
      intro z hz
      exact model (by omega) hw2 m1 _ hh1 (fun m2 f2 => ⟨by rw [hz], hI.sc s1' f2⟩)
    rw [hC.2.1, hC.2.2.1]
    refine ⟨fun q => fin _ (by rw [if_pos q]), fun q => fin _ (by rw [if_neg (by omega), if_pos q]), fun q => c_arcs hly (by omega) hF hC (fin _ (by rw [if_neg (by omega), if_neg (by omega), if_pos q])), fun q => c_writhe hly (by omega) hF hC (fin _ (by rw [if_neg (by omega), if_neg (by omega), if_neg (by omega), if_pos (by omega)]))⟩
  · subst hw4
    have fin : ∀ z : Int, z = V → sm_callI E L mX12_link d2 0 0 [.ref (sm_B E + 109), .int (iI (j : Nat)), .int (iI (side : Nat)), .int (iI 4)] m (fun r2 m2 => iI (z.natAbs : Nat) = r2 ∧ Inv c m2) := by
      intro z hz
      refine model (by omega) (by omega) m _ hh (fun m2 f2 => ⟨?_, hI.sc frw.rf f2⟩)
      rw [if_neg (by decide), if_neg (by decide), if_neg (by decide), if_neg (by decide), hz]
    rw [hg.2.2.1, hg.2.2.2.1]
    refine ⟨fun q => c_abs (by omega) (by omega) (by omega) (fin _ ?_), fun q => c_abs (by omega) (by omega) (by omega) (fin _ ?_)⟩
    · rw [hV, if_neg (fun q2 => q (by rw [q2]; rfl))]
    · rw [hV, if_pos (Int.ofNat.inj q)]
end K18
