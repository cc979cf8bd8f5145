/-! sheets: sheet, put, of, shift -/
def nar (b : Int) (v : Int64) : Int64 := (v <<< ((iI (64 - b)).toInt64 &&& 63)) >>> ((iI (64 - b)).toInt64 &&& 63)
theorem nar_bits (v : Int64) (s : Nat) (hs : s < 64) (A : Int64) (hA : A.toBitVec.smod 64#64 = BitVec.ofNat 64 s) (i : Nat) (hi : i < 64) : ((v <<< A) >>> A).toBitVec.getLsbD i = v.toBitVec.getLsbD (if i < 64 - s then i else 63 - s) := by
  rw [Int64.toBitVec_shiftRight, Int64.toBitVec_shiftLeft]
  have h64 : (64 : BitVec 64) = 64#64 := rfl
  rw [show (A.toBitVec.smod 64 : BitVec 64) = BitVec.ofNat 64 s from hA]
  have hn : (BitVec.ofNat 64 s).toNat = s := by
    rw [BitVec.toNat_ofNat, Nat.mod_eq_of_lt (by omega)]
  rw [BitVec.sshiftRight', BitVec.getLsbD_sshiftRight, hn, BitVec.msb_eq_getLsbD_last]
  simp only [BitVec.shiftLeft_eq', hn, BitVec.getLsbD_shiftLeft]
  by_cases h : i < 64 - s
  · rw [if_pos h]
    simp [show ¬ 64 ≤ i by omega, show s + i < 64 by omega, show ¬ s + i < s by omega]
  · rw [if_neg h]
    simp [show ¬ 64 ≤ i by omega, show ¬ s + i < 64 by omega, show ¬ 63 < s by omega]
theorem nar8 (v : Int64) : nar 8 v = v.toInt32.toInt8.toInt32.toInt64 := by
  apply Int64.toBitVec_inj.mp
  apply BitVec.eq_of_getLsbD_eq
  intro i hi
  unfold nar
  rw [nar_bits v 56 (by decide) _ (by decide +kernel) i hi]
  rw [Int32.toBitVec_toInt64, Int8.toBitVec_toInt32, Int32.toBitVec_toInt8, Int64.toBitVec_toInt32]
  simp only [BitVec.getLsbD_signExtend, BitVec.msb_eq_getLsbD_last]
  by_cases h : i < 8
  · simp [h, hi, show i < 32 by omega]
  · by_cases h2 : i < 32
    · simp [h, hi, h2]
    · simp [h, hi, h2]
theorem nar16 (v : Int64) : nar 16 v = v.toInt32.toInt16.toInt32.toInt64 := by
  apply Int64.toBitVec_inj.mp
  apply BitVec.eq_of_getLsbD_eq
  intro i hi
  unfold nar
  rw [nar_bits v 48 (by decide) _ (by decide +kernel) i hi]
  rw [Int32.toBitVec_toInt64, Int16.toBitVec_toInt32, Int32.toBitVec_toInt16, Int64.toBitVec_toInt32]
  simp only [BitVec.getLsbD_signExtend, BitVec.msb_eq_getLsbD_last]
  by_cases h : i < 16
  · simp [h, hi, show i < 32 by omega]
  · by_cases h2 : i < 32
    · simp [h, hi, h2]
    · simp [h, hi, h2]
theorem nar32 (v : Int64) : nar 32 v = v.toInt32.toInt64 := by
  apply Int64.toBitVec_inj.mp
  apply BitVec.eq_of_getLsbD_eq
  intro i hi
  unfold nar
  rw [nar_bits v 32 (by decide) _ (by decide +kernel) i hi]
  rw [Int32.toBitVec_toInt64, Int64.toBitVec_toInt32]
  simp only [BitVec.getLsbD_signExtend, BitVec.msb_eq_getLsbD_last]
  by_cases h : i < 32
  · simp [h, hi]
  · simp [h, hi]
theorem nar64 (v : Int64) : nar 64 v = v := by
  apply Int64.toBitVec_inj.mp
  apply BitVec.eq_of_getLsbD_eq
  intro i hi
  unfold nar
  rw [nar_bits v 0 (by decide) _ (by decide +kernel) i hi]
  simp [hi]
def shP (s a k : Nat) : Prop := scC a k ∨ scM a k ∨ a = 101 + 2 * s ∨ a = 102 + 2 * s ∨ (a = 121 ∧ k = s) ∨ (a = 122 ∧ k = s) ∨ (a = 120 ∧ 48 * s ≤ k ∧ k < 48 * s + 48)
theorem Inv.sheet {c s : Nat} {m m' : sm_M} (h : Inv c m) (hs : s < 4) (hf : frw (shP s) m m') (hg : ∃ b n, shn m' s b n) : Inv c m' := by
  obtain ⟨h0, ⟨a1, a2, a3, a4, a5, a6, a7⟩, h9⟩ := h
  refine ⟨h0, ⟨a1.frw hf ?_ ?_, a2.frw hf ?_ ?_ ?_, a3.frw hf ?_, a4.frw hf ?_, a5.frw hf ?_, fun r hr => ?_, a7.frw hf ?_⟩, fun k hk => ?_⟩
  · intro a k h1 h2; unfold shP scC scM; omega
  · intro k; unfold shP scC scM; omega
  · intro a k h1 h2; unfold shP scC scM; omega
  · intro k; unfold shP scC scM; omega
  · unfold shP scC scM; omega
  · unfold shP scC scM; omega
  · refine ⟨by unfold shP scC scM; omega, by unfold shP scC scM; omega, fun k => ?_⟩; unfold shP scC scM; omega
  · refine ⟨by unfold shP scC scM; omega, by unfold shP scC scM; omega, by unfold shP scC scM; omega, fun k => ?_⟩; unfold shP scC scM; omega
  · by_cases hrs : r = s
    · subst hrs
      exact hg
    · obtain ⟨b, n, g1, g2, g3, g4, g5, g6, g7⟩ := a6 r hr
      refine ⟨b, n, g1, g2, ?_, ?_, ?_, ?_, fun k hk => ?_⟩
      · rw [hf.i (by unfold shP scC scM; omega)]; exact g3
      · rw [hf.i (by unfold shP scC scM; omega)]; exact g4
      · rw [hf.i (by unfold shP scC scM; omega)]; exact g5
      · rw [hf.i (by unfold shP scC scM; omega)]; exact g6
      · rw [hf.j (by unfold shP scC scM; omega), hf.j (by unfold shP scC scM; omega)]; exact g7 k hk
  · intro a k h1; unfold shP scC scM; omega
  · rw [hf.i (by unfold shP scC scM; omega), hf.i (by unfold shP scC scM; omega)]
    exact h9 k hk
section SHE
variable {E : sm_E} {L : sm_S → Prop} {d d1 d2 : Nat} {m : sm_M} {c : Nat}
theorem c_isMissing {Q : Int32 → sm_M → Prop} {a : Nat} {b : Int} (hT : sm_she L a) (hd : 1 ≤ d) (hb : m.1 a 1 = iI b) (b1 : 0 ≤ b) (b2 : b ≤ 64) (h : Q (iI (if b = 0 then 1 else 0)) m) : sm_callI E L mX7_isMissing d 0 0 [.ref (sm_B E + a)] m Q := by
  refine vX7_isMissing_0 hd hT ?_
  rw [hb]
  simp (disch := omega) only [forall_eq, true_and, and_true, false_and, and_false, forall_const, true_implies, implies_true, not_true_eq_false, not_false_eq_true, false_implies, if_true, if_false, ↓reduceIte, Int.toNat_natCast, Int.reduceEq, Int.reduceNe, Int.reduceLT, Int.reduceLE, Int.reduceToNat, Int.reduceAdd, Int.reduceSub, Int.reduceMul, Int.reduceNeg, Nat.reduceAdd, Nat.reduceMul, Nat.reduceSub, iI_lit, jI_lit, iI_add, iI_sub, iI_mul, iI_neg, jI_add, jI_sub, jI_mul, jI_neg, nI_i, lN_j, iI_le, iI_lt, iI_eq, jI_le, jI_lt, jI_eq, iI_in, iI_cl, iI_j, jI_i, cN, inN, wI_eq, wI_ne, wJ_1, wJ_eq, wJ_ne, wI_2, wJ_3, iI_div, iI_rem, jI_div, jI_rem, true_or, or_true, false_or, or_false, eq_self, Nat.add_zero]
  refine ⟨fun q => ?_, fun q => ?_⟩
  · rw [if_neg q] at h; exact h
  · rw [if_pos q] at h; exact h
theorem c_has {Q : Int32 → sm_M → Prop} {a n : Nat} {i : Int} (hT : sm_she L a) (hd : 1 ≤ d) (hn : m.1 a 2 = iI (n : Nat)) (hn2 : n ≤ 48) (i1 : -2147483648 ≤ i) (i2 : i ≤ 2147483647) (h : Q (iI (if 0 ≤ i ∧ i < n then 1 else 0)) m) : sm_callI E L mX7_has d 0 0 [.ref (sm_B E + a), .int (iI i)] m Q := by
  refine vX7_has_0 hd hT ?_
  rw [hn]
  simp (disch := omega) only [forall_eq, true_and, and_true, false_and, and_false, forall_const, true_implies, implies_true, not_true_eq_false, not_false_eq_true, false_implies, if_true, if_false, ↓reduceIte, Int.toNat_natCast, Int.reduceEq, Int.reduceNe, Int.reduceLT, Int.reduceLE, Int.reduceToNat, Int.reduceAdd, Int.reduceSub, Int.reduceMul, Int.reduceNeg, Nat.reduceAdd, Nat.reduceMul, Nat.reduceSub, iI_lit, jI_lit, iI_add, iI_sub, iI_mul, iI_neg, jI_add, jI_sub, jI_mul, jI_neg, nI_i, lN_j, iI_le, iI_lt, iI_eq, jI_le, jI_lt, jI_eq, iI_in, iI_cl, iI_j, jI_i, cN, inN, wI_eq, wI_ne, wJ_1, wJ_eq, wJ_ne, wI_2, wJ_3, iI_div, iI_rem, jI_div, jI_rem, true_or, or_true, false_or, or_false, eq_self, Nat.add_zero]
  refine ⟨fun q => ?_, fun q => ⟨fun q2 => ?_, fun q2 => ?_⟩⟩
  · rw [if_neg (by omega)] at h; exact h
  · rw [if_neg (by omega)] at h; exact h
  · rw [if_pos (by omega)] at h; exact h
theorem c_hasRun {Q : Int32 → sm_M → Prop} {a n : Nat} {i x : Int} (hT : sm_she L a) (hd : 1 ≤ d) (hn : m.1 a 2 = iI (n : Nat)) (hn2 : n ≤ 48) (i1 : -2147483648 ≤ i) (i2 : i ≤ 2147483647) (x1 : -2147483648 ≤ x) (x2 : x ≤ 2147483647) (h : Q (iI (if 0 ≤ x ∧ 0 ≤ i ∧ i + x ≤ n then 1 else 0)) m) : sm_callI E L mX7_hasRun d 0 0 [.ref (sm_B E + a), .int (iI i), .int (iI x)] m Q := by
  refine vX7_hasRun_0 hd hT ?_
  rw [hn]
  refine ⟨fun q => ?_, fun q => ⟨fun q2 => ?_, fun q2 => ⟨fun q3 => ?_, fun q3 => ⟨fun q4 => ?_, fun q4 => ?_⟩⟩⟩⟩
  · simp (disch := omega) only [forall_eq, true_and, and_true, false_and, and_false, forall_const, true_implies, implies_true, not_true_eq_false, not_false_eq_true, false_implies, if_true, if_false, ↓reduceIte, Int.toNat_natCast, Int.reduceEq, Int.reduceNe, Int.reduceLT, Int.reduceLE, Int.reduceToNat, Int.reduceAdd, Int.reduceSub, Int.reduceMul, Int.reduceNeg, Nat.reduceAdd, Nat.reduceMul, Nat.reduceSub, iI_lit, jI_lit, iI_add, iI_sub, iI_mul, iI_neg, jI_add, jI_sub, jI_mul, jI_neg, nI_i, lN_j, iI_le, iI_lt, iI_eq, jI_le, jI_lt, jI_eq, iI_in, iI_cl, iI_j, jI_i, cN, inN, wI_eq, wI_ne, wJ_1, wJ_eq, wJ_ne, wI_2, wJ_3, iI_div, iI_rem, jI_div, jI_rem, true_or, or_true, false_or, or_false, eq_self, Nat.add_zero] at q
    rw [if_neg (by omega)] at h; exact h
  · simp (disch := omega) only [forall_eq, true_and, and_true, false_and, and_false, forall_const, true_implies, implies_true, not_true_eq_false, not_false_eq_true, false_implies, if_true, if_false, ↓reduceIte, Int.toNat_natCast, Int.reduceEq, Int.reduceNe, Int.reduceLT, Int.reduceLE, Int.reduceToNat, Int.reduceAdd, Int.reduceSub, Int.reduceMul, Int.reduceNeg, Nat.reduceAdd, Nat.reduceMul, Nat.reduceSub, iI_lit, jI_lit, iI_add, iI_sub, iI_mul, iI_neg, jI_add, jI_sub, jI_mul, jI_neg, nI_i, lN_j, iI_le, iI_lt, iI_eq, jI_le, jI_lt, jI_eq, iI_in, iI_cl, iI_j, jI_i, cN, inN, wI_eq, wI_ne, wJ_1, wJ_eq, wJ_ne, wI_2, wJ_3, iI_div, iI_rem, jI_div, jI_rem, true_or, or_true, false_or, or_false, eq_self, Nat.add_zero] at q q2
    rw [if_neg (by omega)] at h; exact h
  · simp (disch := omega) only [forall_eq, true_and, and_true, false_and, and_false, forall_const, true_implies, implies_true, not_true_eq_false, not_false_eq_true, false_implies, if_true, if_false, ↓reduceIte, Int.toNat_natCast, Int.reduceEq, Int.reduceNe, Int.reduceLT, Int.reduceLE, Int.reduceToNat, Int.reduceAdd, Int.reduceSub, Int.reduceMul, Int.reduceNeg, Nat.reduceAdd, Nat.reduceMul, Nat.reduceSub, iI_lit, jI_lit, iI_add, iI_sub, iI_mul, iI_neg, jI_add, jI_sub, jI_mul, jI_neg, nI_i, lN_j, iI_le, iI_lt, iI_eq, jI_le, jI_lt, jI_eq, iI_in, iI_cl, iI_j, jI_i, cN, inN, wI_eq, wI_ne, wJ_1, wJ_eq, wJ_ne, wI_2, wJ_3, iI_div, iI_rem, jI_div, jI_rem, true_or, or_true, false_or, or_false, eq_self, Nat.add_zero] at q q2 q3
    rw [if_neg (by omega)] at h; exact h
  · simp (disch := omega) only [forall_eq, true_and, and_true, false_and, and_false, forall_const, true_implies, implies_true, not_true_eq_false, not_false_eq_true, false_implies, if_true, if_false, ↓reduceIte, Int.toNat_natCast, Int.reduceEq, Int.reduceNe, Int.reduceLT, Int.reduceLE, Int.reduceToNat, Int.reduceAdd, Int.reduceSub, Int.reduceMul, Int.reduceNeg, Nat.reduceAdd, Nat.reduceMul, Nat.reduceSub, iI_lit, jI_lit, iI_add, iI_sub, iI_mul, iI_neg, jI_add, jI_sub, jI_mul, jI_neg, nI_i, lN_j, iI_le, iI_lt, iI_eq, jI_le, jI_lt, jI_eq, iI_in, iI_cl, iI_j, jI_i, cN, inN, wI_eq, wI_ne, wJ_1, wJ_eq, wJ_ne, wI_2, wJ_3, iI_div, iI_rem, jI_div, jI_rem, true_or, or_true, false_or, or_false, eq_self, Nat.add_zero] at q q2 q3
    simp (disch := omega) only [forall_eq, true_and, and_true, false_and, and_false, forall_const, true_implies, implies_true, not_true_eq_false, not_false_eq_true, false_implies, if_true, if_false, ↓reduceIte, Int.toNat_natCast, Int.reduceEq, Int.reduceNe, Int.reduceLT, Int.reduceLE, Int.reduceToNat, Int.reduceAdd, Int.reduceSub, Int.reduceMul, Int.reduceNeg, Nat.reduceAdd, Nat.reduceMul, Nat.reduceSub, iI_lit, jI_lit, iI_add, iI_sub, iI_mul, iI_neg, jI_add, jI_sub, jI_mul, jI_neg, nI_i, lN_j, iI_le, iI_lt, iI_eq, jI_le, jI_lt, jI_eq, iI_in, iI_cl, iI_j, jI_i, cN, inN, wI_eq, wI_ne, wJ_1, wJ_eq, wJ_ne, wI_2, wJ_3, iI_div, iI_rem, jI_div, jI_rem, true_or, or_true, false_or, or_false, eq_self, Nat.add_zero] at q4
    rw [if_neg (by omega)] at h; exact h
  · simp (disch := omega) only [forall_eq, true_and, and_true, false_and, and_false, forall_const, true_implies, implies_true, not_true_eq_false, not_false_eq_true, false_implies, if_true, if_false, ↓reduceIte, Int.toNat_natCast, Int.reduceEq, Int.reduceNe, Int.reduceLT, Int.reduceLE, Int.reduceToNat, Int.reduceAdd, Int.reduceSub, Int.reduceMul, Int.reduceNeg, Nat.reduceAdd, Nat.reduceMul, Nat.reduceSub, iI_lit, jI_lit, iI_add, iI_sub, iI_mul, iI_neg, jI_add, jI_sub, jI_mul, jI_neg, nI_i, lN_j, iI_le, iI_lt, iI_eq, jI_le, jI_lt, jI_eq, iI_in, iI_cl, iI_j, jI_i, cN, inN, wI_eq, wI_ne, wJ_1, wJ_eq, wJ_ne, wI_2, wJ_3, iI_div, iI_rem, jI_div, jI_rem, true_or, or_true, false_or, or_false, eq_self, Nat.add_zero] at q q2 q3
    simp (disch := omega) only [forall_eq, true_and, and_true, false_and, and_false, forall_const, true_implies, implies_true, not_true_eq_false, not_false_eq_true, false_implies, if_true, if_false, ↓reduceIte, Int.toNat_natCast, Int.reduceEq, Int.reduceNe, Int.reduceLT, Int.reduceLE, Int.reduceToNat, Int.reduceAdd, Int.reduceSub, Int.reduceMul, Int.reduceNeg, Nat.reduceAdd, Nat.reduceMul, Nat.reduceSub, iI_lit, jI_lit, iI_add, iI_sub, iI_mul, iI_neg, jI_add, jI_sub, jI_mul, jI_neg, nI_i, lN_j, iI_le, iI_lt, iI_eq, jI_le, jI_lt, jI_eq, iI_in, iI_cl, iI_j, jI_i, cN, inN, wI_eq, wI_ne, wJ_1, wJ_eq, wJ_ne, wI_2, wJ_3, iI_div, iI_rem, jI_div, jI_rem, true_or, or_true, false_or, or_false, eq_self, Nat.add_zero] at q4
    rw [if_pos (by omega)] at h; exact h
def rsP (a : Nat) : Nat → Nat → Prop := fun b k => (b = a ∧ (k = 1 ∨ k = 2)) ∨ b = a + 1
theorem c_reset {Q : sm_M → Prop} {a n : Nat} {b : Int} (hT : sm_she L a) (hd : 2 ≤ d) (hn2 : n ≤ 48) (h : ∀ m', fr (rsP a) m m' → m'.1 a 1 = iI b → m'.1 a 2 = iI (n : Nat) → (∀ k, k < 48 → m'.2.1 (a + 1) k = jI 0) → Q m') : sm_callV E L mX7_reset d 0 0 [.ref (sm_B E + a), .int (iI b), .int (iI (n : Nat))] m Q := by
  refine vX7_reset_0 hd hT ?_
  simp (disch := omega) only [forall_eq, true_and, and_true, false_and, and_false, forall_const, true_implies, implies_true, not_true_eq_false, not_false_eq_true, false_implies, if_true, if_false, ↓reduceIte, Int.toNat_natCast, Int.reduceEq, Int.reduceNe, Int.reduceLT, Int.reduceLE, Int.reduceToNat, Int.reduceAdd, Int.reduceSub, Int.reduceMul, Int.reduceNeg, Nat.reduceAdd, Nat.reduceMul, Nat.reduceSub, iI_lit, jI_lit, iI_add, iI_sub, iI_mul, iI_neg, jI_add, jI_sub, jI_mul, jI_neg, nI_i, lN_j, iI_le, iI_lt, iI_eq, jI_le, jI_lt, jI_eq, iI_in, iI_cl, iI_j, jI_i, cN, inN, wI_eq, wI_ne, wJ_1, wJ_eq, wJ_ne, wI_2, wJ_3, iI_div, iI_rem, jI_div, jI_rem, true_or, or_true, false_or, or_false, eq_self, Nat.add_zero]
  refine c_max (by omega) (by omega) (by omega) (by omega) (by omega) (c_min (by omega) (by omega) (by omega) (by omega) (by omega) ?_)
  rw [show min (max ((n : Nat) : Int) 0) ((48 : Nat) : Int) = (n : Int) by omega]
  refine c_fillJ (fun S hS => (hT S hS).2.2) (by omega) (by omega) (fun m2 f2 g2 => h m2 (((fr.rf.wI (Or.inl ⟨rfl, Or.inl rfl⟩)).wI (Or.inl ⟨rfl, Or.inr rfl⟩)).tr (f2.mono (fun b k h => Or.inr h))) ?_ ?_ g2)
  · rw [f2.i (by unfold rowP; omega), wI_ne (by omega), wI_eq rfl rfl]
  · rw [f2.i (by unfold rowP; omega), wI_eq rfl rfl]
theorem c_store {Q : sm_M → Prop} {a n : Nat} {b i : Int} {v : Int64} (hT : sm_she L a) (hd : 2 ≤ d) (hb : m.1 a 1 = iI b) (hn : m.1 a 2 = iI (n : Nat)) (hn2 : n ≤ 48) (i1 : 0 ≤ i) (i2 : i < n) (h : Q (sm_wJ m (a + 1) i.toNat (nar b v))) : sm_callV E L mX7_store d 0 0 [.ref (sm_B E + a), .int (iI i), .long v] m Q := by
  refine vX7_store_0 hd hT (c_has hT (by omega) hn hn2 (by omega) (by omega) ?_)
  rw [if_pos ⟨i1, i2⟩]
  refine ⟨fun q => absurd q (by decide), fun _ => ?_⟩
  simp only [forall_eq]
  rw [hb, iI_in (by omega) (by omega), iI_cl (by omega) (by omega)]
  refine ⟨by omega, ?_⟩
  rw [iI_lit, iI_sub]
  exact h
theorem c_at {Q : Int64 → sm_M → Prop} {a n : Nat} {i : Int} (hT : sm_she L a) (hd : 2 ≤ d) (hn : m.1 a 2 = iI (n : Nat)) (hn2 : n ≤ 48) (i1 : 0 ≤ i) (i2 : i < n) (h : Q (m.2.1 (a + 1) i.toNat) m) : sm_callJ E L mX7_at d 0 0 [.ref (sm_B E + a), .int (iI i)] m Q := by
  refine vX7_at_0 hd hT (c_has hT (by omega) hn hn2 (by omega) (by omega) ?_)
  rw [if_pos ⟨i1, i2⟩]
  refine ⟨fun q => absurd q (by decide), fun _ => ?_⟩
  rw [iI_in (by omega) (by omega), iI_cl (by omega) (by omega)]
  exact ⟨by omega, h⟩
theorem c_bring {Q : sm_M → Prop} {a b n k i j x : Nat} (hTa : sm_she L a) (hTb : sm_she L b) (hd : 2 ≤ d) (hb : m.1 b 2 = iI (k : Nat)) (ha : m.1 a 2 = iI (n : Nat)) (hn2 : n ≤ 48) (hk2 : k ≤ 48) (hi : i + x ≤ k) (hj : j + x ≤ n) (h : ∀ m', fr (rowP (a + 1)) m m' → (∀ r, r < 48 → m'.2.1 (a + 1) r = if j ≤ r ∧ r < j + x then m.2.1 (b + 1) (i + (r - j)) else m.2.1 (a + 1) r) → Q m') : sm_callV E L mX7_bring d 0 0 [.ref (sm_B E + a), .ref (sm_B E + b), .int (iI (i : Nat)), .int (iI (j : Nat)), .int (iI (x : Nat))] m Q := by
  refine vX7_bring_0 hd hTa hTb (c_hasRun hTb (by omega) hb hk2 (by omega) (by omega) (by omega) (by omega) ?_)
  rw [if_pos (by omega)]
  refine ⟨fun q => absurd q (by decide), fun _ => c_hasRun hTa (by omega) ha hn2 (by omega) (by omega) (by omega) (by omega) ?_⟩
  rw [if_pos (by omega)]
  refine ⟨fun q => absurd q (by decide), fun _ => ?_⟩
  simp (disch := omega) only [forall_eq, true_and, and_true, false_and, and_false, forall_const, true_implies, implies_true, not_true_eq_false, not_false_eq_true, false_implies, if_true, if_false, ↓reduceIte, Int.toNat_natCast, Int.reduceEq, Int.reduceNe, Int.reduceLT, Int.reduceLE, Int.reduceToNat, Int.reduceAdd, Int.reduceSub, Int.reduceMul, Int.reduceNeg, Nat.reduceAdd, Nat.reduceMul, Nat.reduceSub, iI_lit, jI_lit, iI_add, iI_sub, iI_mul, iI_neg, jI_add, jI_sub, jI_mul, jI_neg, nI_i, lN_j, iI_le, iI_lt, iI_eq, jI_le, jI_lt, jI_eq, iI_in, iI_cl, iI_j, jI_i, cN, inN, wI_eq, wI_ne, wJ_1, wJ_eq, wJ_ne, wI_2, wJ_3, iI_div, iI_rem, jI_div, jI_rem, true_or, or_true, false_or, or_false, eq_self, Nat.add_zero]
  refine ⟨by omega, by omega, by omega, by omega, by omega, h _ (fr.rf.wJs (fun _ => rfl)) (fun r hr => ?_)⟩
  rw [wJs_2, if_pos rfl]
  rfl
theorem c12_narrowed {Q : Int64 → sm_M → Prop} {b : Int} {v : Int64} (hd : 1 ≤ d) (hb : b = 8 ∨ b = 16 ∨ b = 32 ∨ b = 64) (h : Q (nar b v) m) : sm_callJ E L mX12_narrowed d 0 0 [.int (iI b), .long v] m Q := by
  refine vX12_narrowed_0 hd ?_
  rcases hb with rfl | rfl | rfl | rfl
  · simp (disch := omega) only [forall_eq, true_and, and_true, false_and, and_false, forall_const, true_implies, implies_true, not_true_eq_false, not_false_eq_true, false_implies, if_true, if_false, ↓reduceIte, Int.toNat_natCast, Int.reduceEq, Int.reduceNe, Int.reduceLT, Int.reduceLE, Int.reduceToNat, Int.reduceAdd, Int.reduceSub, Int.reduceMul, Int.reduceNeg, Nat.reduceAdd, Nat.reduceMul, Nat.reduceSub, iI_lit, jI_lit, iI_add, iI_sub, iI_mul, iI_neg, jI_add, jI_sub, jI_mul, jI_neg, nI_i, lN_j, iI_le, iI_lt, iI_eq, jI_le, jI_lt, jI_eq, iI_in, iI_cl, iI_j, jI_i, cN, inN, wI_eq, wI_ne, wJ_1, wJ_eq, wJ_ne, wI_2, wJ_3, iI_div, iI_rem, jI_div, jI_rem, true_or, or_true, false_or, or_false, eq_self, Nat.add_zero]
    rw [nar8] at h; exact h
  · simp (disch := omega) only [forall_eq, true_and, and_true, false_and, and_false, forall_const, true_implies, implies_true, not_true_eq_false, not_false_eq_true, false_implies, if_true, if_false, ↓reduceIte, Int.toNat_natCast, Int.reduceEq, Int.reduceNe, Int.reduceLT, Int.reduceLE, Int.reduceToNat, Int.reduceAdd, Int.reduceSub, Int.reduceMul, Int.reduceNeg, Nat.reduceAdd, Nat.reduceMul, Nat.reduceSub, iI_lit, jI_lit, iI_add, iI_sub, iI_mul, iI_neg, jI_add, jI_sub, jI_mul, jI_neg, nI_i, lN_j, iI_le, iI_lt, iI_eq, jI_le, jI_lt, jI_eq, iI_in, iI_cl, iI_j, jI_i, cN, inN, wI_eq, wI_ne, wJ_1, wJ_eq, wJ_ne, wI_2, wJ_3, iI_div, iI_rem, jI_div, jI_rem, true_or, or_true, false_or, or_false, eq_self, Nat.add_zero]
    rw [nar16] at h; exact h
  · simp (disch := omega) only [forall_eq, true_and, and_true, false_and, and_false, forall_const, true_implies, implies_true, not_true_eq_false, not_false_eq_true, false_implies, if_true, if_false, ↓reduceIte, Int.toNat_natCast, Int.reduceEq, Int.reduceNe, Int.reduceLT, Int.reduceLE, Int.reduceToNat, Int.reduceAdd, Int.reduceSub, Int.reduceMul, Int.reduceNeg, Nat.reduceAdd, Nat.reduceMul, Nat.reduceSub, iI_lit, jI_lit, iI_add, iI_sub, iI_mul, iI_neg, jI_add, jI_sub, jI_mul, jI_neg, nI_i, lN_j, iI_le, iI_lt, iI_eq, jI_le, jI_lt, jI_eq, iI_in, iI_cl, iI_j, jI_i, cN, inN, wI_eq, wI_ne, wJ_1, wJ_eq, wJ_ne, wI_2, wJ_3, iI_div, iI_rem, jI_div, jI_rem, true_or, or_true, false_or, or_false, eq_self, Nat.add_zero]
    rw [nar32] at h; exact h
  · simp (disch := omega) only [forall_eq, true_and, and_true, false_and, and_false, forall_const, true_implies, implies_true, not_true_eq_false, not_false_eq_true, false_implies, if_true, if_false, ↓reduceIte, Int.toNat_natCast, Int.reduceEq, Int.reduceNe, Int.reduceLT, Int.reduceLE, Int.reduceToNat, Int.reduceAdd, Int.reduceSub, Int.reduceMul, Int.reduceNeg, Nat.reduceAdd, Nat.reduceMul, Nat.reduceSub, iI_lit, jI_lit, iI_add, iI_sub, iI_mul, iI_neg, jI_add, jI_sub, jI_mul, jI_neg, nI_i, lN_j, iI_le, iI_lt, iI_eq, jI_le, jI_lt, jI_eq, iI_in, iI_cl, iI_j, jI_i, cN, inN, wI_eq, wI_ne, wJ_1, wJ_eq, wJ_ne, wI_2, wJ_3, iI_div, iI_rem, jI_div, jI_rem, true_or, or_true, false_or, or_false, eq_self, Nat.add_zero]
    rw [nar64] at h; exact h
theorem c12_lays_loop {Q : sm_M → Prop} {vs : List Value} {s : Nat} (hly : ∀ S, L S → ly S) (hd : 1 ≤ d) (hs : s < 4) (m0 : sm_M) (h : ∀ m', fr (fun a k => a = 120 ∧ 48 * s ≤ k ∧ k < 48 * s + 48) m0 m' → (∀ k, k < 48 → m'.2.1 120 (48 * s + k) = jI 0) → Q m') : ∀ (r i : Nat) (m : sm_M), i + r = 48 → fr (fun a k => a = 120 ∧ 48 * s ≤ k ∧ k < 48 * s + 48) m0 m → (∀ k, k < i → m.2.1 120 (48 * s + k) = jI 0) → gX12_lays_25 E L d vs (iI (s : Nat)) (iI (i : Nat)) m Q := by
  intro r
  induction r with
  | zero =>
    intro i m hi hm hg
    have : i = 48 := by omega
    subst this
    exact vX12_lays_25 hly hd ⟨fun _ => h m hm hg, fun q => absurd (by decide) q⟩
  | succ r ih =>
    intro i m hi hm hg
    have e5 : ((i : Nat) : Int) + 1 = ((i + 1 : Nat) : Int) := by omega
    have e6 : (48 : Int) * ((s : Nat) : Int) + ((i : Nat) : Int) = ((48 * s + i : Nat) : Int) := by omega
    refine vX12_lays_25 hly hd ?_
    simp (disch := omega) only [forall_eq, true_and, and_true, false_and, and_false, forall_const, true_implies, implies_true, not_true_eq_false, not_false_eq_true, false_implies, if_true, if_false, ↓reduceIte, Int.toNat_natCast, Int.reduceEq, Int.reduceNe, Int.reduceLT, Int.reduceLE, Int.reduceToNat, Int.reduceAdd, Int.reduceSub, Int.reduceMul, Int.reduceNeg, Nat.reduceAdd, Nat.reduceMul, Nat.reduceSub, iI_lit, jI_lit, iI_add, iI_sub, iI_mul, iI_neg, jI_add, jI_sub, jI_mul, jI_neg, nI_i, lN_j, iI_le, iI_lt, iI_eq, jI_le, jI_lt, jI_eq, iI_in, iI_cl, iI_j, jI_i, cN, inN, wI_eq, wI_ne, wJ_1, wJ_eq, wJ_ne, wI_2, wJ_3, iI_div, iI_rem, jI_div, jI_rem, true_or, or_true, false_or, or_false, eq_self, Nat.add_zero, e5, e6]
    refine ⟨fun q => by omega, fun _ => ⟨by omega, ih (i + 1) _ (by omega) (hm.wJ (by omega)) (fun k hk => ?_)⟩⟩
    by_cases hki : k = i
    · subst hki
      rw [wJ_eq rfl rfl]
    · rw [wJ_ne (by omega)]
      exact hg k (by omega)
def lyP (s : Nat) : Nat → Nat → Prop := fun a k => (a = 121 ∧ k = s) ∨ (a = 122 ∧ k = s) ∨ (a = 120 ∧ 48 * s ≤ k ∧ k < 48 * s + 48)
theorem c12_lays {Q : sm_M → Prop} {s : Nat} {b n : Int} (hly : ∀ S, L S → ly S) (hd : 1 ≤ d) (hs : s < 4) (b1 : 0 ≤ b) (b2 : b ≤ 64) (h : ∀ m', fr (lyP s) m m' → m'.1 121 s = iI b → m'.1 122 s = iI (if b = 0 then 0 else n) → (∀ k, k < 48 → m'.2.1 120 (48 * s + k) = jI 0) → Q m') : sm_callV E L mX12_lays d 0 0 [.ref (sm_B E + 109), .int (iI (s : Nat)), .int (iI b), .int (iI n)] m Q := by
  refine vX12_lays_0 hly hd ?_
  simp (disch := omega) only [forall_eq, true_and, and_true, false_and, and_false, forall_const, true_implies, implies_true, not_true_eq_false, not_false_eq_true, false_implies, if_true, if_false, ↓reduceIte, Int.toNat_natCast, Int.reduceEq, Int.reduceNe, Int.reduceLT, Int.reduceLE, Int.reduceToNat, Int.reduceAdd, Int.reduceSub, Int.reduceMul, Int.reduceNeg, Nat.reduceAdd, Nat.reduceMul, Nat.reduceSub, iI_lit, jI_lit, iI_add, iI_sub, iI_mul, iI_neg, jI_add, jI_sub, jI_mul, jI_neg, nI_i, lN_j, iI_le, iI_lt, iI_eq, jI_le, jI_lt, jI_eq, iI_in, iI_cl, iI_j, jI_i, cN, inN, wI_eq, wI_ne, wJ_1, wJ_eq, wJ_ne, wI_2, wJ_3, iI_div, iI_rem, jI_div, jI_rem, true_or, or_true, false_or, or_false, eq_self, Nat.add_zero]
  have go : ∀ (vs : List Value) (v : Int), v = (if b = 0 then 0 else n) → gX12_lays_25 E L d vs (iI (s : Nat)) (iI 0) (sm_wI (sm_wI m 121 s (iI b)) 122 s (iI v)) Q := by
    intro vs v hv
    refine c12_lays_loop hly hd hs _ (fun m2 f2 g2 => h m2 (((fr.rf.wI (Or.inl ⟨rfl, rfl⟩)).wI (Or.inr (Or.inl ⟨rfl, rfl⟩))).tr (f2.mono (fun b k h => Or.inr (Or.inr h)))) ?_ ?_ g2) 48 0 _ rfl fr.rf (fun k hk => absurd hk (Nat.not_lt_zero _))
    · rw [f2.i (by omega), wI_ne (by omega), wI_eq rfl rfl]
    · rw [f2.i (by omega), wI_eq rfl rfl, hv]
  refine ⟨by omega, fun q => ⟨by omega, go _ n (by rw [if_neg q])⟩, fun q => ⟨by omega, go _ 0 (by rw [if_pos q])⟩⟩
theorem c_longError {Q : Int64 → sm_M → Prop} {e : Nat} (hly : ∀ S, L S → ly S) (he : e < 7) (hd : 1 ≤ d) (h : Q (jI (-9000000000000000000 - e)) (sm_wI m 76 e (m.1 76 e + 1))) : sm_callJ E L mX11_longError d 0 0 [.ref (sm_B E + 0), .int (iI (e : Nat))] m Q := by
  have htn : (iI (e : Nat)).toNatClampNeg = e := by rw [iI_cl (by omega) (by omega)]; omega
  have hin : vp_in (iI (e : Nat)) 7 := by rw [iI_in (by omega) (by omega)]; omega
  refine vX11_longError_0 hly hd ⟨hin, hin, fun m2 e2 => ?_⟩
  subst e2
  rw [htn, show (-9000000000000000000 : Int64) = jI (-9000000000000000000) by decide, iI_j (by omega) (by omega), jI_sub]
  exact h
theorem k_of {x1 x2 : Int32} (hly : ∀ S, L S → ly S) (hd1 : 3 ≤ d1) (hd2 : 2 ≤ d2) (hI : Inv c m) : sm_callJ E L mX11_of d1 0 0 [.ref (sm_B E + 0), .int x1, .int x2] m (fun r m1 => sm_callJ E L mX12_of d2 0 0 [.ref (sm_B E + 109), .int x1, .int x2] m1 (fun r2 m2 => r = r2 ∧ Inv c m2)) := by
  obtain ⟨i, i1, i2, rfl⟩ := iI_ex x1
  obtain ⟨w, w1, w2, rfl⟩ := iI_ex x2
  refine vX11_of_0 hly hd1 (c_isSheet i1 i2 (by omega) ?_)
  by_cases hi : 0 ≤ i ∧ i < 4
  rotate_left
  · simp (disch := omega) only [forall_eq, true_and, and_true, false_and, and_false, forall_const, true_implies, implies_true, not_true_eq_false, not_false_eq_true, false_implies, if_true, if_false, ↓reduceIte, Int.toNat_natCast, Int.reduceEq, Int.reduceNe, Int.reduceLT, Int.reduceLE, Int.reduceToNat, Int.reduceAdd, Int.reduceSub, Int.reduceMul, Int.reduceNeg, Nat.reduceAdd, Nat.reduceMul, Nat.reduceSub, iI_lit, jI_lit, iI_add, iI_sub, iI_mul, iI_neg, jI_add, jI_sub, jI_mul, jI_neg, nI_i, lN_j, iI_le, iI_lt, iI_eq, jI_le, jI_lt, jI_eq, iI_in, iI_cl, iI_j, jI_i, cN, inN, wI_eq, wI_ne, wJ_1, wJ_eq, wJ_ne, wI_2, wJ_3, iI_div, iI_rem, jI_div, jI_rem, true_or, or_true, false_or, or_false, eq_self, Nat.add_zero, hi]
    refine c_longError (e := 1) hly (by decide) (by omega) (vX12_of_0 hly hd2 (c12_isSheet i1 i2 (by omega) ?_))
    simp (disch := omega) only [forall_eq, true_and, and_true, false_and, and_false, forall_const, true_implies, implies_true, not_true_eq_false, not_false_eq_true, false_implies, if_true, if_false, ↓reduceIte, Int.toNat_natCast, Int.reduceEq, Int.reduceNe, Int.reduceLT, Int.reduceLE, Int.reduceToNat, Int.reduceAdd, Int.reduceSub, Int.reduceMul, Int.reduceNeg, Nat.reduceAdd, Nat.reduceMul, Nat.reduceSub, iI_lit, jI_lit, iI_add, iI_sub, iI_mul, iI_neg, jI_add, jI_sub, jI_mul, jI_neg, nI_i, lN_j, iI_le, iI_lt, iI_eq, jI_le, jI_lt, jI_eq, iI_in, iI_cl, iI_j, jI_i, cN, inN, wI_eq, wI_ne, wJ_1, wJ_eq, wJ_ne, wI_2, wJ_3, iI_div, iI_rem, jI_div, jI_rem, true_or, or_true, false_or, or_false, eq_self, Nat.add_zero, hi]
    exact c12_findsFar (e := 1) hly (by decide) (by omega) ⟨rfl, hI.er frw.rf frw.rf⟩
  obtain ⟨s, rfl⟩ : ∃ s : Nat, i = (s : Int) := ⟨i.toNat, by omega⟩
  have hs : s < 4 := by omega
  obtain ⟨b, n, g1, g2, g3, g4, g5, g6, g7⟩ := hI.2.1.2.2.2.2.2.1 s hs
  have hT := ly_sheetT hly hs
  simp (disch := omega) only [forall_eq, true_and, and_true, false_and, and_false, forall_const, true_implies, implies_true, not_true_eq_false, not_false_eq_true, false_implies, if_true, if_false, ↓reduceIte, Int.toNat_natCast, Int.reduceEq, Int.reduceNe, Int.reduceLT, Int.reduceLE, Int.reduceToNat, Int.reduceAdd, Int.reduceSub, Int.reduceMul, Int.reduceNeg, Nat.reduceAdd, Nat.reduceMul, Nat.reduceSub, iI_lit, jI_lit, iI_add, iI_sub, iI_mul, iI_neg, jI_add, jI_sub, jI_mul, jI_neg, nI_i, lN_j, iI_le, iI_lt, iI_eq, jI_le, jI_lt, jI_eq, iI_in, iI_cl, iI_j, jI_i, cN, inN, wI_eq, wI_ne, wJ_1, wJ_eq, wJ_ne, wI_2, wJ_3, iI_div, iI_rem, jI_div, jI_rem, true_or, or_true, false_or, or_false, eq_self, Nat.add_zero, hi]
  refine ⟨by omega, c_isMissing hT (by omega) g3 (by omega) (by omega) ?_⟩
  by_cases hb : b = 0
  · subst hb
    simp (disch := omega) only [forall_eq, true_and, and_true, false_and, and_false, forall_const, true_implies, implies_true, not_true_eq_false, not_false_eq_true, false_implies, if_true, if_false, ↓reduceIte, Int.toNat_natCast, Int.reduceEq, Int.reduceNe, Int.reduceLT, Int.reduceLE, Int.reduceToNat, Int.reduceAdd, Int.reduceSub, Int.reduceMul, Int.reduceNeg, Nat.reduceAdd, Nat.reduceMul, Nat.reduceSub, iI_lit, jI_lit, iI_add, iI_sub, iI_mul, iI_neg, jI_add, jI_sub, jI_mul, jI_neg, nI_i, lN_j, iI_le, iI_lt, iI_eq, jI_le, jI_lt, jI_eq, iI_in, iI_cl, iI_j, jI_i, cN, inN, wI_eq, wI_ne, wJ_1, wJ_eq, wJ_ne, wI_2, wJ_3, iI_div, iI_rem, jI_div, jI_rem, true_or, or_true, false_or, or_false, eq_self, Nat.add_zero]
    refine c_longError (e := 2) hly (by decide) (by omega) (vX12_of_0 hly hd2 (c12_isSheet i1 i2 (by omega) ?_))
    simp (disch := omega) only [forall_eq, true_and, and_true, false_and, and_false, forall_const, true_implies, implies_true, not_true_eq_false, not_false_eq_true, false_implies, if_true, if_false, ↓reduceIte, Int.toNat_natCast, Int.reduceEq, Int.reduceNe, Int.reduceLT, Int.reduceLE, Int.reduceToNat, Int.reduceAdd, Int.reduceSub, Int.reduceMul, Int.reduceNeg, Nat.reduceAdd, Nat.reduceMul, Nat.reduceSub, iI_lit, jI_lit, iI_add, iI_sub, iI_mul, iI_neg, jI_add, jI_sub, jI_mul, jI_neg, nI_i, lN_j, iI_le, iI_lt, iI_eq, jI_le, jI_lt, jI_eq, iI_in, iI_cl, iI_j, jI_i, cN, inN, wI_eq, wI_ne, wJ_1, wJ_eq, wJ_ne, wI_2, wJ_3, iI_div, iI_rem, jI_div, jI_rem, true_or, or_true, false_or, or_false, eq_self, Nat.add_zero, hi, g4]
    exact ⟨by omega, c12_findsFar (e := 2) hly (by decide) (by omega) ⟨rfl, hI.er frw.rf frw.rf⟩⟩
  · simp (disch := omega) only [forall_eq, true_and, and_true, false_and, and_false, forall_const, true_implies, implies_true, not_true_eq_false, not_false_eq_true, false_implies, if_true, if_false, ↓reduceIte, Int.toNat_natCast, Int.reduceEq, Int.reduceNe, Int.reduceLT, Int.reduceLE, Int.reduceToNat, Int.reduceAdd, Int.reduceSub, Int.reduceMul, Int.reduceNeg, Nat.reduceAdd, Nat.reduceMul, Nat.reduceSub, iI_lit, jI_lit, iI_add, iI_sub, iI_mul, iI_neg, jI_add, jI_sub, jI_mul, jI_neg, nI_i, lN_j, iI_le, iI_lt, iI_eq, jI_le, jI_lt, jI_eq, iI_in, iI_cl, iI_j, jI_i, cN, inN, wI_eq, wI_ne, wJ_1, wJ_eq, wJ_ne, wI_2, wJ_3, iI_div, iI_rem, jI_div, jI_rem, true_or, or_true, false_or, or_false, eq_self, Nat.add_zero, hb]
    refine c_has hT (by omega) g5 g2 w1 w2 ?_
    by_cases hw : 0 ≤ w ∧ w < n
    · rw [if_pos hw]
      simp (disch := omega) only [forall_eq, true_and, and_true, false_and, and_false, forall_const, true_implies, implies_true, not_true_eq_false, not_false_eq_true, false_implies, if_true, if_false, ↓reduceIte, Int.toNat_natCast, Int.reduceEq, Int.reduceNe, Int.reduceLT, Int.reduceLE, Int.reduceToNat, Int.reduceAdd, Int.reduceSub, Int.reduceMul, Int.reduceNeg, Nat.reduceAdd, Nat.reduceMul, Nat.reduceSub, iI_lit, jI_lit, iI_add, iI_sub, iI_mul, iI_neg, jI_add, jI_sub, jI_mul, jI_neg, nI_i, lN_j, iI_le, iI_lt, iI_eq, jI_le, jI_lt, jI_eq, iI_in, iI_cl, iI_j, jI_i, cN, inN, wI_eq, wI_ne, wJ_1, wJ_eq, wJ_ne, wI_2, wJ_3, iI_div, iI_rem, jI_div, jI_rem, true_or, or_true, false_or, or_false, eq_self, Nat.add_zero]
      refine c_at hT (by omega) g5 g2 hw.1 hw.2 (vX12_of_0 hly hd2 (c12_isSheet i1 i2 (by omega) ?_))
      simp (disch := omega) only [forall_eq, true_and, and_true, false_and, and_false, forall_const, true_implies, implies_true, not_true_eq_false, not_false_eq_true, false_implies, if_true, if_false, ↓reduceIte, Int.toNat_natCast, Int.reduceEq, Int.reduceNe, Int.reduceLT, Int.reduceLE, Int.reduceToNat, Int.reduceAdd, Int.reduceSub, Int.reduceMul, Int.reduceNeg, Nat.reduceAdd, Nat.reduceMul, Nat.reduceSub, iI_lit, jI_lit, iI_add, iI_sub, iI_mul, iI_neg, jI_add, jI_sub, jI_mul, jI_neg, nI_i, lN_j, iI_le, iI_lt, iI_eq, jI_le, jI_lt, jI_eq, iI_in, iI_cl, iI_j, jI_i, cN, inN, wI_eq, wI_ne, wJ_1, wJ_eq, wJ_ne, wI_2, wJ_3, iI_div, iI_rem, jI_div, jI_rem, true_or, or_true, false_or, or_false, eq_self, Nat.add_zero, hi, g4, hb, g6]
      refine ⟨by omega, by omega, c12_isIn (by omega) (by omega) (by omega) (by omega) (by omega) (by omega) (by omega) ?_⟩
      rw [if_pos (by omega)]
      have e6 : (48 : Int) * ((s : Nat) : Int) + w = ((48 * s + w.toNat : Nat) : Int) := by omega
      simp (disch := omega) only [forall_eq, true_and, and_true, false_and, and_false, forall_const, true_implies, implies_true, not_true_eq_false, not_false_eq_true, false_implies, if_true, if_false, ↓reduceIte, Int.toNat_natCast, Int.reduceEq, Int.reduceNe, Int.reduceLT, Int.reduceLE, Int.reduceToNat, Int.reduceAdd, Int.reduceSub, Int.reduceMul, Int.reduceNeg, Nat.reduceAdd, Nat.reduceMul, Nat.reduceSub, iI_lit, jI_lit, iI_add, iI_sub, iI_mul, iI_neg, jI_add, jI_sub, jI_mul, jI_neg, nI_i, lN_j, iI_le, iI_lt, iI_eq, jI_le, jI_lt, jI_eq, iI_in, iI_cl, iI_j, jI_i, cN, inN, wI_eq, wI_ne, wJ_1, wJ_eq, wJ_ne, wI_2, wJ_3, iI_div, iI_rem, jI_div, jI_rem, true_or, or_true, false_or, or_false, eq_self, Nat.add_zero, e6]
      exact ⟨by omega, (by rw [show 101 + 2 * s + 1 = 102 + 2 * s by omega]; exact g7 _ (by omega)), hI⟩
    · rw [if_neg hw]
      simp (disch := omega) only [forall_eq, true_and, and_true, false_and, and_false, forall_const, true_implies, implies_true, not_true_eq_false, not_false_eq_true, false_implies, if_true, if_false, ↓reduceIte, Int.toNat_natCast, Int.reduceEq, Int.reduceNe, Int.reduceLT, Int.reduceLE, Int.reduceToNat, Int.reduceAdd, Int.reduceSub, Int.reduceMul, Int.reduceNeg, Nat.reduceAdd, Nat.reduceMul, Nat.reduceSub, iI_lit, jI_lit, iI_add, iI_sub, iI_mul, iI_neg, jI_add, jI_sub, jI_mul, jI_neg, nI_i, lN_j, iI_le, iI_lt, iI_eq, jI_le, jI_lt, jI_eq, iI_in, iI_cl, iI_j, jI_i, cN, inN, wI_eq, wI_ne, wJ_1, wJ_eq, wJ_ne, wI_2, wJ_3, iI_div, iI_rem, jI_div, jI_rem, true_or, or_true, false_or, or_false, eq_self, Nat.add_zero]
      refine c_longError (e := 1) hly (by decide) (by omega) (vX12_of_0 hly hd2 (c12_isSheet i1 i2 (by omega) ?_))
      simp (disch := omega) only [forall_eq, true_and, and_true, false_and, and_false, forall_const, true_implies, implies_true, not_true_eq_false, not_false_eq_true, false_implies, if_true, if_false, ↓reduceIte, Int.toNat_natCast, Int.reduceEq, Int.reduceNe, Int.reduceLT, Int.reduceLE, Int.reduceToNat, Int.reduceAdd, Int.reduceSub, Int.reduceMul, Int.reduceNeg, Nat.reduceAdd, Nat.reduceMul, Nat.reduceSub, iI_lit, jI_lit, iI_add, iI_sub, iI_mul, iI_neg, jI_add, jI_sub, jI_mul, jI_neg, nI_i, lN_j, iI_le, iI_lt, iI_eq, jI_le, jI_lt, jI_eq, iI_in, iI_cl, iI_j, jI_i, cN, inN, wI_eq, wI_ne, wJ_1, wJ_eq, wJ_ne, wI_2, wJ_3, iI_div, iI_rem, jI_div, jI_rem, true_or, or_true, false_or, or_false, eq_self, Nat.add_zero, hi, g4, hb, g6]
      refine ⟨by omega, by omega, c12_isIn (by omega) (by omega) (by omega) (by omega) (by omega) (by omega) (by omega) ?_⟩
      rw [if_neg (by omega)]
      simp (disch := omega) only [forall_eq, true_and, and_true, false_and, and_false, forall_const, true_implies, implies_true, not_true_eq_false, not_false_eq_true, false_implies, if_true, if_false, ↓reduceIte, Int.toNat_natCast, Int.reduceEq, Int.reduceNe, Int.reduceLT, Int.reduceLE, Int.reduceToNat, Int.reduceAdd, Int.reduceSub, Int.reduceMul, Int.reduceNeg, Nat.reduceAdd, Nat.reduceMul, Nat.reduceSub, iI_lit, jI_lit, iI_add, iI_sub, iI_mul, iI_neg, jI_add, jI_sub, jI_mul, jI_neg, nI_i, lN_j, iI_le, iI_lt, iI_eq, jI_le, jI_lt, jI_eq, iI_in, iI_cl, iI_j, jI_i, cN, inN, wI_eq, wI_ne, wJ_1, wJ_eq, wJ_ne, wI_2, wJ_3, iI_div, iI_rem, jI_div, jI_rem, true_or, or_true, false_or, or_false, eq_self, Nat.add_zero]
      exact c12_findsFar (e := 1) hly (by decide) (by omega) ⟨rfl, hI.er frw.rf frw.rf⟩
theorem k_put {x1 x2 : Int32} {x3 : Int64} (hly : ∀ S, L S → ly S) (hd1 : 3 ≤ d1) (hd2 : 2 ≤ d2) (hI : Inv c m) : sm_callI E L mX11_put d1 0 0 [.ref (sm_B E + 0), .int x1, .int x2, .long x3] m (fun r m1 => sm_callI E L mX12_put d2 0 0 [.ref (sm_B E + 109), .int x1, .int x2, .long x3] m1 (fun r2 m2 => r = r2 ∧ Inv c m2)) := by
  obtain ⟨i, i1, i2, rfl⟩ := iI_ex x1
  obtain ⟨w, w1, w2, rfl⟩ := iI_ex x2
  refine vX11_put_0 hly hd1 (c_isSheet i1 i2 (by omega) ?_)
  by_cases hi : 0 ≤ i ∧ i < 4
  rotate_left
  · simp (disch := omega) only [forall_eq, true_and, and_true, false_and, and_false, forall_const, true_implies, implies_true, not_true_eq_false, not_false_eq_true, false_implies, if_true, if_false, ↓reduceIte, Int.toNat_natCast, Int.reduceEq, Int.reduceNe, Int.reduceLT, Int.reduceLE, Int.reduceToNat, Int.reduceAdd, Int.reduceSub, Int.reduceMul, Int.reduceNeg, Nat.reduceAdd, Nat.reduceMul, Nat.reduceSub, iI_lit, jI_lit, iI_add, iI_sub, iI_mul, iI_neg, jI_add, jI_sub, jI_mul, jI_neg, nI_i, lN_j, iI_le, iI_lt, iI_eq, jI_le, jI_lt, jI_eq, iI_in, iI_cl, iI_j, jI_i, cN, inN, wI_eq, wI_ne, wJ_1, wJ_eq, wJ_ne, wI_2, wJ_3, iI_div, iI_rem, jI_div, jI_rem, true_or, or_true, false_or, or_false, eq_self, Nat.add_zero, hi]
    refine c_error (e := 1) hly (by decide) (by omega) (vX12_put_0 hly hd2 (c12_isSheet i1 i2 (by omega) ?_))
    simp (disch := omega) only [forall_eq, true_and, and_true, false_and, and_false, forall_const, true_implies, implies_true, not_true_eq_false, not_false_eq_true, false_implies, if_true, if_false, ↓reduceIte, Int.toNat_natCast, Int.reduceEq, Int.reduceNe, Int.reduceLT, Int.reduceLE, Int.reduceToNat, Int.reduceAdd, Int.reduceSub, Int.reduceMul, Int.reduceNeg, Nat.reduceAdd, Nat.reduceMul, Nat.reduceSub, iI_lit, jI_lit, iI_add, iI_sub, iI_mul, iI_neg, jI_add, jI_sub, jI_mul, jI_neg, nI_i, lN_j, iI_le, iI_lt, iI_eq, jI_le, jI_lt, jI_eq, iI_in, iI_cl, iI_j, jI_i, cN, inN, wI_eq, wI_ne, wJ_1, wJ_eq, wJ_ne, wI_2, wJ_3, iI_div, iI_rem, jI_div, jI_rem, true_or, or_true, false_or, or_false, eq_self, Nat.add_zero, hi]
    exact c12_finds (e := 1) hly (by decide) (by omega) ⟨rfl, hI.er frw.rf frw.rf⟩
  obtain ⟨s, rfl⟩ : ∃ s : Nat, i = (s : Int) := ⟨i.toNat, by omega⟩
  have hs : s < 4 := by omega
  obtain ⟨b, n, g1, g2, g3, g4, g5, g6, g7⟩ := hI.2.1.2.2.2.2.2.1 s hs
  have hT := ly_sheetT hly hs
  simp (disch := omega) only [forall_eq, true_and, and_true, false_and, and_false, forall_const, true_implies, implies_true, not_true_eq_false, not_false_eq_true, false_implies, if_true, if_false, ↓reduceIte, Int.toNat_natCast, Int.reduceEq, Int.reduceNe, Int.reduceLT, Int.reduceLE, Int.reduceToNat, Int.reduceAdd, Int.reduceSub, Int.reduceMul, Int.reduceNeg, Nat.reduceAdd, Nat.reduceMul, Nat.reduceSub, iI_lit, jI_lit, iI_add, iI_sub, iI_mul, iI_neg, jI_add, jI_sub, jI_mul, jI_neg, nI_i, lN_j, iI_le, iI_lt, iI_eq, jI_le, jI_lt, jI_eq, iI_in, iI_cl, iI_j, jI_i, cN, inN, wI_eq, wI_ne, wJ_1, wJ_eq, wJ_ne, wI_2, wJ_3, iI_div, iI_rem, jI_div, jI_rem, true_or, or_true, false_or, or_false, eq_self, Nat.add_zero, hi]
  refine ⟨by omega, c_isMissing hT (by omega) g3 (by omega) (by omega) ?_⟩
  by_cases hb : b = 0
  · subst hb
    simp (disch := omega) only [forall_eq, true_and, and_true, false_and, and_false, forall_const, true_implies, implies_true, not_true_eq_false, not_false_eq_true, false_implies, if_true, if_false, ↓reduceIte, Int.toNat_natCast, Int.reduceEq, Int.reduceNe, Int.reduceLT, Int.reduceLE, Int.reduceToNat, Int.reduceAdd, Int.reduceSub, Int.reduceMul, Int.reduceNeg, Nat.reduceAdd, Nat.reduceMul, Nat.reduceSub, iI_lit, jI_lit, iI_add, iI_sub, iI_mul, iI_neg, jI_add, jI_sub, jI_mul, jI_neg, nI_i, lN_j, iI_le, iI_lt, iI_eq, jI_le, jI_lt, jI_eq, iI_in, iI_cl, iI_j, jI_i, cN, inN, wI_eq, wI_ne, wJ_1, wJ_eq, wJ_ne, wI_2, wJ_3, iI_div, iI_rem, jI_div, jI_rem, true_or, or_true, false_or, or_false, eq_self, Nat.add_zero]
    refine c_error (e := 2) hly (by decide) (by omega) (vX12_put_0 hly hd2 (c12_isSheet i1 i2 (by omega) ?_))
    simp (disch := omega) only [forall_eq, true_and, and_true, false_and, and_false, forall_const, true_implies, implies_true, not_true_eq_false, not_false_eq_true, false_implies, if_true, if_false, ↓reduceIte, Int.toNat_natCast, Int.reduceEq, Int.reduceNe, Int.reduceLT, Int.reduceLE, Int.reduceToNat, Int.reduceAdd, Int.reduceSub, Int.reduceMul, Int.reduceNeg, Nat.reduceAdd, Nat.reduceMul, Nat.reduceSub, iI_lit, jI_lit, iI_add, iI_sub, iI_mul, iI_neg, jI_add, jI_sub, jI_mul, jI_neg, nI_i, lN_j, iI_le, iI_lt, iI_eq, jI_le, jI_lt, jI_eq, iI_in, iI_cl, iI_j, jI_i, cN, inN, wI_eq, wI_ne, wJ_1, wJ_eq, wJ_ne, wI_2, wJ_3, iI_div, iI_rem, jI_div, jI_rem, true_or, or_true, false_or, or_false, eq_self, Nat.add_zero, hi, g4]
    exact ⟨by omega, c12_finds (e := 2) hly (by decide) (by omega) ⟨rfl, hI.er frw.rf frw.rf⟩⟩
  · simp (disch := omega) only [forall_eq, true_and, and_true, false_and, and_false, forall_const, true_implies, implies_true, not_true_eq_false, not_false_eq_true, false_implies, if_true, if_false, ↓reduceIte, Int.toNat_natCast, Int.reduceEq, Int.reduceNe, Int.reduceLT, Int.reduceLE, Int.reduceToNat, Int.reduceAdd, Int.reduceSub, Int.reduceMul, Int.reduceNeg, Nat.reduceAdd, Nat.reduceMul, Nat.reduceSub, iI_lit, jI_lit, iI_add, iI_sub, iI_mul, iI_neg, jI_add, jI_sub, jI_mul, jI_neg, nI_i, lN_j, iI_le, iI_lt, iI_eq, jI_le, jI_lt, jI_eq, iI_in, iI_cl, iI_j, jI_i, cN, inN, wI_eq, wI_ne, wJ_1, wJ_eq, wJ_ne, wI_2, wJ_3, iI_div, iI_rem, jI_div, jI_rem, true_or, or_true, false_or, or_false, eq_self, Nat.add_zero, hb]
    refine c_has hT (by omega) g5 g2 w1 w2 ?_
    by_cases hw : 0 ≤ w ∧ w < n
    · rw [if_pos hw]
      simp (disch := omega) only [forall_eq, true_and, and_true, false_and, and_false, forall_const, true_implies, implies_true, not_true_eq_false, not_false_eq_true, false_implies, if_true, if_false, ↓reduceIte, Int.toNat_natCast, Int.reduceEq, Int.reduceNe, Int.reduceLT, Int.reduceLE, Int.reduceToNat, Int.reduceAdd, Int.reduceSub, Int.reduceMul, Int.reduceNeg, Nat.reduceAdd, Nat.reduceMul, Nat.reduceSub, iI_lit, jI_lit, iI_add, iI_sub, iI_mul, iI_neg, jI_add, jI_sub, jI_mul, jI_neg, nI_i, lN_j, iI_le, iI_lt, iI_eq, jI_le, jI_lt, jI_eq, iI_in, iI_cl, iI_j, jI_i, cN, inN, wI_eq, wI_ne, wJ_1, wJ_eq, wJ_ne, wI_2, wJ_3, iI_div, iI_rem, jI_div, jI_rem, true_or, or_true, false_or, or_false, eq_self, Nat.add_zero]
      refine c_store hT (by omega) g3 g5 g2 hw.1 hw.2 (vX12_put_0 hly hd2 (c12_isSheet i1 i2 (by omega) ?_))
      simp (disch := omega) only [forall_eq, true_and, and_true, false_and, and_false, forall_const, true_implies, implies_true, not_true_eq_false, not_false_eq_true, false_implies, if_true, if_false, ↓reduceIte, Int.toNat_natCast, Int.reduceEq, Int.reduceNe, Int.reduceLT, Int.reduceLE, Int.reduceToNat, Int.reduceAdd, Int.reduceSub, Int.reduceMul, Int.reduceNeg, Nat.reduceAdd, Nat.reduceMul, Nat.reduceSub, iI_lit, jI_lit, iI_add, iI_sub, iI_mul, iI_neg, jI_add, jI_sub, jI_mul, jI_neg, nI_i, lN_j, iI_le, iI_lt, iI_eq, jI_le, jI_lt, jI_eq, iI_in, iI_cl, iI_j, jI_i, cN, inN, wI_eq, wI_ne, wJ_1, wJ_eq, wJ_ne, wI_2, wJ_3, iI_div, iI_rem, jI_div, jI_rem, true_or, or_true, false_or, or_false, eq_self, Nat.add_zero, hi, g4, hb, g6]
      refine ⟨by omega, by omega, c12_isIn (by omega) (by omega) (by omega) (by omega) (by omega) (by omega) (by omega) ?_⟩
      rw [if_pos (by omega)]
      simp (disch := omega) only [forall_eq, true_and, and_true, false_and, and_false, forall_const, true_implies, implies_true, not_true_eq_false, not_false_eq_true, false_implies, if_true, if_false, ↓reduceIte, Int.toNat_natCast, Int.reduceEq, Int.reduceNe, Int.reduceLT, Int.reduceLE, Int.reduceToNat, Int.reduceAdd, Int.reduceSub, Int.reduceMul, Int.reduceNeg, Nat.reduceAdd, Nat.reduceMul, Nat.reduceSub, iI_lit, jI_lit, iI_add, iI_sub, iI_mul, iI_neg, jI_add, jI_sub, jI_mul, jI_neg, nI_i, lN_j, iI_le, iI_lt, iI_eq, jI_le, jI_lt, jI_eq, iI_in, iI_cl, iI_j, jI_i, cN, inN, wI_eq, wI_ne, wJ_1, wJ_eq, wJ_ne, wI_2, wJ_3, iI_div, iI_rem, jI_div, jI_rem, true_or, or_true, false_or, or_false, eq_self, Nat.add_zero, g4]
      refine ⟨by omega, c12_narrowed (by omega) (by omega) ?_⟩
      have e6 : (48 : Int) * ((s : Nat) : Int) + w = ((48 * s + w.toNat : Nat) : Int) := by omega
      simp (disch := omega) only [forall_eq, true_and, and_true, false_and, and_false, forall_const, true_implies, implies_true, not_true_eq_false, not_false_eq_true, false_implies, if_true, if_false, ↓reduceIte, Int.toNat_natCast, Int.reduceEq, Int.reduceNe, Int.reduceLT, Int.reduceLE, Int.reduceToNat, Int.reduceAdd, Int.reduceSub, Int.reduceMul, Int.reduceNeg, Nat.reduceAdd, Nat.reduceMul, Nat.reduceSub, iI_lit, jI_lit, iI_add, iI_sub, iI_mul, iI_neg, jI_add, jI_sub, jI_mul, jI_neg, nI_i, lN_j, iI_le, iI_lt, iI_eq, jI_le, jI_lt, jI_eq, iI_in, iI_cl, iI_j, jI_i, cN, inN, wI_eq, wI_ne, wJ_1, wJ_eq, wJ_ne, wI_2, wJ_3, iI_div, iI_rem, jI_div, jI_rem, true_or, or_true, false_or, or_false, eq_self, Nat.add_zero, e6]
      refine ⟨by omega, hI.sheet hs (((fr.rf.wJ ?_).wJ ?_).w) ⟨b, n, g1, g2, ?_, ?_, ?_, ?_, fun k hk => ?_⟩⟩
      · unfold shP; omega
      · unfold shP; omega
      · simp (disch := omega) only [forall_eq, true_and, and_true, false_and, and_false, forall_const, true_implies, implies_true, not_true_eq_false, not_false_eq_true, false_implies, if_true, if_false, ↓reduceIte, Int.toNat_natCast, Int.reduceEq, Int.reduceNe, Int.reduceLT, Int.reduceLE, Int.reduceToNat, Int.reduceAdd, Int.reduceSub, Int.reduceMul, Int.reduceNeg, Nat.reduceAdd, Nat.reduceMul, Nat.reduceSub, iI_lit, jI_lit, iI_add, iI_sub, iI_mul, iI_neg, jI_add, jI_sub, jI_mul, jI_neg, nI_i, lN_j, iI_le, iI_lt, iI_eq, jI_le, jI_lt, jI_eq, iI_in, iI_cl, iI_j, jI_i, cN, inN, wI_eq, wI_ne, wJ_1, wJ_eq, wJ_ne, wI_2, wJ_3, iI_div, iI_rem, jI_div, jI_rem, true_or, or_true, false_or, or_false, eq_self, Nat.add_zero, g3]
      · simp (disch := omega) only [forall_eq, true_and, and_true, false_and, and_false, forall_const, true_implies, implies_true, not_true_eq_false, not_false_eq_true, false_implies, if_true, if_false, ↓reduceIte, Int.toNat_natCast, Int.reduceEq, Int.reduceNe, Int.reduceLT, Int.reduceLE, Int.reduceToNat, Int.reduceAdd, Int.reduceSub, Int.reduceMul, Int.reduceNeg, Nat.reduceAdd, Nat.reduceMul, Nat.reduceSub, iI_lit, jI_lit, iI_add, iI_sub, iI_mul, iI_neg, jI_add, jI_sub, jI_mul, jI_neg, nI_i, lN_j, iI_le, iI_lt, iI_eq, jI_le, jI_lt, jI_eq, iI_in, iI_cl, iI_j, jI_i, cN, inN, wI_eq, wI_ne, wJ_1, wJ_eq, wJ_ne, wI_2, wJ_3, iI_div, iI_rem, jI_div, jI_rem, true_or, or_true, false_or, or_false, eq_self, Nat.add_zero, g4]
      · simp (disch := omega) only [forall_eq, true_and, and_true, false_and, and_false, forall_const, true_implies, implies_true, not_true_eq_false, not_false_eq_true, false_implies, if_true, if_false, ↓reduceIte, Int.toNat_natCast, Int.reduceEq, Int.reduceNe, Int.reduceLT, Int.reduceLE, Int.reduceToNat, Int.reduceAdd, Int.reduceSub, Int.reduceMul, Int.reduceNeg, Nat.reduceAdd, Nat.reduceMul, Nat.reduceSub, iI_lit, jI_lit, iI_add, iI_sub, iI_mul, iI_neg, jI_add, jI_sub, jI_mul, jI_neg, nI_i, lN_j, iI_le, iI_lt, iI_eq, jI_le, jI_lt, jI_eq, iI_in, iI_cl, iI_j, jI_i, cN, inN, wI_eq, wI_ne, wJ_1, wJ_eq, wJ_ne, wI_2, wJ_3, iI_div, iI_rem, jI_div, jI_rem, true_or, or_true, false_or, or_false, eq_self, Nat.add_zero, g5]
      · simp (disch := omega) only [forall_eq, true_and, and_true, false_and, and_false, forall_const, true_implies, implies_true, not_true_eq_false, not_false_eq_true, false_implies, if_true, if_false, ↓reduceIte, Int.toNat_natCast, Int.reduceEq, Int.reduceNe, Int.reduceLT, Int.reduceLE, Int.reduceToNat, Int.reduceAdd, Int.reduceSub, Int.reduceMul, Int.reduceNeg, Nat.reduceAdd, Nat.reduceMul, Nat.reduceSub, iI_lit, jI_lit, iI_add, iI_sub, iI_mul, iI_neg, jI_add, jI_sub, jI_mul, jI_neg, nI_i, lN_j, iI_le, iI_lt, iI_eq, jI_le, jI_lt, jI_eq, iI_in, iI_cl, iI_j, jI_i, cN, inN, wI_eq, wI_ne, wJ_1, wJ_eq, wJ_ne, wI_2, wJ_3, iI_div, iI_rem, jI_div, jI_rem, true_or, or_true, false_or, or_false, eq_self, Nat.add_zero, g6]
      · by_cases hk2 : k = w.toNat
        · subst hk2
          rw [wJ_ne (by omega), wJ_eq (by omega) rfl, wJ_eq rfl (by omega)]
        · rw [wJ_ne (by omega), wJ_ne (by omega), wJ_ne (by omega), wJ_ne (by omega)]
          exact g7 k hk
    · rw [if_neg hw]
      simp (disch := omega) only [forall_eq, true_and, and_true, false_and, and_false, forall_const, true_implies, implies_true, not_true_eq_false, not_false_eq_true, false_implies, if_true, if_false, ↓reduceIte, Int.toNat_natCast, Int.reduceEq, Int.reduceNe, Int.reduceLT, Int.reduceLE, Int.reduceToNat, Int.reduceAdd, Int.reduceSub, Int.reduceMul, Int.reduceNeg, Nat.reduceAdd, Nat.reduceMul, Nat.reduceSub, iI_lit, jI_lit, iI_add, iI_sub, iI_mul, iI_neg, jI_add, jI_sub, jI_mul, jI_neg, nI_i, lN_j, iI_le, iI_lt, iI_eq, jI_le, jI_lt, jI_eq, iI_in, iI_cl, iI_j, jI_i, cN, inN, wI_eq, wI_ne, wJ_1, wJ_eq, wJ_ne, wI_2, wJ_3, iI_div, iI_rem, jI_div, jI_rem, true_or, or_true, false_or, or_false, eq_self, Nat.add_zero]
      refine c_error (e := 1) hly (by decide) (by omega) (vX12_put_0 hly hd2 (c12_isSheet i1 i2 (by omega) ?_))
      simp (disch := omega) only [forall_eq, true_and, and_true, false_and, and_false, forall_const, true_implies, implies_true, not_true_eq_false, not_false_eq_true, false_implies, if_true, if_false, ↓reduceIte, Int.toNat_natCast, Int.reduceEq, Int.reduceNe, Int.reduceLT, Int.reduceLE, Int.reduceToNat, Int.reduceAdd, Int.reduceSub, Int.reduceMul, Int.reduceNeg, Nat.reduceAdd, Nat.reduceMul, Nat.reduceSub, iI_lit, jI_lit, iI_add, iI_sub, iI_mul, iI_neg, jI_add, jI_sub, jI_mul, jI_neg, nI_i, lN_j, iI_le, iI_lt, iI_eq, jI_le, jI_lt, jI_eq, iI_in, iI_cl, iI_j, jI_i, cN, inN, wI_eq, wI_ne, wJ_1, wJ_eq, wJ_ne, wI_2, wJ_3, iI_div, iI_rem, jI_div, jI_rem, true_or, or_true, false_or, or_false, eq_self, Nat.add_zero, hi, g4, hb, g6]
      refine ⟨by omega, by omega, c12_isIn (by omega) (by omega) (by omega) (by omega) (by omega) (by omega) (by omega) ?_⟩
      rw [if_neg (by omega)]
      simp (disch := omega) only [forall_eq, true_and, and_true, false_and, and_false, forall_const, true_implies, implies_true, not_true_eq_false, not_false_eq_true, false_implies, if_true, if_false, ↓reduceIte, Int.toNat_natCast, Int.reduceEq, Int.reduceNe, Int.reduceLT, Int.reduceLE, Int.reduceToNat, Int.reduceAdd, Int.reduceSub, Int.reduceMul, Int.reduceNeg, Nat.reduceAdd, Nat.reduceMul, Nat.reduceSub, iI_lit, jI_lit, iI_add, iI_sub, iI_mul, iI_neg, jI_add, jI_sub, jI_mul, jI_neg, nI_i, lN_j, iI_le, iI_lt, iI_eq, jI_le, jI_lt, jI_eq, iI_in, iI_cl, iI_j, jI_i, cN, inN, wI_eq, wI_ne, wJ_1, wJ_eq, wJ_ne, wI_2, wJ_3, iI_div, iI_rem, jI_div, jI_rem, true_or, or_true, false_or, or_false, eq_self, Nat.add_zero]
      exact c12_finds (e := 1) hly (by decide) (by omega) ⟨rfl, hI.er frw.rf frw.rf⟩
theorem k_sheet {x1 x2 x3 : Int32} (hly : ∀ S, L S → ly S) (hd1 : 3 ≤ d1) (hd2 : 2 ≤ d2) (hI : Inv c m) : sm_callI E L mX11_sheet d1 0 0 [.ref (sm_B E + 0), .int x1, .int x2, .int x3] m (fun r m1 => sm_callI E L mX12_sheet d2 0 0 [.ref (sm_B E + 109), .int x1, .int x2, .int x3] m1 (fun r2 m2 => r = r2 ∧ Inv c m2)) := by
  obtain ⟨i, i1, i2, rfl⟩ := iI_ex x1
  obtain ⟨b, b1, b2, rfl⟩ := iI_ex x2
  obtain ⟨w, w1, w2, rfl⟩ := iI_ex x3
  obtain ⟨f, hf⟩ : ∃ f : Int, f = if b = 0 ∨ b = 8 ∨ b = 16 ∨ b = 32 ∨ b = 64 then 1 else 0 := ⟨_, rfl⟩
  have hf01 : f = 0 ∨ f = 1 := by rw [hf]; exact ite01 _
  have hf1 : f = 1 ↔ (b = 0 ∨ b = 8 ∨ b = 16 ∨ b = 32 ∨ b = 64) := by
    rw [hf]
    split
    · exact ⟨fun _ => by assumption, fun _ => rfl⟩
    · exact ⟨fun h => by omega, fun h => absurd h (by assumption)⟩
  have m0 : ∀ (m1 : sm_M) (Q : Int32 → sm_M → Prop), (∀ vs, gX12_sheet_33 E L d2 vs (iI i) (iI b) (iI w) (iI f) m1 Q) → sm_callI E L mX12_sheet d2 0 0 [.ref (sm_B E + 109), .int (iI i), .int (iI b), .int (iI w)] m1 Q := by
    intro m1 Q hQ
    refine vX12_sheet_0 hd2 ?_
    simp (disch := omega) only [forall_eq, true_and, and_true, false_and, and_false, forall_const, true_implies, implies_true, not_true_eq_false, not_false_eq_true, false_implies, if_true, if_false, ↓reduceIte, Int.toNat_natCast, Int.reduceEq, Int.reduceNe, Int.reduceLT, Int.reduceLE, Int.reduceToNat, Int.reduceAdd, Int.reduceSub, Int.reduceMul, Int.reduceNeg, Nat.reduceAdd, Nat.reduceMul, Nat.reduceSub, iI_lit, jI_lit, iI_add, iI_sub, iI_mul, iI_neg, jI_add, jI_sub, jI_mul, jI_neg, nI_i, lN_j, iI_le, iI_lt, iI_eq, jI_le, jI_lt, jI_eq, iI_in, iI_cl, iI_j, jI_i, cN, inN, wI_eq, wI_ne, wJ_1, wJ_eq, wJ_ne, wI_2, wJ_3, iI_div, iI_rem, jI_div, jI_rem, true_or, or_true, false_or, or_false, eq_self, Nat.add_zero]
    by_cases hk : b = 0 ∨ b = 8 ∨ b = 16 ∨ b = 32 ∨ b = 64
    · rw [hf1.mpr hk] at hQ
      exact ⟨fun _ => hQ _, fun _ => ⟨fun _ => hQ _, fun _ => ⟨fun _ => hQ _, fun _ => ⟨fun _ => hQ _, fun _ => ⟨fun _ => by omega, fun _ => hQ _⟩⟩⟩⟩⟩
    · have : f = 0 := by
        rcases hf01 with h | h
        · exact h
        · exact absurd (hf1.mp h) hk
      rw [this] at hQ
      exact ⟨fun _ => by omega, fun _ => ⟨fun _ => by omega, fun _ => ⟨fun _ => by omega, fun _ => ⟨fun _ => by omega, fun _ => ⟨fun _ => hQ _, fun _ => by omega⟩⟩⟩⟩⟩
  have c0 : ∀ (Q : Int32 → sm_M → Prop), (∀ vs, gX11_sheet_33 E L d1 vs (iI i) (iI b) (iI w) (iI f) m Q) → sm_callI E L mX11_sheet d1 0 0 [.ref (sm_B E + 0), .int (iI i), .int (iI b), .int (iI w)] m Q := by
    intro Q hQ
    refine vX11_sheet_0 hd1 ?_
    simp (disch := omega) only [forall_eq, true_and, and_true, false_and, and_false, forall_const, true_implies, implies_true, not_true_eq_false, not_false_eq_true, false_implies, if_true, if_false, ↓reduceIte, Int.toNat_natCast, Int.reduceEq, Int.reduceNe, Int.reduceLT, Int.reduceLE, Int.reduceToNat, Int.reduceAdd, Int.reduceSub, Int.reduceMul, Int.reduceNeg, Nat.reduceAdd, Nat.reduceMul, Nat.reduceSub, iI_lit, jI_lit, iI_add, iI_sub, iI_mul, iI_neg, jI_add, jI_sub, jI_mul, jI_neg, nI_i, lN_j, iI_le, iI_lt, iI_eq, jI_le, jI_lt, jI_eq, iI_in, iI_cl, iI_j, jI_i, cN, inN, wI_eq, wI_ne, wJ_1, wJ_eq, wJ_ne, wI_2, wJ_3, iI_div, iI_rem, jI_div, jI_rem, true_or, or_true, false_or, or_false, eq_self, Nat.add_zero]
    by_cases hk : b = 0 ∨ b = 8 ∨ b = 16 ∨ b = 32 ∨ b = 64
    · rw [hf1.mpr hk] at hQ
      exact ⟨fun _ => hQ _, fun _ => ⟨fun _ => hQ _, fun _ => ⟨fun _ => hQ _, fun _ => ⟨fun _ => hQ _, fun _ => ⟨fun _ => by omega, fun _ => hQ _⟩⟩⟩⟩⟩
    · have : f = 0 := by
        rcases hf01 with h | h
        · exact h
        · exact absurd (hf1.mp h) hk
      rw [this] at hQ
      exact ⟨fun _ => by omega, fun _ => ⟨fun _ => by omega, fun _ => ⟨fun _ => by omega, fun _ => ⟨fun _ => by omega, fun _ => ⟨fun _ => hQ _, fun _ => by omega⟩⟩⟩⟩⟩
  refine c0 _ (fun vs => vX11_sheet_33 hly hd1 (c_isSheet i1 i2 (by omega) ?_))
  by_cases hi : 0 ≤ i ∧ i < 4
  rotate_left
  · simp (disch := omega) only [forall_eq, true_and, and_true, false_and, and_false, forall_const, true_implies, implies_true, not_true_eq_false, not_false_eq_true, false_implies, if_true, if_false, ↓reduceIte, Int.toNat_natCast, Int.reduceEq, Int.reduceNe, Int.reduceLT, Int.reduceLE, Int.reduceToNat, Int.reduceAdd, Int.reduceSub, Int.reduceMul, Int.reduceNeg, Nat.reduceAdd, Nat.reduceMul, Nat.reduceSub, iI_lit, jI_lit, iI_add, iI_sub, iI_mul, iI_neg, jI_add, jI_sub, jI_mul, jI_neg, nI_i, lN_j, iI_le, iI_lt, iI_eq, jI_le, jI_lt, jI_eq, iI_in, iI_cl, iI_j, jI_i, cN, inN, wI_eq, wI_ne, wJ_1, wJ_eq, wJ_ne, wI_2, wJ_3, iI_div, iI_rem, jI_div, jI_rem, true_or, or_true, false_or, or_false, eq_self, Nat.add_zero, hi]
    refine c_error (e := 1) hly (by decide) (by omega) (m0 _ _ (fun vs => vX12_sheet_33 hly hd2 (c12_isSheet i1 i2 (by omega) ?_)))
    simp (disch := omega) only [forall_eq, true_and, and_true, false_and, and_false, forall_const, true_implies, implies_true, not_true_eq_false, not_false_eq_true, false_implies, if_true, if_false, ↓reduceIte, Int.toNat_natCast, Int.reduceEq, Int.reduceNe, Int.reduceLT, Int.reduceLE, Int.reduceToNat, Int.reduceAdd, Int.reduceSub, Int.reduceMul, Int.reduceNeg, Nat.reduceAdd, Nat.reduceMul, Nat.reduceSub, iI_lit, jI_lit, iI_add, iI_sub, iI_mul, iI_neg, jI_add, jI_sub, jI_mul, jI_neg, nI_i, lN_j, iI_le, iI_lt, iI_eq, jI_le, jI_lt, jI_eq, iI_in, iI_cl, iI_j, jI_i, cN, inN, wI_eq, wI_ne, wJ_1, wJ_eq, wJ_ne, wI_2, wJ_3, iI_div, iI_rem, jI_div, jI_rem, true_or, or_true, false_or, or_false, eq_self, Nat.add_zero, hi]
    exact c12_finds (e := 1) hly (by decide) (by omega) ⟨rfl, hI.er frw.rf frw.rf⟩
  obtain ⟨s, rfl⟩ : ∃ s : Nat, i = (s : Int) := ⟨i.toNat, by omega⟩
  have hs : s < 4 := by omega
  have hT := ly_sheetT hly hs
  by_cases hk : b = 0 ∨ b = 8 ∨ b = 16 ∨ b = 32 ∨ b = 64
  rotate_left
  · have f0 : f = 0 := by
      rcases hf01 with h | h
      · exact h
      · exact absurd (hf1.mp h) hk
    subst f0
    simp (disch := omega) only [forall_eq, true_and, and_true, false_and, and_false, forall_const, true_implies, implies_true, not_true_eq_false, not_false_eq_true, false_implies, if_true, if_false, ↓reduceIte, Int.toNat_natCast, Int.reduceEq, Int.reduceNe, Int.reduceLT, Int.reduceLE, Int.reduceToNat, Int.reduceAdd, Int.reduceSub, Int.reduceMul, Int.reduceNeg, Nat.reduceAdd, Nat.reduceMul, Nat.reduceSub, iI_lit, jI_lit, iI_add, iI_sub, iI_mul, iI_neg, jI_add, jI_sub, jI_mul, jI_neg, nI_i, lN_j, iI_le, iI_lt, iI_eq, jI_le, jI_lt, jI_eq, iI_in, iI_cl, iI_j, jI_i, cN, inN, wI_eq, wI_ne, wJ_1, wJ_eq, wJ_ne, wI_2, wJ_3, iI_div, iI_rem, jI_div, jI_rem, true_or, or_true, false_or, or_false, eq_self, Nat.add_zero, hi]
    refine c_error (e := 1) hly (by decide) (by omega) (m0 _ _ (fun vs => vX12_sheet_33 hly hd2 (c12_isSheet i1 i2 (by omega) ?_)))
    simp (disch := omega) only [forall_eq, true_and, and_true, false_and, and_false, forall_const, true_implies, implies_true, not_true_eq_false, not_false_eq_true, false_implies, if_true, if_false, ↓reduceIte, Int.toNat_natCast, Int.reduceEq, Int.reduceNe, Int.reduceLT, Int.reduceLE, Int.reduceToNat, Int.reduceAdd, Int.reduceSub, Int.reduceMul, Int.reduceNeg, Nat.reduceAdd, Nat.reduceMul, Nat.reduceSub, iI_lit, jI_lit, iI_add, iI_sub, iI_mul, iI_neg, jI_add, jI_sub, jI_mul, jI_neg, nI_i, lN_j, iI_le, iI_lt, iI_eq, jI_le, jI_lt, jI_eq, iI_in, iI_cl, iI_j, jI_i, cN, inN, wI_eq, wI_ne, wJ_1, wJ_eq, wJ_ne, wI_2, wJ_3, iI_div, iI_rem, jI_div, jI_rem, true_or, or_true, false_or, or_false, eq_self, Nat.add_zero, hi]
    exact c12_finds (e := 1) hly (by decide) (by omega) ⟨rfl, hI.er frw.rf frw.rf⟩
  have f1 := hf1.mpr hk
  clear hf hf01 hf1
  subst f1
  have fin : ∀ (n : Nat) (m1 m2 : sm_M), n ≤ 48 → (b = 0 → n = 0) → fr (rsP (101 + 2 * s)) m m1 → m1.1 (101 + 2 * s) 1 = iI b → m1.1 (101 + 2 * s) 2 = iI (n : Nat) → (∀ k, k < 48 → m1.2.1 (101 + 2 * s + 1) k = jI 0) → fr (lyP s) m1 m2 → m2.1 121 s = iI b → m2.1 122 s = iI (n : Nat) → (∀ k, k < 48 → m2.2.1 120 (48 * s + k) = jI 0) → Inv c m2 := by
    intro n m1 m2 hn _ f1 a1 a2 a3 f2 c1 c2 c3
    refine hI.sheet hs ((f1.w.mono (fun a k h => ?_)).tr (f2.w.mono (fun a k h => ?_))) ⟨b, n, hk, hn, ?_, c1, ?_, c2, fun k hk => ?_⟩
    · unfold rsP at h; unfold shP; omega
    · unfold lyP at h; unfold shP; omega
    · rw [f2.i (by unfold lyP; omega)]; exact a1
    · rw [f2.i (by unfold lyP; omega)]; exact a2
    · rw [f2.j (by unfold lyP; omega), c3 k hk, show 102 + 2 * s = 101 + 2 * s + 1 by omega]; exact a3 k hk
  simp (disch := omega) only [forall_eq, true_and, and_true, false_and, and_false, forall_const, true_implies, implies_true, not_true_eq_false, not_false_eq_true, false_implies, if_true, if_false, ↓reduceIte, Int.toNat_natCast, Int.reduceEq, Int.reduceNe, Int.reduceLT, Int.reduceLE, Int.reduceToNat, Int.reduceAdd, Int.reduceSub, Int.reduceMul, Int.reduceNeg, Nat.reduceAdd, Nat.reduceMul, Nat.reduceSub, iI_lit, jI_lit, iI_add, iI_sub, iI_mul, iI_neg, jI_add, jI_sub, jI_mul, jI_neg, nI_i, lN_j, iI_le, iI_lt, iI_eq, jI_le, jI_lt, jI_eq, iI_in, iI_cl, iI_j, jI_i, cN, inN, wI_eq, wI_ne, wJ_1, wJ_eq, wJ_ne, wI_2, wJ_3, iI_div, iI_rem, jI_div, jI_rem, true_or, or_true, false_or, or_false, eq_self, Nat.add_zero, hi]
  refine ⟨fun hb => ⟨fun hw => ⟨fun hw2 => ⟨by omega, ?_⟩, fun hw2 => ?_⟩, fun hw => ?_⟩, fun hb => ⟨by omega, ?_⟩⟩
  · obtain ⟨n, rfl⟩ : ∃ n : Nat, w = (n : Int) := ⟨w.toNat, by omega⟩
    refine c_reset hT (by omega) (by omega) (fun m1 f1 a1 a2 a3 => m0 _ _ (fun vs => vX12_sheet_33 hly hd2 (c12_isSheet i1 i2 (by omega) ?_)))
    simp (disch := omega) only [forall_eq, true_and, and_true, false_and, and_false, forall_const, true_implies, implies_true, not_true_eq_false, not_false_eq_true, false_implies, if_true, if_false, ↓reduceIte, Int.toNat_natCast, Int.reduceEq, Int.reduceNe, Int.reduceLT, Int.reduceLE, Int.reduceToNat, Int.reduceAdd, Int.reduceSub, Int.reduceMul, Int.reduceNeg, Nat.reduceAdd, Nat.reduceMul, Nat.reduceSub, iI_lit, jI_lit, iI_add, iI_sub, iI_mul, iI_neg, jI_add, jI_sub, jI_mul, jI_neg, nI_i, lN_j, iI_le, iI_lt, iI_eq, jI_le, jI_lt, jI_eq, iI_in, iI_cl, iI_j, jI_i, cN, inN, wI_eq, wI_ne, wJ_1, wJ_eq, wJ_ne, wI_2, wJ_3, iI_div, iI_rem, jI_div, jI_rem, true_or, or_true, false_or, or_false, eq_self, Nat.add_zero, hi]
    refine ⟨fun q => absurd q hb, fun _ => ⟨fun _ => vX12_sheet_67 hly hd2 ?_, fun q => by omega⟩⟩
    simp (disch := omega) only [forall_eq, true_and, and_true, false_and, and_false, forall_const, true_implies, implies_true, not_true_eq_false, not_false_eq_true, false_implies, if_true, if_false, ↓reduceIte, Int.toNat_natCast, Int.reduceEq, Int.reduceNe, Int.reduceLT, Int.reduceLE, Int.reduceToNat, Int.reduceAdd, Int.reduceSub, Int.reduceMul, Int.reduceNeg, Nat.reduceAdd, Nat.reduceMul, Nat.reduceSub, iI_lit, jI_lit, iI_add, iI_sub, iI_mul, iI_neg, jI_add, jI_sub, jI_mul, jI_neg, nI_i, lN_j, iI_le, iI_lt, iI_eq, jI_le, jI_lt, jI_eq, iI_in, iI_cl, iI_j, jI_i, cN, inN, wI_eq, wI_ne, wJ_1, wJ_eq, wJ_ne, wI_2, wJ_3, iI_div, iI_rem, jI_div, jI_rem, true_or, or_true, false_or, or_false, eq_self, Nat.add_zero]
    refine ⟨fun q => absurd q hb, fun _ => ⟨fun _ => c12_lays hly (by omega) hs (by omega) (by omega) (fun m2 f2 c1 c2 c3 => ?_), fun q => by omega⟩⟩
    rw [if_neg hb] at c2
    exact fin n m1 m2 (by omega) (fun q => absurd q hb) f1 a1 a2 a3 f2 c1 c2 c3
  · refine c_error (e := 1) hly (by decide) (by omega) (m0 _ _ (fun vs => vX12_sheet_33 hly hd2 (c12_isSheet i1 i2 (by omega) ?_)))
    simp (disch := omega) only [forall_eq, true_and, and_true, false_and, and_false, forall_const, true_implies, implies_true, not_true_eq_false, not_false_eq_true, false_implies, if_true, if_false, ↓reduceIte, Int.toNat_natCast, Int.reduceEq, Int.reduceNe, Int.reduceLT, Int.reduceLE, Int.reduceToNat, Int.reduceAdd, Int.reduceSub, Int.reduceMul, Int.reduceNeg, Nat.reduceAdd, Nat.reduceMul, Nat.reduceSub, iI_lit, jI_lit, iI_add, iI_sub, iI_mul, iI_neg, jI_add, jI_sub, jI_mul, jI_neg, nI_i, lN_j, iI_le, iI_lt, iI_eq, jI_le, jI_lt, jI_eq, iI_in, iI_cl, iI_j, jI_i, cN, inN, wI_eq, wI_ne, wJ_1, wJ_eq, wJ_ne, wI_2, wJ_3, iI_div, iI_rem, jI_div, jI_rem, true_or, or_true, false_or, or_false, eq_self, Nat.add_zero, hi]
    refine ⟨fun q => absurd q hb, fun _ => ⟨fun _ => vX12_sheet_67 hly hd2 ?_, fun q => by omega⟩⟩
    simp (disch := omega) only [forall_eq, true_and, and_true, false_and, and_false, forall_const, true_implies, implies_true, not_true_eq_false, not_false_eq_true, false_implies, if_true, if_false, ↓reduceIte, Int.toNat_natCast, Int.reduceEq, Int.reduceNe, Int.reduceLT, Int.reduceLE, Int.reduceToNat, Int.reduceAdd, Int.reduceSub, Int.reduceMul, Int.reduceNeg, Nat.reduceAdd, Nat.reduceMul, Nat.reduceSub, iI_lit, jI_lit, iI_add, iI_sub, iI_mul, iI_neg, jI_add, jI_sub, jI_mul, jI_neg, nI_i, lN_j, iI_le, iI_lt, iI_eq, jI_le, jI_lt, jI_eq, iI_in, iI_cl, iI_j, jI_i, cN, inN, wI_eq, wI_ne, wJ_1, wJ_eq, wJ_ne, wI_2, wJ_3, iI_div, iI_rem, jI_div, jI_rem, true_or, or_true, false_or, or_false, eq_self, Nat.add_zero]
    exact ⟨fun q => absurd q hb, fun _ => ⟨fun q => by omega, fun _ => c12_finds (e := 1) hly (by decide) (by omega) ⟨rfl, hI.er frw.rf frw.rf⟩⟩⟩
  · refine c_error (e := 3) hly (by decide) (by omega) (m0 _ _ (fun vs => vX12_sheet_33 hly hd2 (c12_isSheet i1 i2 (by omega) ?_)))
    simp (disch := omega) only [forall_eq, true_and, and_true, false_and, and_false, forall_const, true_implies, implies_true, not_true_eq_false, not_false_eq_true, false_implies, if_true, if_false, ↓reduceIte, Int.toNat_natCast, Int.reduceEq, Int.reduceNe, Int.reduceLT, Int.reduceLE, Int.reduceToNat, Int.reduceAdd, Int.reduceSub, Int.reduceMul, Int.reduceNeg, Nat.reduceAdd, Nat.reduceMul, Nat.reduceSub, iI_lit, jI_lit, iI_add, iI_sub, iI_mul, iI_neg, jI_add, jI_sub, jI_mul, jI_neg, nI_i, lN_j, iI_le, iI_lt, iI_eq, jI_le, jI_lt, jI_eq, iI_in, iI_cl, iI_j, jI_i, cN, inN, wI_eq, wI_ne, wJ_1, wJ_eq, wJ_ne, wI_2, wJ_3, iI_div, iI_rem, jI_div, jI_rem, true_or, or_true, false_or, or_false, eq_self, Nat.add_zero, hi]
    exact ⟨fun q => absurd q hb, fun _ => ⟨fun q => by omega, fun _ => c12_finds (e := 3) hly (by decide) (by omega) ⟨rfl, hI.er frw.rf frw.rf⟩⟩⟩
  · subst hb
    refine c_reset (n := 0) hT (by omega) (by omega) (fun m1 f1 a1 a2 a3 => m0 _ _ (fun vs => vX12_sheet_33 hly hd2 (c12_isSheet i1 i2 (by omega) ?_)))
    simp (disch := omega) only [forall_eq, true_and, and_true, false_and, and_false, forall_const, true_implies, implies_true, not_true_eq_false, not_false_eq_true, false_implies, if_true, if_false, ↓reduceIte, Int.toNat_natCast, Int.reduceEq, Int.reduceNe, Int.reduceLT, Int.reduceLE, Int.reduceToNat, Int.reduceAdd, Int.reduceSub, Int.reduceMul, Int.reduceNeg, Nat.reduceAdd, Nat.reduceMul, Nat.reduceSub, iI_lit, jI_lit, iI_add, iI_sub, iI_mul, iI_neg, jI_add, jI_sub, jI_mul, jI_neg, nI_i, lN_j, iI_le, iI_lt, iI_eq, jI_le, jI_lt, jI_eq, iI_in, iI_cl, iI_j, jI_i, cN, inN, wI_eq, wI_ne, wJ_1, wJ_eq, wJ_ne, wI_2, wJ_3, iI_div, iI_rem, jI_div, jI_rem, true_or, or_true, false_or, or_false, eq_self, Nat.add_zero, hi]
    refine vX12_sheet_67 hly hd2 ?_
    simp (disch := omega) only [forall_eq, true_and, and_true, false_and, and_false, forall_const, true_implies, implies_true, not_true_eq_false, not_false_eq_true, false_implies, if_true, if_false, ↓reduceIte, Int.toNat_natCast, Int.reduceEq, Int.reduceNe, Int.reduceLT, Int.reduceLE, Int.reduceToNat, Int.reduceAdd, Int.reduceSub, Int.reduceMul, Int.reduceNeg, Nat.reduceAdd, Nat.reduceMul, Nat.reduceSub, iI_lit, jI_lit, iI_add, iI_sub, iI_mul, iI_neg, jI_add, jI_sub, jI_mul, jI_neg, nI_i, lN_j, iI_le, iI_lt, iI_eq, jI_le, jI_lt, jI_eq, iI_in, iI_cl, iI_j, jI_i, cN, inN, wI_eq, wI_ne, wJ_1, wJ_eq, wJ_ne, wI_2, wJ_3, iI_div, iI_rem, jI_div, jI_rem, true_or, or_true, false_or, or_false, eq_self, Nat.add_zero]
    refine c12_lays hly (by omega) hs (by omega) (by omega) (fun m2 f2 c1 c2 c3 => ?_)
    exact fin 0 m1 m2 (by omega) (fun _ => rfl) f1 a1 a2 a3 f2 c1 c2 c3
theorem c12_shift_loop2 {Q : Int32 → sm_M → Prop} {vs : List Value} {s j x : Nat} (hly : ∀ S, L S → ly S) (hd : 2 ≤ d2) (hs : s < 4) (hj : j + x ≤ 48) (m0 : sm_M) (h : ∀ m', fr (fun a k => a = 120 ∧ 48 * s ≤ k ∧ k < 48 * s + 48) m0 m' → (∀ k, k < 48 → m'.2.1 120 (48 * s + k) = if j ≤ k ∧ k < j + x then m0.2.1 147 (k - j) else m0.2.1 120 (48 * s + k)) → Q (iI (x : Nat)) m') : ∀ (r i : Nat) (m : sm_M), i + r = x → fr (fun a k => a = 120 ∧ 48 * s ≤ k ∧ k < 48 * s + 48) m0 m → (∀ k, k < 48 → m.2.1 120 (48 * s + k) = if j ≤ k ∧ k < j + i then m0.2.1 147 (k - j) else m0.2.1 120 (48 * s + k)) → gX12_shift_152 E L d2 vs (iI (s : Nat)) (iI (j : Nat)) (iI (x : Nat)) (iI (i : Nat)) m Q := by
  intro r
  induction r with
  | zero =>
    intro i m hi hm hg
    have : i = x := by omega
    subst this
    refine vX12_shift_152 hly hd ?_
    simp (disch := omega) only [forall_eq, true_and, and_true, false_and, and_false, forall_const, true_implies, implies_true, not_true_eq_false, not_false_eq_true, false_implies, if_true, if_false, ↓reduceIte, Int.toNat_natCast, Int.reduceEq, Int.reduceNe, Int.reduceLT, Int.reduceLE, Int.reduceToNat, Int.reduceAdd, Int.reduceSub, Int.reduceMul, Int.reduceNeg, Nat.reduceAdd, Nat.reduceMul, Nat.reduceSub, iI_lit, jI_lit, iI_add, iI_sub, iI_mul, iI_neg, jI_add, jI_sub, jI_mul, jI_neg, nI_i, lN_j, iI_le, iI_lt, iI_eq, jI_le, jI_lt, jI_eq, iI_in, iI_cl, iI_j, jI_i, cN, inN, wI_eq, wI_ne, wJ_1, wJ_eq, wJ_ne, wI_2, wJ_3, iI_div, iI_rem, jI_div, jI_rem, true_or, or_true, false_or, or_false, eq_self, Nat.add_zero]
    exact ⟨fun _ => h m hm hg, fun q => by omega⟩
  | succ r ih =>
    intro i m hi hm hg
    have e5 : ((i : Nat) : Int) + 1 = ((i + 1 : Nat) : Int) := by omega
    have e6 : (48 : Int) * ((s : Nat) : Int) + ((j : Nat) : Int) + ((i : Nat) : Int) = ((48 * s + j + i : Nat) : Int) := by omega
    refine vX12_shift_152 hly hd ?_
    simp (disch := omega) only [forall_eq, true_and, and_true, false_and, and_false, forall_const, true_implies, implies_true, not_true_eq_false, not_false_eq_true, false_implies, if_true, if_false, ↓reduceIte, Int.toNat_natCast, Int.reduceEq, Int.reduceNe, Int.reduceLT, Int.reduceLE, Int.reduceToNat, Int.reduceAdd, Int.reduceSub, Int.reduceMul, Int.reduceNeg, Nat.reduceAdd, Nat.reduceMul, Nat.reduceSub, iI_lit, jI_lit, iI_add, iI_sub, iI_mul, iI_neg, jI_add, jI_sub, jI_mul, jI_neg, nI_i, lN_j, iI_le, iI_lt, iI_eq, jI_le, jI_lt, jI_eq, iI_in, iI_cl, iI_j, jI_i, cN, inN, wI_eq, wI_ne, wJ_1, wJ_eq, wJ_ne, wI_2, wJ_3, iI_div, iI_rem, jI_div, jI_rem, true_or, or_true, false_or, or_false, eq_self, Nat.add_zero, e5, e6]
    refine ⟨fun q => by omega, fun _ => ⟨by omega, by omega, ih (i + 1) _ (by omega) (hm.wJ (by omega)) (fun k hk => ?_)⟩⟩
    by_cases hki : k = j + i
    · subst hki
      rw [wJ_eq rfl (by omega), if_pos (by omega), hm.j (by omega), show j + i - j = i by omega]
    · rw [wJ_ne (by omega), hg k hk]
      by_cases hq : j ≤ k ∧ k < j + i
      · rw [if_pos hq, if_pos (by omega)]
      · rw [if_neg hq, if_neg (by omega)]
theorem c12_shift_loop1 {Q : Int32 → sm_M → Prop} {vs : List Value} {s1 s j i0 x : Nat} (hly : ∀ S, L S → ly S) (hd : 2 ≤ d2) (hs1 : s1 < 4) (hs : s < 4) (hi0 : i0 + x ≤ 48) (hj : j + x ≤ 48) (m0 : sm_M) (h : ∀ m', fr (fun a k => a = 147 ∨ (a = 120 ∧ 48 * s ≤ k ∧ k < 48 * s + 48)) m0 m' → (∀ k, k < 48 → m'.2.1 120 (48 * s + k) = if j ≤ k ∧ k < j + x then m0.2.1 120 (48 * s1 + i0 + (k - j)) else m0.2.1 120 (48 * s + k)) → Q (iI (x : Nat)) m') : ∀ (r i : Nat) (m : sm_M), i + r = x → fr (fun a _ => a = 147) m0 m → (∀ k, k < i → m.2.1 147 k = m0.2.1 120 (48 * s1 + i0 + k)) → gX12_shift_115 E L d2 vs (iI (s1 : Nat)) (iI (i0 : Nat)) (iI (s : Nat)) (iI (j : Nat)) (iI (x : Nat)) (iI (i : Nat)) m Q := by
  intro r
  induction r with
  | zero =>
    intro i m hi hm hg
    have : i = x := by omega
    subst this
    refine vX12_shift_115 hly hd ?_
    simp (disch := omega) only [forall_eq, true_and, and_true, false_and, and_false, forall_const, true_implies, implies_true, not_true_eq_false, not_false_eq_true, false_implies, if_true, if_false, ↓reduceIte, Int.toNat_natCast, Int.reduceEq, Int.reduceNe, Int.reduceLT, Int.reduceLE, Int.reduceToNat, Int.reduceAdd, Int.reduceSub, Int.reduceMul, Int.reduceNeg, Nat.reduceAdd, Nat.reduceMul, Nat.reduceSub, iI_lit, jI_lit, iI_add, iI_sub, iI_mul, iI_neg, jI_add, jI_sub, jI_mul, jI_neg, nI_i, lN_j, iI_le, iI_lt, iI_eq, jI_le, jI_lt, jI_eq, iI_in, iI_cl, iI_j, jI_i, cN, inN, wI_eq, wI_ne, wJ_1, wJ_eq, wJ_ne, wI_2, wJ_3, iI_div, iI_rem, jI_div, jI_rem, true_or, or_true, false_or, or_false, eq_self, Nat.add_zero]
    refine ⟨fun _ => c12_shift_loop2 hly hd hs hj m (fun m2 f2 g2 => h m2 ((hm.mono (fun a k h => Or.inl h)).tr (f2.mono (fun a k h => Or.inr h))) (fun k hk => ?_)) i 0 m (by omega) fr.rf (fun k hk => by rw [if_neg (by omega)]), fun q => by omega⟩
    rw [g2 k hk]
    by_cases hq : j ≤ k ∧ k < j + i
    · rw [if_pos hq, if_pos hq, hg _ (by omega)]
    · rw [if_neg hq, if_neg hq, hm.j (by omega)]
  | succ r ih =>
    intro i m hi hm hg
    have e5 : ((i : Nat) : Int) + 1 = ((i + 1 : Nat) : Int) := by omega
    have e6 : (48 : Int) * ((s1 : Nat) : Int) + ((i0 : Nat) : Int) + ((i : Nat) : Int) = ((48 * s1 + i0 + i : Nat) : Int) := by omega
    refine vX12_shift_115 hly hd ?_
    simp (disch := omega) only [forall_eq, true_and, and_true, false_and, and_false, forall_const, true_implies, implies_true, not_true_eq_false, not_false_eq_true, false_implies, if_true, if_false, ↓reduceIte, Int.toNat_natCast, Int.reduceEq, Int.reduceNe, Int.reduceLT, Int.reduceLE, Int.reduceToNat, Int.reduceAdd, Int.reduceSub, Int.reduceMul, Int.reduceNeg, Nat.reduceAdd, Nat.reduceMul, Nat.reduceSub, iI_lit, jI_lit, iI_add, iI_sub, iI_mul, iI_neg, jI_add, jI_sub, jI_mul, jI_neg, nI_i, lN_j, iI_le, iI_lt, iI_eq, jI_le, jI_lt, jI_eq, iI_in, iI_cl, iI_j, jI_i, cN, inN, wI_eq, wI_ne, wJ_1, wJ_eq, wJ_ne, wI_2, wJ_3, iI_div, iI_rem, jI_div, jI_rem, true_or, or_true, false_or, or_false, eq_self, Nat.add_zero, e5, e6]
    refine ⟨fun q => by omega, fun _ => ⟨by omega, by omega, ih (i + 1) _ (by omega) (hm.wJ rfl) (fun k hk => ?_)⟩⟩
    by_cases hki : k = i
    · subst hki
      rw [wJ_eq rfl rfl, hm.j (by omega)]
    · rw [wJ_ne (by omega)]
      exact hg k (by omega)
theorem k_shift {x1 x2 x3 x4 x5 : Int32} (hly : ∀ S, L S → ly S) (hd1 : 3 ≤ d1) (hd2 : 2 ≤ d2) (hI : Inv c m) : sm_callI E L mX11_shift d1 0 0 [.ref (sm_B E + 0), .int x1, .int x2, .int x3, .int x4, .int x5] m (fun r m1 => sm_callI E L mX12_shift d2 0 0 [.ref (sm_B E + 109), .int x1, .int x2, .int x3, .int x4, .int x5] m1 (fun r2 m2 => r = r2 ∧ Inv c m2)) := by
  obtain ⟨i, i1, i2, rfl⟩ := iI_ex x1
  obtain ⟨p, p1, p2, rfl⟩ := iI_ex x2
  obtain ⟨o, o1, o2, rfl⟩ := iI_ex x3
  obtain ⟨q, q1, q2, rfl⟩ := iI_ex x4
  obtain ⟨x, y1, y2, rfl⟩ := iI_ex x5
  refine vX11_shift_0 hly hd1 (c_isSheet i1 i2 (by omega) ?_)
  by_cases hi : 0 ≤ i ∧ i < 4
  rotate_left
  · simp (disch := omega) only [forall_eq, true_and, and_true, false_and, and_false, forall_const, true_implies, implies_true, not_true_eq_false, not_false_eq_true, false_implies, if_true, if_false, ↓reduceIte, Int.toNat_natCast, Int.reduceEq, Int.reduceNe, Int.reduceLT, Int.reduceLE, Int.reduceToNat, Int.reduceAdd, Int.reduceSub, Int.reduceMul, Int.reduceNeg, Nat.reduceAdd, Nat.reduceMul, Nat.reduceSub, iI_lit, jI_lit, iI_add, iI_sub, iI_mul, iI_neg, jI_add, jI_sub, jI_mul, jI_neg, nI_i, lN_j, iI_le, iI_lt, iI_eq, jI_le, jI_lt, jI_eq, iI_in, iI_cl, iI_j, jI_i, cN, inN, wI_eq, wI_ne, wJ_1, wJ_eq, wJ_ne, wI_2, wJ_3, iI_div, iI_rem, jI_div, jI_rem, true_or, or_true, false_or, or_false, eq_self, Nat.add_zero, hi]
    refine c_error (e := 1) hly (by decide) (by omega) (vX12_shift_0 hly hd2 (c12_isSheet i1 i2 (by omega) ?_))
    simp (disch := omega) only [forall_eq, true_and, and_true, false_and, and_false, forall_const, true_implies, implies_true, not_true_eq_false, not_false_eq_true, false_implies, if_true, if_false, ↓reduceIte, Int.toNat_natCast, Int.reduceEq, Int.reduceNe, Int.reduceLT, Int.reduceLE, Int.reduceToNat, Int.reduceAdd, Int.reduceSub, Int.reduceMul, Int.reduceNeg, Nat.reduceAdd, Nat.reduceMul, Nat.reduceSub, iI_lit, jI_lit, iI_add, iI_sub, iI_mul, iI_neg, jI_add, jI_sub, jI_mul, jI_neg, nI_i, lN_j, iI_le, iI_lt, iI_eq, jI_le, jI_lt, jI_eq, iI_in, iI_cl, iI_j, jI_i, cN, inN, wI_eq, wI_ne, wJ_1, wJ_eq, wJ_ne, wI_2, wJ_3, iI_div, iI_rem, jI_div, jI_rem, true_or, or_true, false_or, or_false, eq_self, Nat.add_zero, hi]
    exact c12_finds (e := 1) hly (by decide) (by omega) ⟨rfl, hI.er frw.rf frw.rf⟩
  simp (disch := omega) only [forall_eq, true_and, and_true, false_and, and_false, forall_const, true_implies, implies_true, not_true_eq_false, not_false_eq_true, false_implies, if_true, if_false, ↓reduceIte, Int.toNat_natCast, Int.reduceEq, Int.reduceNe, Int.reduceLT, Int.reduceLE, Int.reduceToNat, Int.reduceAdd, Int.reduceSub, Int.reduceMul, Int.reduceNeg, Nat.reduceAdd, Nat.reduceMul, Nat.reduceSub, iI_lit, jI_lit, iI_add, iI_sub, iI_mul, iI_neg, jI_add, jI_sub, jI_mul, jI_neg, nI_i, lN_j, iI_le, iI_lt, iI_eq, jI_le, jI_lt, jI_eq, iI_in, iI_cl, iI_j, jI_i, cN, inN, wI_eq, wI_ne, wJ_1, wJ_eq, wJ_ne, wI_2, wJ_3, iI_div, iI_rem, jI_div, jI_rem, true_or, or_true, false_or, or_false, eq_self, Nat.add_zero, hi]
  refine c_isSheet o1 o2 (by omega) ?_
  by_cases ho : 0 ≤ o ∧ o < 4
  rotate_left
  · simp (disch := omega) only [forall_eq, true_and, and_true, false_and, and_false, forall_const, true_implies, implies_true, not_true_eq_false, not_false_eq_true, false_implies, if_true, if_false, ↓reduceIte, Int.toNat_natCast, Int.reduceEq, Int.reduceNe, Int.reduceLT, Int.reduceLE, Int.reduceToNat, Int.reduceAdd, Int.reduceSub, Int.reduceMul, Int.reduceNeg, Nat.reduceAdd, Nat.reduceMul, Nat.reduceSub, iI_lit, jI_lit, iI_add, iI_sub, iI_mul, iI_neg, jI_add, jI_sub, jI_mul, jI_neg, nI_i, lN_j, iI_le, iI_lt, iI_eq, jI_le, jI_lt, jI_eq, iI_in, iI_cl, iI_j, jI_i, cN, inN, wI_eq, wI_ne, wJ_1, wJ_eq, wJ_ne, wI_2, wJ_3, iI_div, iI_rem, jI_div, jI_rem, true_or, or_true, false_or, or_false, eq_self, Nat.add_zero, ho]
    refine c_error (e := 1) hly (by decide) (by omega) (vX12_shift_0 hly hd2 (c12_isSheet i1 i2 (by omega) ?_))
    simp (disch := omega) only [forall_eq, true_and, and_true, false_and, and_false, forall_const, true_implies, implies_true, not_true_eq_false, not_false_eq_true, false_implies, if_true, if_false, ↓reduceIte, Int.toNat_natCast, Int.reduceEq, Int.reduceNe, Int.reduceLT, Int.reduceLE, Int.reduceToNat, Int.reduceAdd, Int.reduceSub, Int.reduceMul, Int.reduceNeg, Nat.reduceAdd, Nat.reduceMul, Nat.reduceSub, iI_lit, jI_lit, iI_add, iI_sub, iI_mul, iI_neg, jI_add, jI_sub, jI_mul, jI_neg, nI_i, lN_j, iI_le, iI_lt, iI_eq, jI_le, jI_lt, jI_eq, iI_in, iI_cl, iI_j, jI_i, cN, inN, wI_eq, wI_ne, wJ_1, wJ_eq, wJ_ne, wI_2, wJ_3, iI_div, iI_rem, jI_div, jI_rem, true_or, or_true, false_or, or_false, eq_self, Nat.add_zero, hi]
    refine c12_isSheet o1 o2 (by omega) ?_
    simp (disch := omega) only [forall_eq, true_and, and_true, false_and, and_false, forall_const, true_implies, implies_true, not_true_eq_false, not_false_eq_true, false_implies, if_true, if_false, ↓reduceIte, Int.toNat_natCast, Int.reduceEq, Int.reduceNe, Int.reduceLT, Int.reduceLE, Int.reduceToNat, Int.reduceAdd, Int.reduceSub, Int.reduceMul, Int.reduceNeg, Nat.reduceAdd, Nat.reduceMul, Nat.reduceSub, iI_lit, jI_lit, iI_add, iI_sub, iI_mul, iI_neg, jI_add, jI_sub, jI_mul, jI_neg, nI_i, lN_j, iI_le, iI_lt, iI_eq, jI_le, jI_lt, jI_eq, iI_in, iI_cl, iI_j, jI_i, cN, inN, wI_eq, wI_ne, wJ_1, wJ_eq, wJ_ne, wI_2, wJ_3, iI_div, iI_rem, jI_div, jI_rem, true_or, or_true, false_or, or_false, eq_self, Nat.add_zero, ho]
    exact c12_finds (e := 1) hly (by decide) (by omega) ⟨rfl, hI.er frw.rf frw.rf⟩
  obtain ⟨s, rfl⟩ : ∃ s : Nat, i = (s : Int) := ⟨i.toNat, by omega⟩
  obtain ⟨r, rfl⟩ : ∃ r : Nat, o = (r : Int) := ⟨o.toNat, by omega⟩
  have hs : s < 4 := by omega
  have hr : r < 4 := by omega
  obtain ⟨b, n, g1, g2, g3, g4, g5, g6, g7⟩ := hI.2.1.2.2.2.2.2.1 s hs
  obtain ⟨e, k, h1, h2, h3, h4, h5, h6, h7⟩ := hI.2.1.2.2.2.2.2.1 r hr
  have hT := ly_sheetT hly hs
  have hT' := ly_sheetT hly hr
  -- the reference
  have model : ∀ (m1 : sm_M) (Q : Int32 → sm_M → Prop), m1.1 121 s = iI b → m1.1 121 r = iI e → m1.1 122 s = iI (n : Nat) → m1.1 122 r = iI (k : Nat) → (b = 0 ∨ e = 0 → Q (iI (-1000000000 - (2 : Nat))) (sm_wI m1 110 2 (m1.1 110 2 + 1))) → (b ≠ 0 → e ≠ 0 → b ≠ e → Q (iI (-1000000000 - (5 : Nat))) (sm_wI m1 110 5 (m1.1 110 5 + 1))) → (b ≠ 0 → e ≠ 0 → b = e → ¬ (0 ≤ x ∧ 0 ≤ p ∧ 0 ≤ q ∧ p + x ≤ n ∧ q + x ≤ k) → Q (iI (-1000000000 - (1 : Nat))) (sm_wI m1 110 1 (m1.1 110 1 + 1))) → (b ≠ 0 → e ≠ 0 → b = e → (0 ≤ x ∧ 0 ≤ p ∧ 0 ≤ q ∧ p + x ≤ n ∧ q + x ≤ k) → ∀ m2, fr (fun a k => a = 147 ∨ (a = 120 ∧ 48 * r ≤ k ∧ k < 48 * r + 48)) m1 m2 → (∀ k, k < 48 → m2.2.1 120 (48 * r + k) = if q.toNat ≤ k ∧ k < q.toNat + x.toNat then m1.2.1 120 (48 * s + p.toNat + (k - q.toNat)) else m1.2.1 120 (48 * r + k)) → Q (iI x) m2) → sm_callI E L mX12_shift d2 0 0 [.ref (sm_B E + 109), .int (iI (s : Nat)), .int (iI p), .int (iI (r : Nat)), .int (iI q), .int (iI x)] m1 Q := by
    intro m1 Q a1 a2 a3 a4 hQ1 hQ2 hQ3 hQ4
    refine vX12_shift_0 hly hd2 (c12_isSheet i1 i2 (by omega) ?_)
    simp (disch := omega) only [forall_eq, true_and, and_true, false_and, and_false, forall_const, true_implies, implies_true, not_true_eq_false, not_false_eq_true, false_implies, if_true, if_false, ↓reduceIte, Int.toNat_natCast, Int.reduceEq, Int.reduceNe, Int.reduceLT, Int.reduceLE, Int.reduceToNat, Int.reduceAdd, Int.reduceSub, Int.reduceMul, Int.reduceNeg, Nat.reduceAdd, Nat.reduceMul, Nat.reduceSub, iI_lit, jI_lit, iI_add, iI_sub, iI_mul, iI_neg, jI_add, jI_sub, jI_mul, jI_neg, nI_i, lN_j, iI_le, iI_lt, iI_eq, jI_le, jI_lt, jI_eq, iI_in, iI_cl, iI_j, jI_i, cN, inN, wI_eq, wI_ne, wJ_1, wJ_eq, wJ_ne, wI_2, wJ_3, iI_div, iI_rem, jI_div, jI_rem, true_or, or_true, false_or, or_false, eq_self, Nat.add_zero, hi]
    refine c12_isSheet o1 o2 (by omega) ?_
    simp (disch := omega) only [forall_eq, true_and, and_true, false_and, and_false, forall_const, true_implies, implies_true, not_true_eq_false, not_false_eq_true, false_implies, if_true, if_false, ↓reduceIte, Int.toNat_natCast, Int.reduceEq, Int.reduceNe, Int.reduceLT, Int.reduceLE, Int.reduceToNat, Int.reduceAdd, Int.reduceSub, Int.reduceMul, Int.reduceNeg, Nat.reduceAdd, Nat.reduceMul, Nat.reduceSub, iI_lit, jI_lit, iI_add, iI_sub, iI_mul, iI_neg, jI_add, jI_sub, jI_mul, jI_neg, nI_i, lN_j, iI_le, iI_lt, iI_eq, jI_le, jI_lt, jI_eq, iI_in, iI_cl, iI_j, jI_i, cN, inN, wI_eq, wI_ne, wJ_1, wJ_eq, wJ_ne, wI_2, wJ_3, iI_div, iI_rem, jI_div, jI_rem, true_or, or_true, false_or, or_false, eq_self, Nat.add_zero, ho, a1, a2, a3, a4]
    refine ⟨by omega, fun b0 => c12_finds (e := 2) hly (by decide) (by omega) (hQ1 (Or.inl b0)), fun b0 => ⟨by omega, fun e0 => ⟨by omega, by omega, fun be => ?_, fun be => c12_finds (e := 5) hly (by decide) (by omega) (hQ2 b0 e0 be)⟩, fun e0 => c12_finds (e := 2) hly (by decide) (by omega) (hQ1 (Or.inr e0))⟩⟩
    have bad : ¬ (0 ≤ x ∧ 0 ≤ p ∧ 0 ≤ q ∧ p + x ≤ n ∧ q + x ≤ k) → ∀ Q', (∀ r m', Q r m' → Q' r m') → sm_callI E L mX12_finds 1 0 0 [.ref (sm_B E + 109), .int (iI 1)] m1 Q' := fun hb Q' hq => c12_finds (e := 1) hly (by decide) (by omega) (hq _ _ (hQ3 b0 e0 be hb))
    refine ⟨fun z1 => bad (by omega) _ (fun _ _ h => h), fun z1 => ⟨fun z2 => bad (by omega) _ (fun _ _ h => h), fun z2 => ⟨fun z3 => bad (by omega) _ (fun _ _ h => h), fun z3 => ⟨by omega, fun z4 => bad ?_ _ (fun _ _ h => h), fun z4 => ⟨by omega, fun z5 => ?_, fun z5 => bad ?_ _ (fun _ _ h => h)⟩⟩⟩⟩⟩
    · simp (disch := omega) only [forall_eq, true_and, and_true, false_and, and_false, forall_const, true_implies, implies_true, not_true_eq_false, not_false_eq_true, false_implies, if_true, if_false, ↓reduceIte, Int.toNat_natCast, Int.reduceEq, Int.reduceNe, Int.reduceLT, Int.reduceLE, Int.reduceToNat, Int.reduceAdd, Int.reduceSub, Int.reduceMul, Int.reduceNeg, Nat.reduceAdd, Nat.reduceMul, Nat.reduceSub, iI_lit, jI_lit, iI_add, iI_sub, iI_mul, iI_neg, jI_add, jI_sub, jI_mul, jI_neg, nI_i, lN_j, iI_le, iI_lt, iI_eq, jI_le, jI_lt, jI_eq, iI_in, iI_cl, iI_j, jI_i, cN, inN, wI_eq, wI_ne, wJ_1, wJ_eq, wJ_ne, wI_2, wJ_3, iI_div, iI_rem, jI_div, jI_rem, true_or, or_true, false_or, or_false, eq_self, Nat.add_zero] at z4
      omega
    · simp (disch := omega) only [forall_eq, true_and, and_true, false_and, and_false, forall_const, true_implies, implies_true, not_true_eq_false, not_false_eq_true, false_implies, if_true, if_false, ↓reduceIte, Int.toNat_natCast, Int.reduceEq, Int.reduceNe, Int.reduceLT, Int.reduceLE, Int.reduceToNat, Int.reduceAdd, Int.reduceSub, Int.reduceMul, Int.reduceNeg, Nat.reduceAdd, Nat.reduceMul, Nat.reduceSub, iI_lit, jI_lit, iI_add, iI_sub, iI_mul, iI_neg, jI_add, jI_sub, jI_mul, jI_neg, nI_i, lN_j, iI_le, iI_lt, iI_eq, jI_le, jI_lt, jI_eq, iI_in, iI_cl, iI_j, jI_i, cN, inN, wI_eq, wI_ne, wJ_1, wJ_eq, wJ_ne, wI_2, wJ_3, iI_div, iI_rem, jI_div, jI_rem, true_or, or_true, false_or, or_false, eq_self, Nat.add_zero] at z4 z5
      obtain ⟨X, rfl⟩ : ∃ X : Nat, x = (X : Int) := ⟨x.toNat, by omega⟩
      obtain ⟨Pp, rfl⟩ : ∃ X : Nat, p = (X : Int) := ⟨p.toNat, by omega⟩
      obtain ⟨Qq, rfl⟩ : ∃ X : Nat, q = (X : Int) := ⟨q.toNat, by omega⟩
      refine c12_shift_loop1 hly hd2 hs hr (by omega) (by omega) m1 (fun m2 f2 g2 => hQ4 b0 e0 be (by omega) m2 f2 g2) X 0 m1 (by omega) fr.rf (fun k hk => absurd hk (Nat.not_lt_zero _))
    · simp (disch := omega) only [forall_eq, true_and, and_true, false_and, and_false, forall_const, true_implies, implies_true, not_true_eq_false, not_false_eq_true, false_implies, if_true, if_false, ↓reduceIte, Int.toNat_natCast, Int.reduceEq, Int.reduceNe, Int.reduceLT, Int.reduceLE, Int.reduceToNat, Int.reduceAdd, Int.reduceSub, Int.reduceMul, Int.reduceNeg, Nat.reduceAdd, Nat.reduceMul, Nat.reduceSub, iI_lit, jI_lit, iI_add, iI_sub, iI_mul, iI_neg, jI_add, jI_sub, jI_mul, jI_neg, nI_i, lN_j, iI_le, iI_lt, iI_eq, jI_le, jI_lt, jI_eq, iI_in, iI_cl, iI_j, jI_i, cN, inN, wI_eq, wI_ne, wJ_1, wJ_eq, wJ_ne, wI_2, wJ_3, iI_div, iI_rem, jI_div, jI_rem, true_or, or_true, false_or, or_false, eq_self, Nat.add_zero] at z4 z5
      omega
  simp (disch := omega) only [forall_eq, true_and, and_true, false_and, and_false, forall_const, true_implies, implies_true, not_true_eq_false, not_false_eq_true, false_implies, if_true, if_false, ↓reduceIte, Int.toNat_natCast, Int.reduceEq, Int.reduceNe, Int.reduceLT, Int.reduceLE, Int.reduceToNat, Int.reduceAdd, Int.reduceSub, Int.reduceMul, Int.reduceNeg, Nat.reduceAdd, Nat.reduceMul, Nat.reduceSub, iI_lit, jI_lit, iI_add, iI_sub, iI_mul, iI_neg, jI_add, jI_sub, jI_mul, jI_neg, nI_i, lN_j, iI_le, iI_lt, iI_eq, jI_le, jI_lt, jI_eq, iI_in, iI_cl, iI_j, jI_i, cN, inN, wI_eq, wI_ne, wJ_1, wJ_eq, wJ_ne, wI_2, wJ_3, iI_div, iI_rem, jI_div, jI_rem, true_or, or_true, false_or, or_false, eq_self, Nat.add_zero, ho]
  refine ⟨by omega, by omega, c_isMissing hT (by omega) g3 (by omega) (by omega) ?_⟩
  have w1 : ∀ e, fr (fun a _ => a = 76) m (sm_wI m 76 e (m.1 76 e + 1)) := fun e => fr.rf.wI rfl
  by_cases b0 : b = 0
  · rw [if_pos b0]
    simp (disch := omega) only [forall_eq, true_and, and_true, false_and, and_false, forall_const, true_implies, implies_true, not_true_eq_false, not_false_eq_true, false_implies, if_true, if_false, ↓reduceIte, Int.toNat_natCast, Int.reduceEq, Int.reduceNe, Int.reduceLT, Int.reduceLE, Int.reduceToNat, Int.reduceAdd, Int.reduceSub, Int.reduceMul, Int.reduceNeg, Nat.reduceAdd, Nat.reduceMul, Nat.reduceSub, iI_lit, jI_lit, iI_add, iI_sub, iI_mul, iI_neg, jI_add, jI_sub, jI_mul, jI_neg, nI_i, lN_j, iI_le, iI_lt, iI_eq, jI_le, jI_lt, jI_eq, iI_in, iI_cl, iI_j, jI_i, cN, inN, wI_eq, wI_ne, wJ_1, wJ_eq, wJ_ne, wI_2, wJ_3, iI_div, iI_rem, jI_div, jI_rem, true_or, or_true, false_or, or_false, eq_self, Nat.add_zero]
    refine c_error (e := 2) hly (by decide) (by omega) (model _ _ ?_ ?_ ?_ ?_ (fun _ => ⟨rfl, hI.er frw.rf frw.rf⟩) (fun h => absurd b0 h) (fun h => absurd b0 h) (fun h => absurd b0 h))
    · rw [(w1 2).i (by omega)]; exact g4
    · rw [(w1 2).i (by omega)]; exact h4
    · rw [(w1 2).i (by omega)]; exact g6
    · rw [(w1 2).i (by omega)]; exact h6
  rw [if_neg b0]
  simp (disch := omega) only [forall_eq, true_and, and_true, false_and, and_false, forall_const, true_implies, implies_true, not_true_eq_false, not_false_eq_true, false_implies, if_true, if_false, ↓reduceIte, Int.toNat_natCast, Int.reduceEq, Int.reduceNe, Int.reduceLT, Int.reduceLE, Int.reduceToNat, Int.reduceAdd, Int.reduceSub, Int.reduceMul, Int.reduceNeg, Nat.reduceAdd, Nat.reduceMul, Nat.reduceSub, iI_lit, jI_lit, iI_add, iI_sub, iI_mul, iI_neg, jI_add, jI_sub, jI_mul, jI_neg, nI_i, lN_j, iI_le, iI_lt, iI_eq, jI_le, jI_lt, jI_eq, iI_in, iI_cl, iI_j, jI_i, cN, inN, wI_eq, wI_ne, wJ_1, wJ_eq, wJ_ne, wI_2, wJ_3, iI_div, iI_rem, jI_div, jI_rem, true_or, or_true, false_or, or_false, eq_self, Nat.add_zero]
  refine c_isMissing hT' (by omega) h3 (by omega) (by omega) ?_
  by_cases e0 : e = 0
  · rw [if_pos e0]
    simp (disch := omega) only [forall_eq, true_and, and_true, false_and, and_false, forall_const, true_implies, implies_true, not_true_eq_false, not_false_eq_true, false_implies, if_true, if_false, ↓reduceIte, Int.toNat_natCast, Int.reduceEq, Int.reduceNe, Int.reduceLT, Int.reduceLE, Int.reduceToNat, Int.reduceAdd, Int.reduceSub, Int.reduceMul, Int.reduceNeg, Nat.reduceAdd, Nat.reduceMul, Nat.reduceSub, iI_lit, jI_lit, iI_add, iI_sub, iI_mul, iI_neg, jI_add, jI_sub, jI_mul, jI_neg, nI_i, lN_j, iI_le, iI_lt, iI_eq, jI_le, jI_lt, jI_eq, iI_in, iI_cl, iI_j, jI_i, cN, inN, wI_eq, wI_ne, wJ_1, wJ_eq, wJ_ne, wI_2, wJ_3, iI_div, iI_rem, jI_div, jI_rem, true_or, or_true, false_or, or_false, eq_self, Nat.add_zero]
    refine c_error (e := 2) hly (by decide) (by omega) (model _ _ ?_ ?_ ?_ ?_ (fun _ => ⟨rfl, hI.er frw.rf frw.rf⟩) (fun _ h => absurd e0 h) (fun _ h => absurd e0 h) (fun _ h => absurd e0 h))
    · rw [(w1 2).i (by omega)]; exact g4
    · rw [(w1 2).i (by omega)]; exact h4
    · rw [(w1 2).i (by omega)]; exact g6
    · rw [(w1 2).i (by omega)]; exact h6
  rw [if_neg e0]
  simp (disch := omega) only [forall_eq, true_and, and_true, false_and, and_false, forall_const, true_implies, implies_true, not_true_eq_false, not_false_eq_true, false_implies, if_true, if_false, ↓reduceIte, Int.toNat_natCast, Int.reduceEq, Int.reduceNe, Int.reduceLT, Int.reduceLE, Int.reduceToNat, Int.reduceAdd, Int.reduceSub, Int.reduceMul, Int.reduceNeg, Nat.reduceAdd, Nat.reduceMul, Nat.reduceSub, iI_lit, jI_lit, iI_add, iI_sub, iI_mul, iI_neg, jI_add, jI_sub, jI_mul, jI_neg, nI_i, lN_j, iI_le, iI_lt, iI_eq, jI_le, jI_lt, jI_eq, iI_in, iI_cl, iI_j, jI_i, cN, inN, wI_eq, wI_ne, wJ_1, wJ_eq, wJ_ne, wI_2, wJ_3, iI_div, iI_rem, jI_div, jI_rem, true_or, or_true, false_or, or_false, eq_self, Nat.add_zero, g3, h3]
  refine ⟨fun be => ?_, fun be => ?_⟩
  rotate_left
  · refine c_error (e := 5) hly (by decide) (by omega) (model _ _ ?_ ?_ ?_ ?_ (fun h => by omega) (fun _ _ _ => ⟨rfl, hI.er frw.rf frw.rf⟩) (fun _ _ h => absurd h be) (fun _ _ h => absurd h be))
    · rw [(w1 5).i (by omega)]; exact g4
    · rw [(w1 5).i (by omega)]; exact h4
    · rw [(w1 5).i (by omega)]; exact g6
    · rw [(w1 5).i (by omega)]; exact h6
  have cbad : ¬ (0 ≤ x ∧ 0 ≤ p ∧ 0 ≤ q ∧ p + x ≤ n ∧ q + x ≤ k) → sm_callI E L mX11_error 1 0 0 [.ref (sm_B E + 0), .int (iI 1)] m (fun r_18 m_17 => sm_callI E L mX12_shift d2 0 0 [.ref (sm_B E + 109), .int (iI (s : Nat)), .int (iI p), .int (iI (r : Nat)), .int (iI q), .int (iI x)] m_17 (fun r2 m2 => r_18 = r2 ∧ Inv c m2)) := fun hb => by
    refine c_error (e := 1) hly (by decide) (by omega) (model _ _ ?_ ?_ ?_ ?_ (fun h => by omega) (fun _ _ h => absurd be h) (fun _ _ _ _ => ⟨rfl, hI.er frw.rf frw.rf⟩) (fun _ _ _ h => absurd h hb))
    · rw [(w1 1).i (by omega)]; exact g4
    · rw [(w1 1).i (by omega)]; exact h4
    · rw [(w1 1).i (by omega)]; exact g6
    · rw [(w1 1).i (by omega)]; exact h6
  refine c_hasRun hT (by omega) g5 g2 p1 p2 y1 y2 ?_
  by_cases ha : 0 ≤ x ∧ 0 ≤ p ∧ p + x ≤ n
  rotate_left
  · rw [if_neg ha]
    simp (disch := omega) only [forall_eq, true_and, and_true, false_and, and_false, forall_const, true_implies, implies_true, not_true_eq_false, not_false_eq_true, false_implies, if_true, if_false, ↓reduceIte, Int.toNat_natCast, Int.reduceEq, Int.reduceNe, Int.reduceLT, Int.reduceLE, Int.reduceToNat, Int.reduceAdd, Int.reduceSub, Int.reduceMul, Int.reduceNeg, Nat.reduceAdd, Nat.reduceMul, Nat.reduceSub, iI_lit, jI_lit, iI_add, iI_sub, iI_mul, iI_neg, jI_add, jI_sub, jI_mul, jI_neg, nI_i, lN_j, iI_le, iI_lt, iI_eq, jI_le, jI_lt, jI_eq, iI_in, iI_cl, iI_j, jI_i, cN, inN, wI_eq, wI_ne, wJ_1, wJ_eq, wJ_ne, wI_2, wJ_3, iI_div, iI_rem, jI_div, jI_rem, true_or, or_true, false_or, or_false, eq_self, Nat.add_zero]
    exact cbad (by omega)
  rw [if_pos ha]
  simp (disch := omega) only [forall_eq, true_and, and_true, false_and, and_false, forall_const, true_implies, implies_true, not_true_eq_false, not_false_eq_true, false_implies, if_true, if_false, ↓reduceIte, Int.toNat_natCast, Int.reduceEq, Int.reduceNe, Int.reduceLT, Int.reduceLE, Int.reduceToNat, Int.reduceAdd, Int.reduceSub, Int.reduceMul, Int.reduceNeg, Nat.reduceAdd, Nat.reduceMul, Nat.reduceSub, iI_lit, jI_lit, iI_add, iI_sub, iI_mul, iI_neg, jI_add, jI_sub, jI_mul, jI_neg, nI_i, lN_j, iI_le, iI_lt, iI_eq, jI_le, jI_lt, jI_eq, iI_in, iI_cl, iI_j, jI_i, cN, inN, wI_eq, wI_ne, wJ_1, wJ_eq, wJ_ne, wI_2, wJ_3, iI_div, iI_rem, jI_div, jI_rem, true_or, or_true, false_or, or_false, eq_self, Nat.add_zero]
  refine c_hasRun hT' (by omega) h5 h2 q1 q2 y1 y2 ?_
  by_cases hb : 0 ≤ x ∧ 0 ≤ q ∧ q + x ≤ k
  rotate_left
  · rw [if_neg hb]
    simp (disch := omega) only [forall_eq, true_and, and_true, false_and, and_false, forall_const, true_implies, implies_true, not_true_eq_false, not_false_eq_true, false_implies, if_true, if_false, ↓reduceIte, Int.toNat_natCast, Int.reduceEq, Int.reduceNe, Int.reduceLT, Int.reduceLE, Int.reduceToNat, Int.reduceAdd, Int.reduceSub, Int.reduceMul, Int.reduceNeg, Nat.reduceAdd, Nat.reduceMul, Nat.reduceSub, iI_lit, jI_lit, iI_add, iI_sub, iI_mul, iI_neg, jI_add, jI_sub, jI_mul, jI_neg, nI_i, lN_j, iI_le, iI_lt, iI_eq, jI_le, jI_lt, jI_eq, iI_in, iI_cl, iI_j, jI_i, cN, inN, wI_eq, wI_ne, wJ_1, wJ_eq, wJ_ne, wI_2, wJ_3, iI_div, iI_rem, jI_div, jI_rem, true_or, or_true, false_or, or_false, eq_self, Nat.add_zero]
    exact cbad (by omega)
  rw [if_pos hb]
  simp (disch := omega) only [forall_eq, true_and, and_true, false_and, and_false, forall_const, true_implies, implies_true, not_true_eq_false, not_false_eq_true, false_implies, if_true, if_false, ↓reduceIte, Int.toNat_natCast, Int.reduceEq, Int.reduceNe, Int.reduceLT, Int.reduceLE, Int.reduceToNat, Int.reduceAdd, Int.reduceSub, Int.reduceMul, Int.reduceNeg, Nat.reduceAdd, Nat.reduceMul, Nat.reduceSub, iI_lit, jI_lit, iI_add, iI_sub, iI_mul, iI_neg, jI_add, jI_sub, jI_mul, jI_neg, nI_i, lN_j, iI_le, iI_lt, iI_eq, jI_le, jI_lt, jI_eq, iI_in, iI_cl, iI_j, jI_i, cN, inN, wI_eq, wI_ne, wJ_1, wJ_eq, wJ_ne, wI_2, wJ_3, iI_div, iI_rem, jI_div, jI_rem, true_or, or_true, false_or, or_false, eq_self, Nat.add_zero]
  obtain ⟨X, rfl⟩ : ∃ X : Nat, x = (X : Int) := ⟨x.toNat, by omega⟩
  obtain ⟨Pp, rfl⟩ : ∃ X : Nat, p = (X : Int) := ⟨p.toNat, by omega⟩
  obtain ⟨Qq, rfl⟩ : ∃ X : Nat, q = (X : Int) := ⟨q.toNat, by omega⟩
  refine c_bring hT' hT (by omega) g5 h5 h2 g2 (by omega) (by omega) (fun m1 f1 v1 => model _ _ ?_ ?_ ?_ ?_ (fun h => by omega) (fun _ _ h => absurd be h) (fun _ _ _ h => absurd (by omega) h) (fun _ _ _ _ m2 f2 v2 => ⟨rfl, ?_⟩))
  · rw [f1.i (by unfold rowP; omega)]; exact g4
  · rw [f1.i (by unfold rowP; omega)]; exact h4
  · rw [f1.i (by unfold rowP; omega)]; exact g6
  · rw [f1.i (by unfold rowP; omega)]; exact h6
  · refine hI.sheet hr ((f1.w.mono (fun a k h => ?_)).tr (f2.w.mono (fun a k h => ?_))) ⟨e, k, h1, h2, ?_, ?_, ?_, ?_, fun j hj => ?_⟩
    · unfold rowP at h; unfold shP; omega
    · unfold shP scM; omega
    · rw [f2.i (by omega), f1.i (by unfold rowP; omega)]; exact h3
    · rw [f2.i (by omega), f1.i (by unfold rowP; omega)]; exact h4
    · rw [f2.i (by omega), f1.i (by unfold rowP; omega)]; exact h5
    · rw [f2.i (by omega), f1.i (by unfold rowP; omega)]; exact h6
    · rw [v2 j hj, f2.j (by omega), show 102 + 2 * r = 101 + 2 * r + 1 by omega, v1 j hj, Int.toNat_natCast, Int.toNat_natCast, Int.toNat_natCast, f1.j (by unfold rowP; omega), f1.j (by unfold rowP; omega), show 101 + 2 * s + 1 = 102 + 2 * s by omega, show 101 + 2 * r + 1 = 102 + 2 * r by omega]
      by_cases hq : Qq ≤ j ∧ j < Qq + X
      · rw [if_pos hq, if_pos hq, g7 _ (by omega), show 48 * s + (Pp + (j - Qq)) = 48 * s + Pp + (j - Qq) by omega]
      · rw [if_neg hq, if_neg hq]
        exact h7 j hj
end SHE
