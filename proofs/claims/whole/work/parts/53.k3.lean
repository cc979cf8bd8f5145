/-! feed, loose -/
theorem and255 (y : Int32) : ∃ b : Int, 0 ≤ b ∧ b ≤ 255 ∧ y &&& 255 = iI b := by
  have h1 : (y &&& 255).toBitVec = y.toBitVec &&& 255#32 := rfl
  have h2 : (y.toBitVec &&& 255#32).toNat ≤ 255 := by
    rw [BitVec.toNat_and]
    exact Nat.and_le_right
  refine ⟨((y.toBitVec &&& 255#32).toNat : Int), by omega, by omega, ?_⟩
  apply Int32.toBitVec_inj.mp
  rw [h1]
  apply BitVec.eq_of_toNat_eq
  show _ = (BitVec.ofInt 32 _).toNat
  rw [BitVec.ofInt_natCast, BitVec.toNat_ofNat, Nat.mod_eq_of_lt (by omega)]
theorem feed_s (x : Int64) (A : Int32) (s : BitVec 64) (hs : s.toNat ≤ 56) (h1 : (A.toInt64.toUInt64 &&& Int64.toUInt64 63).toBitVec % 64#64 = s) (h2 : (A.toInt64 &&& 63).toBitVec.smod 64#64 = s) : (sm_ushrL x A).toInt32 &&& 255 = ((x >>> (A.toInt64 &&& 63)) &&& 255).toInt32 := by
  have key : ((x.toBitVec >>> s).setWidth 32 &&& 255#32) = ((x.toBitVec.sshiftRight' s) &&& 255#64).setWidth 32 := by
    apply BitVec.eq_of_getLsbD_eq
    intro i hi
    have e255 : ∀ j, (255#32).getLsbD j = decide (j < 8) := fun j => by
      rw [BitVec.getLsbD_ofNat, show (255 : Nat) = 2 ^ 8 - 1 by decide, Nat.testBit_two_pow_sub_one]
      by_cases hj : j < 8
      · simp [hj, show j < 32 by omega]
      · simp [hj]
    have e255' : ∀ j, (255#64).getLsbD j = decide (j < 8) := fun j => by
      rw [BitVec.getLsbD_ofNat, show (255 : Nat) = 2 ^ 8 - 1 by decide, Nat.testBit_two_pow_sub_one]
      by_cases hj : j < 8
      · simp [hj, show j < 64 by omega]
      · simp [hj]
    rw [BitVec.getLsbD_and, BitVec.getLsbD_setWidth, BitVec.getLsbD_setWidth, BitVec.getLsbD_and, e255, e255']
    by_cases hj : i < 8
    · simp [hj, hi, BitVec.getElem_sshiftRight, show s.toNat + i < 64 by omega, show i < 64 by omega]
    · simp [hj]
  have e1 : (sm_ushrL x A).toInt32.toBitVec = (x.toBitVec >>> s).setWidth 32 := by
    rw [Int64.toBitVec_toInt32, BitVec.signExtend_eq_setWidth_of_le _ (by decide), ← h1]
    rfl
  have e2 : ((x >>> (A.toInt64 &&& 63)) &&& 255).toInt32.toBitVec = ((x.toBitVec.sshiftRight' s) &&& 255#64).setWidth 32 := by
    rw [Int64.toBitVec_toInt32, BitVec.signExtend_eq_setWidth_of_le _ (by decide), Int64.toBitVec_and, Int64.toBitVec_shiftRight, ← h2]
    rfl
  apply Int32.toBitVec_inj.mp
  rw [Int32.toBitVec_and, e1, e2]
  exact key
theorem feed_eq (x : Int64) (k : Nat) (hk : k < 8) : (sm_ushrL x (iI (8 * (k : Int)))).toInt32 &&& 255 = ((x >>> ((iI (8 * (k : Int))).toInt64 &&& 63)) &&& 255).toInt32 := by
  rcases (show k = 0 ∨ k = 1 ∨ k = 2 ∨ k = 3 ∨ k = 4 ∨ k = 5 ∨ k = 6 ∨ k = 7 by omega) with rfl | rfl | rfl | rfl | rfl | rfl | rfl | rfl
  · exact feed_s x _ 0#64 (by decide) (by decide +kernel) (by decide +kernel)
  · exact feed_s x _ 8#64 (by decide) (by decide +kernel) (by decide +kernel)
  · exact feed_s x _ 16#64 (by decide) (by decide +kernel) (by decide +kernel)
  · exact feed_s x _ 24#64 (by decide) (by decide +kernel) (by decide +kernel)
  · exact feed_s x _ 32#64 (by decide) (by decide +kernel) (by decide +kernel)
  · exact feed_s x _ 40#64 (by decide) (by decide +kernel) (by decide +kernel)
  · exact feed_s x _ 48#64 (by decide) (by decide +kernel) (by decide +kernel)
  · exact feed_s x _ 56#64 (by decide) (by decide +kernel) (by decide +kernel)
section K3
variable {E : sm_E} {L : sm_S → Prop} {d1 d2 : Nat} {m : sm_M} {c : Nat}
/-- byte k of a word -/
def byt (x : Int64) (k : Nat) : Int32 := (sm_ushrL x (iI (8 * (k : Int)))).toInt32 &&& 255
def apb (b : Nat → Int32) (n : Nat) (x : Int64) : Nat → Int32 := fun k => if k < n then b k else byt x (k - n)
theorem c11_feed_loop {Q : Int32 → sm_M → Prop} {vs : List Value} {x : Int64} {n N : Nat} (hly : ∀ S, L S → ly S) (hd : 2 ≤ d1) (hN : n + N ≤ 100) (hN8 : N ≤ 8) (m0 : sm_M) (h : ∀ m', fr (fun a k => a = 11 ∨ (a = 10 ∧ k = 4)) m0 m' → m'.1 10 4 = iI ((n + N : Nat) : Int) → (∀ k, k < n → m'.1 11 k = m0.1 11 k) → (∀ k, k < N → m'.1 11 (n + k) = byt x k) → Q (iI ((n + N : Nat) : Int)) m') :
    ∀ (r j : Nat) (m : sm_M), j + r = N → fr (fun a k => a = 11 ∨ (a = 10 ∧ k = 4)) m0 m → m.1 10 4 = iI ((n + j : Nat) : Int) → (∀ k, k < n → m.1 11 k = m0.1 11 k) → (∀ k, k < j → m.1 11 (n + k) = byt x k) → gX11_feed_37 E L d1 vs x (iI (N : Nat)) (iI (j : Nat)) m Q := by
  intro r
  induction r with
  | zero =>
    intro j m hj hf h1 h2 h3
    have : j = N := by omega
    subst this
    refine vX11_feed_37 hly hd ?_
    rw [h1]
    simp (disch := omega) only [forall_eq, true_and, and_true, false_and, and_false, forall_const, true_implies, implies_true, not_true_eq_false, not_false_eq_true, false_implies, if_true, if_false, ↓reduceIte, Int.toNat_natCast, Int.reduceEq, Int.reduceNe, Int.reduceLT, Int.reduceLE, Int.reduceToNat, Int.reduceAdd, Int.reduceSub, Int.reduceMul, Int.reduceNeg, Nat.reduceAdd, Nat.reduceMul, Nat.reduceSub, iI_lit, jI_lit, iI_add, iI_sub, iI_mul, iI_neg, jI_add, jI_sub, jI_mul, jI_neg, nI_i, lN_j, iI_le, iI_lt, iI_eq, jI_le, jI_lt, jI_eq, iI_in, iI_cl, iI_j, jI_i, cN, inN, wI_eq, wI_ne, wJ_1, wJ_eq, wJ_ne, wI_2, wJ_3, iI_div, iI_rem, jI_div, jI_rem, true_or, or_true, false_or, or_false, eq_self, Nat.add_zero]
    exact ⟨fun _ => h m hf h1 h2 h3, fun q => by omega⟩
  | succ r ih =>
    intro j m hj hf h1 h2 h3
    refine vX11_feed_37 hly hd ?_
    have e5 : ((j : Nat) : Int) + 1 = ((j + 1 : Nat) : Int) := by omega
    have e6 : ((n + j : Nat) : Int) + 1 = ((n + (j + 1) : Nat) : Int) := by omega
    have e7 : (sm_ushrL x ((8 : Int32) * iI (j : Nat))).toInt32 &&& 255 = byt x j := by
      rw [iI_lit, iI_mul]
      rfl
    rw [e7]
    simp (disch := omega) only [forall_eq, true_and, and_true, false_and, and_false, forall_const, true_implies, implies_true, not_true_eq_false, not_false_eq_true, false_implies, if_true, if_false, ↓reduceIte, Int.toNat_natCast, Int.reduceEq, Int.reduceNe, Int.reduceLT, Int.reduceLE, Int.reduceToNat, Int.reduceAdd, Int.reduceSub, Int.reduceMul, Int.reduceNeg, Nat.reduceAdd, Nat.reduceMul, Nat.reduceSub, iI_lit, jI_lit, iI_add, iI_sub, iI_mul, iI_neg, jI_add, jI_sub, jI_mul, jI_neg, nI_i, lN_j, iI_le, iI_lt, iI_eq, jI_le, jI_lt, jI_eq, iI_in, iI_cl, iI_j, jI_i, cN, inN, wI_eq, wI_ne, wJ_1, wJ_eq, wJ_ne, wI_2, wJ_3, iI_div, iI_rem, jI_div, jI_rem, true_or, or_true, false_or, or_false, eq_self, Nat.add_zero, e5]
    refine ⟨fun q => by omega, fun q => vX9_take_0 hly (by omega) ?_⟩
    simp (disch := omega) only [forall_eq, true_and, and_true, false_and, and_false, forall_const, true_implies, implies_true, not_true_eq_false, not_false_eq_true, false_implies, if_true, if_false, ↓reduceIte, Int.toNat_natCast, Int.reduceEq, Int.reduceNe, Int.reduceLT, Int.reduceLE, Int.reduceToNat, Int.reduceAdd, Int.reduceSub, Int.reduceMul, Int.reduceNeg, Nat.reduceAdd, Nat.reduceMul, Nat.reduceSub, iI_lit, jI_lit, iI_add, iI_sub, iI_mul, iI_neg, jI_add, jI_sub, jI_mul, jI_neg, nI_i, lN_j, iI_le, iI_lt, iI_eq, jI_le, jI_lt, jI_eq, iI_in, iI_cl, iI_j, jI_i, cN, inN, wI_eq, wI_ne, wJ_1, wJ_eq, wJ_ne, wI_2, wJ_3, iI_div, iI_rem, jI_div, jI_rem, true_or, or_true, false_or, or_false, eq_self, Nat.add_zero, h1, e6]
    refine ⟨fun q => by omega, fun q => ⟨by omega, ih (j + 1) _ (by omega) ((hf.wI (Or.inl rfl)).wI (Or.inr ⟨rfl, rfl⟩)) ?_ (fun k hk => ?_) (fun k hk => ?_)⟩⟩
    · simp (disch := omega) only [forall_eq, true_and, and_true, false_and, and_false, forall_const, true_implies, implies_true, not_true_eq_false, not_false_eq_true, false_implies, if_true, if_false, ↓reduceIte, Int.toNat_natCast, Int.reduceEq, Int.reduceNe, Int.reduceLT, Int.reduceLE, Int.reduceToNat, Int.reduceAdd, Int.reduceSub, Int.reduceMul, Int.reduceNeg, Nat.reduceAdd, Nat.reduceMul, Nat.reduceSub, iI_lit, jI_lit, iI_add, iI_sub, iI_mul, iI_neg, jI_add, jI_sub, jI_mul, jI_neg, nI_i, lN_j, iI_le, iI_lt, iI_eq, jI_le, jI_lt, jI_eq, iI_in, iI_cl, iI_j, jI_i, cN, inN, wI_eq, wI_ne, wJ_1, wJ_eq, wJ_ne, wI_2, wJ_3, iI_div, iI_rem, jI_div, jI_rem, true_or, or_true, false_or, or_false, eq_self, Nat.add_zero]
    · simp (disch := omega) only [forall_eq, true_and, and_true, false_and, and_false, forall_const, true_implies, implies_true, not_true_eq_false, not_false_eq_true, false_implies, if_true, if_false, ↓reduceIte, Int.toNat_natCast, Int.reduceEq, Int.reduceNe, Int.reduceLT, Int.reduceLE, Int.reduceToNat, Int.reduceAdd, Int.reduceSub, Int.reduceMul, Int.reduceNeg, Nat.reduceAdd, Nat.reduceMul, Nat.reduceSub, iI_lit, jI_lit, iI_add, iI_sub, iI_mul, iI_neg, jI_add, jI_sub, jI_mul, jI_neg, nI_i, lN_j, iI_le, iI_lt, iI_eq, jI_le, jI_lt, jI_eq, iI_in, iI_cl, iI_j, jI_i, cN, inN, wI_eq, wI_ne, wJ_1, wJ_eq, wJ_ne, wI_2, wJ_3, iI_div, iI_rem, jI_div, jI_rem, true_or, or_true, false_or, or_false, eq_self, Nat.add_zero]
      exact h2 k hk
    · by_cases hkj : k = j
      · subst hkj
        simp (disch := omega) only [forall_eq, true_and, and_true, false_and, and_false, forall_const, true_implies, implies_true, not_true_eq_false, not_false_eq_true, false_implies, if_true, if_false, ↓reduceIte, Int.toNat_natCast, Int.reduceEq, Int.reduceNe, Int.reduceLT, Int.reduceLE, Int.reduceToNat, Int.reduceAdd, Int.reduceSub, Int.reduceMul, Int.reduceNeg, Nat.reduceAdd, Nat.reduceMul, Nat.reduceSub, iI_lit, jI_lit, iI_add, iI_sub, iI_mul, iI_neg, jI_add, jI_sub, jI_mul, jI_neg, nI_i, lN_j, iI_le, iI_lt, iI_eq, jI_le, jI_lt, jI_eq, iI_in, iI_cl, iI_j, jI_i, cN, inN, wI_eq, wI_ne, wJ_1, wJ_eq, wJ_ne, wI_2, wJ_3, iI_div, iI_rem, jI_div, jI_rem, true_or, or_true, false_or, or_false, eq_self, Nat.add_zero]
      · simp (disch := omega) only [forall_eq, true_and, and_true, false_and, and_false, forall_const, true_implies, implies_true, not_true_eq_false, not_false_eq_true, false_implies, if_true, if_false, ↓reduceIte, Int.toNat_natCast, Int.reduceEq, Int.reduceNe, Int.reduceLT, Int.reduceLE, Int.reduceToNat, Int.reduceAdd, Int.reduceSub, Int.reduceMul, Int.reduceNeg, Nat.reduceAdd, Nat.reduceMul, Nat.reduceSub, iI_lit, jI_lit, iI_add, iI_sub, iI_mul, iI_neg, jI_add, jI_sub, jI_mul, jI_neg, nI_i, lN_j, iI_le, iI_lt, iI_eq, jI_le, jI_lt, jI_eq, iI_in, iI_cl, iI_j, jI_i, cN, inN, wI_eq, wI_ne, wJ_1, wJ_eq, wJ_ne, wI_2, wJ_3, iI_div, iI_rem, jI_div, jI_rem, true_or, or_true, false_or, or_false, eq_self, Nat.add_zero]
        exact h3 k (by omega)
theorem c12_feed_loop {Q : Int32 → sm_M → Prop} {vs : List Value} {x : Int64} {n N : Nat} (hly : ∀ S, L S → ly S) (hd : 2 ≤ d2) (hN : n + N ≤ 100) (hN8 : N ≤ 8) (m0 : sm_M) (h : ∀ m', fr (fun a k => a = 116 ∨ (a = 109 ∧ k = 11)) m0 m' → m'.1 109 11 = iI ((n + N : Nat) : Int) → (∀ k, k < n → m'.1 116 k = m0.1 116 k) → (∀ k, k < N → m'.1 116 (n + k) = byt x k) → Q (iI ((n + N : Nat) : Int)) m') :
    ∀ (r j : Nat) (m : sm_M), j + r = N → fr (fun a k => a = 116 ∨ (a = 109 ∧ k = 11)) m0 m → m.1 109 11 = iI ((n + j : Nat) : Int) → (∀ k, k < n → m.1 116 k = m0.1 116 k) → (∀ k, k < j → m.1 116 (n + k) = byt x k) → gX12_feed_38 E L d2 vs x (iI (N : Nat)) (iI (j : Nat)) m Q := by
  intro r
  induction r with
  | zero =>
    intro j m hj hf h1 h2 h3
    have : j = N := by omega
    subst this
    refine vX12_feed_38 hly hd ?_
    rw [h1]
    simp (disch := omega) only [forall_eq, true_and, and_true, false_and, and_false, forall_const, true_implies, implies_true, not_true_eq_false, not_false_eq_true, false_implies, if_true, if_false, ↓reduceIte, Int.toNat_natCast, Int.reduceEq, Int.reduceNe, Int.reduceLT, Int.reduceLE, Int.reduceToNat, Int.reduceAdd, Int.reduceSub, Int.reduceMul, Int.reduceNeg, Nat.reduceAdd, Nat.reduceMul, Nat.reduceSub, iI_lit, jI_lit, iI_add, iI_sub, iI_mul, iI_neg, jI_add, jI_sub, jI_mul, jI_neg, nI_i, lN_j, iI_le, iI_lt, iI_eq, jI_le, jI_lt, jI_eq, iI_in, iI_cl, iI_j, jI_i, cN, inN, wI_eq, wI_ne, wJ_1, wJ_eq, wJ_ne, wI_2, wJ_3, iI_div, iI_rem, jI_div, jI_rem, true_or, or_true, false_or, or_false, eq_self, Nat.add_zero]
    exact ⟨fun _ => h m hf h1 h2 h3, fun q => by omega⟩
  | succ r ih =>
    intro j m hj hf h1 h2 h3
    refine vX12_feed_38 hly hd ?_
    have e5 : ((j : Nat) : Int) + 1 = ((j + 1 : Nat) : Int) := by omega
    have e6 : ((n + j : Nat) : Int) + 1 = ((n + (j + 1) : Nat) : Int) := by omega
    have e7 : ((x >>> (((8 : Int32) * iI (j : Nat)).toInt64 &&& 63)) &&& 255).toInt32 = byt x j := by
      rw [iI_lit, iI_mul]
      exact (feed_eq x j (by omega)).symm
    rw [e7]
    simp (disch := omega) only [forall_eq, true_and, and_true, false_and, and_false, forall_const, true_implies, implies_true, not_true_eq_false, not_false_eq_true, false_implies, if_true, if_false, ↓reduceIte, Int.toNat_natCast, Int.reduceEq, Int.reduceNe, Int.reduceLT, Int.reduceLE, Int.reduceToNat, Int.reduceAdd, Int.reduceSub, Int.reduceMul, Int.reduceNeg, Nat.reduceAdd, Nat.reduceMul, Nat.reduceSub, iI_lit, jI_lit, iI_add, iI_sub, iI_mul, iI_neg, jI_add, jI_sub, jI_mul, jI_neg, nI_i, lN_j, iI_le, iI_lt, iI_eq, jI_le, jI_lt, jI_eq, iI_in, iI_cl, iI_j, jI_i, cN, inN, wI_eq, wI_ne, wJ_1, wJ_eq, wJ_ne, wI_2, wJ_3, iI_div, iI_rem, jI_div, jI_rem, true_or, or_true, false_or, or_false, eq_self, Nat.add_zero, h1, e5, e6]
    refine ⟨fun q => by omega, fun q => ⟨by omega, ih (j + 1) _ (by omega) ((hf.wI (Or.inl rfl)).wI (Or.inr ⟨rfl, rfl⟩)) ?_ (fun k hk => ?_) (fun k hk => ?_)⟩⟩
    · simp (disch := omega) only [forall_eq, true_and, and_true, false_and, and_false, forall_const, true_implies, implies_true, not_true_eq_false, not_false_eq_true, false_implies, if_true, if_false, ↓reduceIte, Int.toNat_natCast, Int.reduceEq, Int.reduceNe, Int.reduceLT, Int.reduceLE, Int.reduceToNat, Int.reduceAdd, Int.reduceSub, Int.reduceMul, Int.reduceNeg, Nat.reduceAdd, Nat.reduceMul, Nat.reduceSub, iI_lit, jI_lit, iI_add, iI_sub, iI_mul, iI_neg, jI_add, jI_sub, jI_mul, jI_neg, nI_i, lN_j, iI_le, iI_lt, iI_eq, jI_le, jI_lt, jI_eq, iI_in, iI_cl, iI_j, jI_i, cN, inN, wI_eq, wI_ne, wJ_1, wJ_eq, wJ_ne, wI_2, wJ_3, iI_div, iI_rem, jI_div, jI_rem, true_or, or_true, false_or, or_false, eq_self, Nat.add_zero]
    · simp (disch := omega) only [forall_eq, true_and, and_true, false_and, and_false, forall_const, true_implies, implies_true, not_true_eq_false, not_false_eq_true, false_implies, if_true, if_false, ↓reduceIte, Int.toNat_natCast, Int.reduceEq, Int.reduceNe, Int.reduceLT, Int.reduceLE, Int.reduceToNat, Int.reduceAdd, Int.reduceSub, Int.reduceMul, Int.reduceNeg, Nat.reduceAdd, Nat.reduceMul, Nat.reduceSub, iI_lit, jI_lit, iI_add, iI_sub, iI_mul, iI_neg, jI_add, jI_sub, jI_mul, jI_neg, nI_i, lN_j, iI_le, iI_lt, iI_eq, jI_le, jI_lt, jI_eq, iI_in, iI_cl, iI_j, jI_i, cN, inN, wI_eq, wI_ne, wJ_1, wJ_eq, wJ_ne, wI_2, wJ_3, iI_div, iI_rem, jI_div, jI_rem, true_or, or_true, false_or, or_false, eq_self, Nat.add_zero]
      exact h2 k hk
    · by_cases hkj : k = j
      · subst hkj
        simp (disch := omega) only [forall_eq, true_and, and_true, false_and, and_false, forall_const, true_implies, implies_true, not_true_eq_false, not_false_eq_true, false_implies, if_true, if_false, ↓reduceIte, Int.toNat_natCast, Int.reduceEq, Int.reduceNe, Int.reduceLT, Int.reduceLE, Int.reduceToNat, Int.reduceAdd, Int.reduceSub, Int.reduceMul, Int.reduceNeg, Nat.reduceAdd, Nat.reduceMul, Nat.reduceSub, iI_lit, jI_lit, iI_add, iI_sub, iI_mul, iI_neg, jI_add, jI_sub, jI_mul, jI_neg, nI_i, lN_j, iI_le, iI_lt, iI_eq, jI_le, jI_lt, jI_eq, iI_in, iI_cl, iI_j, jI_i, cN, inN, wI_eq, wI_ne, wJ_1, wJ_eq, wJ_ne, wI_2, wJ_3, iI_div, iI_rem, jI_div, jI_rem, true_or, or_true, false_or, or_false, eq_self, Nat.add_zero]
      · simp (disch := omega) only [forall_eq, true_and, and_true, false_and, and_false, forall_const, true_implies, implies_true, not_true_eq_false, not_false_eq_true, false_implies, if_true, if_false, ↓reduceIte, Int.toNat_natCast, Int.reduceEq, Int.reduceNe, Int.reduceLT, Int.reduceLE, Int.reduceToNat, Int.reduceAdd, Int.reduceSub, Int.reduceMul, Int.reduceNeg, Nat.reduceAdd, Nat.reduceMul, Nat.reduceSub, iI_lit, jI_lit, iI_add, iI_sub, iI_mul, iI_neg, jI_add, jI_sub, jI_mul, jI_neg, nI_i, lN_j, iI_le, iI_lt, iI_eq, jI_le, jI_lt, jI_eq, iI_in, iI_cl, iI_j, jI_i, cN, inN, wI_eq, wI_ne, wJ_1, wJ_eq, wJ_ne, wI_2, wJ_3, iI_div, iI_rem, jI_div, jI_rem, true_or, or_true, false_or, or_false, eq_self, Nat.add_zero]
        exact h3 k (by omega)
theorem k_feed {x1 : Int64} {x2 : Int32} (hly : ∀ S, L S → ly S) (hd1 : 2 ≤ d1) (hd2 : 2 ≤ d2) (hI : Inv c m) : sm_callI E L mX11_feed d1 0 0 [.ref (sm_B E + 0), .long x1, .int x2] m (fun r m1 => sm_callI E L mX12_feed d2 0 0 [.ref (sm_B E + 109), .long x1, .int x2] m1 (fun r2 m2 => r = r2 ∧ Inv c m2)) := by
  obtain ⟨w, w1, w2, rfl⟩ := iI_ex x2
  by_cases hw : 1 ≤ w ∧ w ≤ 8
  rotate_left
  · refine vX11_feed_0 hly hd1 ?_
    have bad : sm_callI E L mX12_feed d2 0 0 [.ref (sm_B E + 109), .long x1, .int (iI w)] (sm_wI m 76 1 (m.1 76 1 + 1)) (fun r2 m2 => iI (-1000000000 - (1 : Nat)) = r2 ∧ Inv c m2) := by
      refine vX12_feed_0 hly hd2 ?_
      simp (disch := omega) only [forall_eq, true_and, and_true, false_and, and_false, forall_const, true_implies, implies_true, not_true_eq_false, not_false_eq_true, false_implies, if_true, if_false, ↓reduceIte, Int.toNat_natCast, Int.reduceEq, Int.reduceNe, Int.reduceLT, Int.reduceLE, Int.reduceToNat, Int.reduceAdd, Int.reduceSub, Int.reduceMul, Int.reduceNeg, Nat.reduceAdd, Nat.reduceMul, Nat.reduceSub, iI_lit, jI_lit, iI_add, iI_sub, iI_mul, iI_neg, jI_add, jI_sub, jI_mul, jI_neg, nI_i, lN_j, iI_le, iI_lt, iI_eq, jI_le, jI_lt, jI_eq, iI_in, iI_cl, iI_j, jI_i, cN, inN, wI_eq, wI_ne, wJ_1, wJ_eq, wJ_ne, wI_2, wJ_3, iI_div, iI_rem, jI_div, jI_rem, true_or, or_true, false_or, or_false, eq_self, Nat.add_zero]
      refine c12_isIn (by omega) (by omega) (by omega) (by omega) (by omega) (by omega) (by omega) ?_
      simp (disch := omega) only [forall_eq, true_and, and_true, false_and, and_false, forall_const, true_implies, implies_true, not_true_eq_false, not_false_eq_true, false_implies, if_true, if_false, ↓reduceIte, Int.toNat_natCast, Int.reduceEq, Int.reduceNe, Int.reduceLT, Int.reduceLE, Int.reduceToNat, Int.reduceAdd, Int.reduceSub, Int.reduceMul, Int.reduceNeg, Nat.reduceAdd, Nat.reduceMul, Nat.reduceSub, iI_lit, jI_lit, iI_add, iI_sub, iI_mul, iI_neg, jI_add, jI_sub, jI_mul, jI_neg, nI_i, lN_j, iI_le, iI_lt, iI_eq, jI_le, jI_lt, jI_eq, iI_in, iI_cl, iI_j, jI_i, cN, inN, wI_eq, wI_ne, wJ_1, wJ_eq, wJ_ne, wI_2, wJ_3, iI_div, iI_rem, jI_div, jI_rem, true_or, or_true, false_or, or_false, eq_self, Nat.add_zero, hw]
      exact c12_finds (e := 1) hly (by decide) (by omega) ⟨rfl, hI.er frw.rf frw.rf⟩
    simp (disch := omega) only [forall_eq, true_and, and_true, false_and, and_false, forall_const, true_implies, implies_true, not_true_eq_false, not_false_eq_true, false_implies, if_true, if_false, ↓reduceIte, Int.toNat_natCast, Int.reduceEq, Int.reduceNe, Int.reduceLT, Int.reduceLE, Int.reduceToNat, Int.reduceAdd, Int.reduceSub, Int.reduceMul, Int.reduceNeg, Nat.reduceAdd, Nat.reduceMul, Nat.reduceSub, iI_lit, jI_lit, iI_add, iI_sub, iI_mul, iI_neg, jI_add, jI_sub, jI_mul, jI_neg, nI_i, lN_j, iI_le, iI_lt, iI_eq, jI_le, jI_lt, jI_eq, iI_in, iI_cl, iI_j, jI_i, cN, inN, wI_eq, wI_ne, wJ_1, wJ_eq, wJ_ne, wI_2, wJ_3, iI_div, iI_rem, jI_div, jI_rem, true_or, or_true, false_or, or_false, eq_self, Nat.add_zero]
    exact ⟨fun q => c_error (e := 1) hly (by decide) (by omega) bad, fun q => ⟨fun q2 => by omega, fun q2 => c_error (e := 1) hly (by decide) (by omega) bad⟩⟩
  obtain ⟨N, rfl⟩ : ∃ N : Nat, w = (N : Int) := ⟨w.toNat, by omega⟩
  obtain ⟨n, b, t1, t2, t3, t4⟩ := hI.2.1.2.2.2.1
  have hw' := hw
  refine vX11_feed_0 hly hd1 ?_
  simp (disch := omega) only [forall_eq, true_and, and_true, false_and, and_false, forall_const, true_implies, implies_true, not_true_eq_false, not_false_eq_true, false_implies, if_true, if_false, ↓reduceIte, Int.toNat_natCast, Int.reduceEq, Int.reduceNe, Int.reduceLT, Int.reduceLE, Int.reduceToNat, Int.reduceAdd, Int.reduceSub, Int.reduceMul, Int.reduceNeg, Nat.reduceAdd, Nat.reduceMul, Nat.reduceSub, iI_lit, jI_lit, iI_add, iI_sub, iI_mul, iI_neg, jI_add, jI_sub, jI_mul, jI_neg, nI_i, lN_j, iI_le, iI_lt, iI_eq, jI_le, jI_lt, jI_eq, iI_in, iI_cl, iI_j, jI_i, cN, inN, wI_eq, wI_ne, wJ_1, wJ_eq, wJ_ne, wI_2, wJ_3, iI_div, iI_rem, jI_div, jI_rem, true_or, or_true, false_or, or_false, eq_self, Nat.add_zero]
  refine ⟨fun q => by omega, fun _ => ⟨fun _ => vX9_hasRoom_0 hly (by omega) ?_, fun q => by omega⟩⟩
  rw [t2]
  simp (disch := omega) only [forall_eq, true_and, and_true, false_and, and_false, forall_const, true_implies, implies_true, not_true_eq_false, not_false_eq_true, false_implies, if_true, if_false, ↓reduceIte, Int.toNat_natCast, Int.reduceEq, Int.reduceNe, Int.reduceLT, Int.reduceLE, Int.reduceToNat, Int.reduceAdd, Int.reduceSub, Int.reduceMul, Int.reduceNeg, Nat.reduceAdd, Nat.reduceMul, Nat.reduceSub, iI_lit, jI_lit, iI_add, iI_sub, iI_mul, iI_neg, jI_add, jI_sub, jI_mul, jI_neg, nI_i, lN_j, iI_le, iI_lt, iI_eq, jI_le, jI_lt, jI_eq, iI_in, iI_cl, iI_j, jI_i, cN, inN, wI_eq, wI_ne, wJ_1, wJ_eq, wJ_ne, wI_2, wJ_3, iI_div, iI_rem, jI_div, jI_rem, true_or, or_true, false_or, or_false, eq_self, Nat.add_zero]
  refine ⟨fun q => c_error (e := 4) hly (by decide) (by omega) (vX12_feed_0 hly hd2 ?_), fun q => ?_⟩
  · simp (disch := omega) only [forall_eq, true_and, and_true, false_and, and_false, forall_const, true_implies, implies_true, not_true_eq_false, not_false_eq_true, false_implies, if_true, if_false, ↓reduceIte, Int.toNat_natCast, Int.reduceEq, Int.reduceNe, Int.reduceLT, Int.reduceLE, Int.reduceToNat, Int.reduceAdd, Int.reduceSub, Int.reduceMul, Int.reduceNeg, Nat.reduceAdd, Nat.reduceMul, Nat.reduceSub, iI_lit, jI_lit, iI_add, iI_sub, iI_mul, iI_neg, jI_add, jI_sub, jI_mul, jI_neg, nI_i, lN_j, iI_le, iI_lt, iI_eq, jI_le, jI_lt, jI_eq, iI_in, iI_cl, iI_j, jI_i, cN, inN, wI_eq, wI_ne, wJ_1, wJ_eq, wJ_ne, wI_2, wJ_3, iI_div, iI_rem, jI_div, jI_rem, true_or, or_true, false_or, or_false, eq_self, Nat.add_zero]
    refine c12_isIn (by omega) (by omega) (by omega) (by omega) (by omega) (by omega) (by omega) ?_
    simp (disch := omega) only [forall_eq, true_and, and_true, false_and, and_false, forall_const, true_implies, implies_true, not_true_eq_false, not_false_eq_true, false_implies, if_true, if_false, ↓reduceIte, Int.toNat_natCast, Int.reduceEq, Int.reduceNe, Int.reduceLT, Int.reduceLE, Int.reduceToNat, Int.reduceAdd, Int.reduceSub, Int.reduceMul, Int.reduceNeg, Nat.reduceAdd, Nat.reduceMul, Nat.reduceSub, iI_lit, jI_lit, iI_add, iI_sub, iI_mul, iI_neg, jI_add, jI_sub, jI_mul, jI_neg, nI_i, lN_j, iI_le, iI_lt, iI_eq, jI_le, jI_lt, jI_eq, iI_in, iI_cl, iI_j, jI_i, cN, inN, wI_eq, wI_ne, wJ_1, wJ_eq, wJ_ne, wI_2, wJ_3, iI_div, iI_rem, jI_div, jI_rem, true_or, or_true, false_or, or_false, eq_self, Nat.add_zero, hw', t3]
    refine ⟨fun q2 => by omega, fun _ => c12_finds (e := 4) hly (by decide) (by omega) ⟨rfl, hI.er frw.rf frw.rf⟩⟩
  · refine c11_feed_loop (n := n) hly hd1 (by omega) (by omega) m (fun m1 f1 u1 u2 u3 => ?_) N 0 m (by omega) fr.rf t2 (fun k hk => rfl) (fun k hk => absurd hk (Nat.not_lt_zero _))
    have t3' : m1.1 109 11 = iI (n : Nat) := (f1.i (by omega)).trans t3
    refine vX12_feed_0 hly hd2 ?_
    simp (disch := omega) only [forall_eq, true_and, and_true, false_and, and_false, forall_const, true_implies, implies_true, not_true_eq_false, not_false_eq_true, false_implies, if_true, if_false, ↓reduceIte, Int.toNat_natCast, Int.reduceEq, Int.reduceNe, Int.reduceLT, Int.reduceLE, Int.reduceToNat, Int.reduceAdd, Int.reduceSub, Int.reduceMul, Int.reduceNeg, Nat.reduceAdd, Nat.reduceMul, Nat.reduceSub, iI_lit, jI_lit, iI_add, iI_sub, iI_mul, iI_neg, jI_add, jI_sub, jI_mul, jI_neg, nI_i, lN_j, iI_le, iI_lt, iI_eq, jI_le, jI_lt, jI_eq, iI_in, iI_cl, iI_j, jI_i, cN, inN, wI_eq, wI_ne, wJ_1, wJ_eq, wJ_ne, wI_2, wJ_3, iI_div, iI_rem, jI_div, jI_rem, true_or, or_true, false_or, or_false, eq_self, Nat.add_zero]
    refine c12_isIn (by omega) (by omega) (by omega) (by omega) (by omega) (by omega) (by omega) ?_
    simp (disch := omega) only [forall_eq, true_and, and_true, false_and, and_false, forall_const, true_implies, implies_true, not_true_eq_false, not_false_eq_true, false_implies, if_true, if_false, ↓reduceIte, Int.toNat_natCast, Int.reduceEq, Int.reduceNe, Int.reduceLT, Int.reduceLE, Int.reduceToNat, Int.reduceAdd, Int.reduceSub, Int.reduceMul, Int.reduceNeg, Nat.reduceAdd, Nat.reduceMul, Nat.reduceSub, iI_lit, jI_lit, iI_add, iI_sub, iI_mul, iI_neg, jI_add, jI_sub, jI_mul, jI_neg, nI_i, lN_j, iI_le, iI_lt, iI_eq, jI_le, jI_lt, jI_eq, iI_in, iI_cl, iI_j, jI_i, cN, inN, wI_eq, wI_ne, wJ_1, wJ_eq, wJ_ne, wI_2, wJ_3, iI_div, iI_rem, jI_div, jI_rem, true_or, or_true, false_or, or_false, eq_self, Nat.add_zero, hw', t3']
    refine ⟨fun _ => ?_, fun q2 => by omega⟩
    refine c12_feed_loop (n := n) hly hd2 (by omega) (by omega) m1 (fun m2 f2 v1 v2 v3 => ⟨rfl, ?_⟩) N 0 m1 (by omega) fr.rf t3' (fun k hk => rfl) (fun k hk => absurd hk (Nat.not_lt_zero _))
    have f : frw (fun a k => a = 11 ∨ (a = 10 ∧ k = 4) ∨ a = 116 ∨ (a = 109 ∧ k = 11)) m m2 := (f1.w.mono (fun a k h => by omega)).tr (f2.w.mono (fun a k h => by omega))
    obtain ⟨h0, ⟨a1, a2, a3, a4, a5, a6, a7⟩, h9⟩ := hI
    have hex : ∀ k, ∃ z : Int, (k < n + N → 0 ≤ z ∧ z ≤ 255 ∧ m2.1 11 k = iI z ∧ m2.1 116 k = iI z) := by
      intro k
      by_cases hk : k < n
      · refine ⟨b k, fun _ => ⟨(t4 k hk).1, (t4 k hk).2.1, ?_, ?_⟩⟩
        · rw [f2.i (by omega), u2 k hk]
          exact (t4 k hk).2.2.1
        · rw [v2 k hk, f1.i (by omega)]
          exact (t4 k hk).2.2.2
      · by_cases hk2 : k < n + N
        · obtain ⟨z, z1, z2, z3⟩ := and255 (sm_ushrL x1 (iI (8 * ((k - n : Nat) : Int)))).toInt32
          refine ⟨z, fun _ => ⟨z1, z2, ?_, ?_⟩⟩
          · rw [f2.i (by omega)]
            have := u3 (k - n) (by omega)
            rw [show n + (k - n) = k by omega] at this
            rw [this]
            exact z3
          · have := v3 (k - n) (by omega)
            rw [show n + (k - n) = k by omega] at this
            rw [this]
            exact z3
        · exact ⟨0, fun q => absurd q hk2⟩
    refine ⟨h0, ⟨a1.frw f ?_ ?_, a2.frw f ?_ ?_ ?_, a3.frw f ?_, ⟨n + N, fun k => Classical.choose (hex k), by omega, ?_, v1, fun k hk => Classical.choose_spec (hex k) hk⟩, a5.frw f ?_, a6.frw f ?_, a7.frw f ?_⟩, fun k hk => ?_⟩
    · intro a k h1 h2; omega
    · intro k; omega
    · intro a k h1 h2; omega
    · intro k; omega
    · omega
    · omega
    · rw [f2.i (by omega)]
      exact u1
    · exact ⟨by omega, by omega, by omega, fun k => by omega⟩
    · exact fun s hs => ⟨by omega, by omega, by omega, by omega, fun k => by omega⟩
    · intro a k h1; omega
    · rw [f.i (by omega), f.i (by omega)]
      exact h9 k hk
/-! loose -/
theorem lx_ex (z : Int32) : ∃ x : Int, 0 ≤ x ∧ x ≤ 5 ∧ sm_rem (sm_ushr z 8) 6 = iI x := by
  have h0 : ∃ y : Int, 0 ≤ y ∧ y ≤ 16777215 ∧ sm_ushr z 8 = iI y := by
    refine ⟨((z.toBitVec >>> 8#32).toNat : Int), by omega, ?_, ?_⟩
    · have : (z.toBitVec >>> 8#32).toNat = z.toBitVec.toNat / 256 := by
        rw [show (z.toBitVec >>> 8#32) = z.toBitVec >>> 8 from rfl, BitVec.toNat_ushiftRight, Nat.shiftRight_eq_div_pow]
      have := z.toBitVec.isLt
      omega
    · apply Int32.toBitVec_inj.mp
      show z.toBitVec >>> 8#32 = BitVec.ofInt 32 _
      rw [BitVec.ofInt_natCast]
      exact (BitVec.ofNat_toNat _ _).symm ▸ (by simp)
  obtain ⟨y, y1, y2, e⟩ := h0
  refine ⟨y.tmod 6, ?_, ?_, ?_⟩
  · rw [Int.tmod_eq_emod_of_nonneg y1]
    omega
  · rw [Int.tmod_eq_emod_of_nonneg y1]
    omega
  · rw [e, iI_lit, iI_rem (by omega) (by omega) (by omega) (by omega)]
noncomputable def lx (z : Int32) : Int := Classical.choose (lx_ex z)
theorem lx_is (z : Int32) : 0 ≤ lx z ∧ lx z ≤ 5 ∧ sm_rem (sm_ushr z 8) 6 = iI (lx z) := Classical.choose_spec (lx_ex z)
noncomputable def lgo : Nat → Int32 → (Nat → Int) → Nat → Nat → Int32 × (Nat → Int) × Nat × Nat
  | 0, z, t, n, q => (z, t, n, q)
  | k + 1, z, t, n, q => if lvs (mvt t n (lx (z * 1103515245 + 12345))) (mvn n (lx (z * 1103515245 + 12345))) ≤ 24 ∧ crs (mvt t n (lx (z * 1103515245 + 12345))) (mvn n (lx (z * 1103515245 + 12345))) ≤ 24 ∧ mvn n (lx (z * 1103515245 + 12345)) ≤ 60 then lgo k (z * 1103515245 + 12345) (mvt t n (lx (z * 1103515245 + 12345))) (mvn n (lx (z * 1103515245 + 12345))) (q + 1) else lgo k (z * 1103515245 + 12345) t n q
def looP (a : Nat) : Nat → Nat → Prop := fun b k => tgP a b k ∨ (b = 0 ∧ k = 13) ∨ meP a b k
theorem c11_loose_loop {Q : Int32 → sm_M → Prop} {vs : List Value} {j N : Nat} (hly : ∀ S, L S → ly S) (hd : 5 ≤ d1) (hj : j < 6) (hN : N ≤ 20) (m0 : sm_M) (R : Int32 × (Nat → Int) × Nat × Nat) (h : ∀ m', fr (looP (77 + 4 * j)) m0 m' → m'.1 0 13 = R.1 → vT R.2.1 R.2.2.1 → tgm m' (77 + 4 * j) R.2.1 R.2.2.1 → Q (iI (R.2.2.2 : Nat)) m') :
    ∀ (r i q : Nat) (z : Int32) (t : Nat → Int) (n : Nat) (m : sm_M), i + r = N → q ≤ i → fr (looP (77 + 4 * j)) m0 m → m.1 0 13 = z → vT t n → tg m (77 + 4 * j) t n → lgo r z t n q = R → gX11_loose_37 E L d1 vs (iI (N : Nat)) (77 + 4 * j) (iI (q : Nat)) (iI (i : Nat)) m Q := by
  have hT := ly_slotT hly hj
  intro r
  induction r with
  | zero =>
    intro i q z t n m hi hq hf hz hv hg hR
    have : i = N := by omega
    subst this
    rw [lgo] at hR
    subst hR
    refine vX11_loose_37 hly hd hT ?_
    simp (disch := omega) only [forall_eq, true_and, and_true, false_and, and_false, forall_const, true_implies, implies_true, not_true_eq_false, not_false_eq_true, false_implies, if_true, if_false, ↓reduceIte, Int.toNat_natCast, Int.reduceEq, Int.reduceNe, Int.reduceLT, Int.reduceLE, Int.reduceToNat, Int.reduceAdd, Int.reduceSub, Int.reduceMul, Int.reduceNeg, Nat.reduceAdd, Nat.reduceMul, Nat.reduceSub, iI_lit, jI_lit, iI_add, iI_sub, iI_mul, iI_neg, jI_add, jI_sub, jI_mul, jI_neg, nI_i, lN_j, iI_le, iI_lt, iI_eq, jI_le, jI_lt, jI_eq, iI_in, iI_cl, iI_j, jI_i, cN, inN, wI_eq, wI_ne, wJ_1, wJ_eq, wJ_ne, wI_2, wJ_3, iI_div, iI_rem, jI_div, jI_rem, true_or, or_true, false_or, or_false, eq_self, Nat.add_zero]
    refine ⟨fun _ => c_measure hly (by omega) hT (by omega) hv.2.2.2.2 (by omega) hv.1 hv.2.1 ⟨hv.2.2.1, hv.2.2.2.1⟩ hg (fun m2 f2 g2 => h m2 (hf.tr (f2.mono (fun a k h => Or.inr (Or.inr h)))) ?_ hv g2), fun q => by omega⟩
    rw [f2.i (by unfold meP gaP; omega)]
    exact hz
  | succ r ih =>
    intro i q z t n m hi hq hf hz hv hg hR
    have e5 : ((i : Nat) : Int) + 1 = ((i + 1 : Nat) : Int) := by omega
    have e6 : ((q : Nat) : Int) + 1 = ((q + 1 : Nat) : Int) := by omega
    refine vX11_loose_37 hly hd hT ?_
    refine ⟨fun h0 => ?_, fun _ => ?_⟩
    · simp (disch := omega) only [forall_eq, true_and, and_true, false_and, and_false, forall_const, true_implies, implies_true, not_true_eq_false, not_false_eq_true, false_implies, if_true, if_false, ↓reduceIte, Int.toNat_natCast, Int.reduceEq, Int.reduceNe, Int.reduceLT, Int.reduceLE, Int.reduceToNat, Int.reduceAdd, Int.reduceSub, Int.reduceMul, Int.reduceNeg, Nat.reduceAdd, Nat.reduceMul, Nat.reduceSub, iI_lit, jI_lit, iI_add, iI_sub, iI_mul, iI_neg, jI_add, jI_sub, jI_mul, jI_neg, nI_i, lN_j, iI_le, iI_lt, iI_eq, jI_le, jI_lt, jI_eq, iI_in, iI_cl, iI_j, jI_i, cN, inN, wI_eq, wI_ne, wJ_1, wJ_eq, wJ_ne, wI_2, wJ_3, iI_div, iI_rem, jI_div, jI_rem, true_or, or_true, false_or, or_false, eq_self, Nat.add_zero] at h0
      omega
    · simp only [forall_eq]
      rw [wI_eq rfl rfl, hz]
      obtain ⟨l1, l2, l3⟩ := lx_is (z * 1103515245 + 12345)
      rw [l3]
      have f1 : fr (looP (77 + 4 * j)) m (sm_wI m 0 13 (z * 1103515245 + 12345)) := fr.rf.wI (Or.inr (Or.inl ⟨rfl, rfl⟩))
      have g1 : tg (sm_wI m 0 13 (z * 1103515245 + 12345)) (77 + 4 * j) t n := hg.fr (fr.rf.wI (P := fun a k => a = 0) rfl) (fun k _ _ => by omega) (fun k => by omega)
      rw [lgo] at hR
      refine c_advance hT (by omega) g1 hv.2.2 l1 l2 (fun hft m2 f2 g2 => ?_) (fun hft => ?_)
      · rw [if_pos (show lvs _ _ ≤ 24 ∧ crs _ _ ≤ 24 ∧ _ ≤ 60 from hft)] at hR
        simp (disch := omega) only [forall_eq, true_and, and_true, false_and, and_false, forall_const, true_implies, implies_true, not_true_eq_false, not_false_eq_true, false_implies, if_true, if_false, ↓reduceIte, Int.toNat_natCast, Int.reduceEq, Int.reduceNe, Int.reduceLT, Int.reduceLE, Int.reduceToNat, Int.reduceAdd, Int.reduceSub, Int.reduceMul, Int.reduceNeg, Nat.reduceAdd, Nat.reduceMul, Nat.reduceSub, iI_lit, jI_lit, iI_add, iI_sub, iI_mul, iI_neg, jI_add, jI_sub, jI_mul, jI_neg, nI_i, lN_j, iI_le, iI_lt, iI_eq, jI_le, jI_lt, jI_eq, iI_in, iI_cl, iI_j, jI_i, cN, inN, wI_eq, wI_ne, wJ_1, wJ_eq, wJ_ne, wI_2, wJ_3, iI_div, iI_rem, jI_div, jI_rem, true_or, or_true, false_or, or_false, eq_self, Nat.add_zero, e5, e6]
        refine ih (i + 1) (q + 1) _ _ _ m2 (by omega) (by omega) ((hf.tr f1).tr (f2.mono (fun a k h => Or.inl h))) ?_ (mv_v hv hft) g2 hR
        rw [f2.i (by unfold tgP; omega), wI_eq rfl rfl]
      · rw [if_neg (show ¬ (lvs _ _ ≤ 24 ∧ crs _ _ ≤ 24 ∧ _ ≤ 60) from hft)] at hR
        simp (disch := omega) only [forall_eq, true_and, and_true, false_and, and_false, forall_const, true_implies, implies_true, not_true_eq_false, not_false_eq_true, false_implies, if_true, if_false, ↓reduceIte, Int.toNat_natCast, Int.reduceEq, Int.reduceNe, Int.reduceLT, Int.reduceLE, Int.reduceToNat, Int.reduceAdd, Int.reduceSub, Int.reduceMul, Int.reduceNeg, Nat.reduceAdd, Nat.reduceMul, Nat.reduceSub, iI_lit, jI_lit, iI_add, iI_sub, iI_mul, iI_neg, jI_add, jI_sub, jI_mul, jI_neg, nI_i, lN_j, iI_le, iI_lt, iI_eq, jI_le, jI_lt, jI_eq, iI_in, iI_cl, iI_j, jI_i, cN, inN, wI_eq, wI_ne, wJ_1, wJ_eq, wJ_ne, wI_2, wJ_3, iI_div, iI_rem, jI_div, jI_rem, true_or, or_true, false_or, or_false, eq_self, Nat.add_zero, e5]
        exact ih (i + 1) q _ _ _ _ (by omega) (by omega) (hf.tr f1) (wI_eq rfl rfl) hv g1 hR
def looM (j : Nat) : Nat → Nat → Prop := fun b k => wkP b k ∨ (b = 109 ∧ k = 7) ∨ ctP j b k
theorem c12_loose_loop {Q : Int32 → sm_M → Prop} {vs : List Value} {j N : Nat} (hly : ∀ S, L S → ly S) (hd : 5 ≤ d2) (hj : j < 6) (hN : N ≤ 20) (m0 : sm_M) (R : Int32 × (Nat → Int) × Nat × Nat) (h : ∀ m', fr (looM j) m0 m' → m'.1 109 7 = R.1 → hl m' j R.2.1 R.2.2.1 → Q (iI (R.2.2.2 : Nat)) m') :
    ∀ (r i q : Nat) (z : Int32) (t : Nat → Int) (n : Nat) (m : sm_M), i + r = N → q ≤ i → fr (looM j) m0 m → m.1 109 7 = z → vT t n → hl m j t n → lgo r z t n q = R → gX12_loose_30 E L d2 vs (iI (j : Nat)) (iI (N : Nat)) (iI (q : Nat)) (iI (i : Nat)) m Q := by
  intro r
  induction r with
  | zero =>
    intro i q z t n m hi hq hf hz hv hg hR
    have : i = N := by omega
    subst this
    rw [lgo] at hR
    subst hR
    refine vX12_loose_30 hly hd ?_
    simp (disch := omega) only [forall_eq, true_and, and_true, false_and, and_false, forall_const, true_implies, implies_true, not_true_eq_false, not_false_eq_true, false_implies, if_true, if_false, ↓reduceIte, Int.toNat_natCast, Int.reduceEq, Int.reduceNe, Int.reduceLT, Int.reduceLE, Int.reduceToNat, Int.reduceAdd, Int.reduceSub, Int.reduceMul, Int.reduceNeg, Nat.reduceAdd, Nat.reduceMul, Nat.reduceSub, iI_lit, jI_lit, iI_add, iI_sub, iI_mul, iI_neg, jI_add, jI_sub, jI_mul, jI_neg, nI_i, lN_j, iI_le, iI_lt, iI_eq, jI_le, jI_lt, jI_eq, iI_in, iI_cl, iI_j, jI_i, cN, inN, wI_eq, wI_ne, wJ_1, wJ_eq, wJ_ne, wI_2, wJ_3, iI_div, iI_rem, jI_div, jI_rem, true_or, or_true, false_or, or_false, eq_self, Nat.add_zero]
    exact ⟨fun _ => h m hf hz hg, fun q => by omega⟩
  | succ r ih =>
    intro i q z t n m hi hq hf hz hv hg hR
    have e5 : ((i : Nat) : Int) + 1 = ((i + 1 : Nat) : Int) := by omega
    have e6 : ((q : Nat) : Int) + 1 = ((q + 1 : Nat) : Int) := by omega
    have hn6 := hv.2.2.2.2
    refine vX12_loose_30 hly hd ?_
    refine ⟨fun h0 => ?_, fun _ => ?_⟩
    · simp (disch := omega) only [forall_eq, true_and, and_true, false_and, and_false, forall_const, true_implies, implies_true, not_true_eq_false, not_false_eq_true, false_implies, if_true, if_false, ↓reduceIte, Int.toNat_natCast, Int.reduceEq, Int.reduceNe, Int.reduceLT, Int.reduceLE, Int.reduceToNat, Int.reduceAdd, Int.reduceSub, Int.reduceMul, Int.reduceNeg, Nat.reduceAdd, Nat.reduceMul, Nat.reduceSub, iI_lit, jI_lit, iI_add, iI_sub, iI_mul, iI_neg, jI_add, jI_sub, jI_mul, jI_neg, nI_i, lN_j, iI_le, iI_lt, iI_eq, jI_le, jI_lt, jI_eq, iI_in, iI_cl, iI_j, jI_i, cN, inN, wI_eq, wI_ne, wJ_1, wJ_eq, wJ_ne, wI_2, wJ_3, iI_div, iI_rem, jI_div, jI_rem, true_or, or_true, false_or, or_false, eq_self, Nat.add_zero] at h0
      omega
    · simp only [forall_eq]
      rw [hz]
      have f0 : fr (looM j) m (sm_wI (sm_wI m 109 7 (z * 1103515245 + 12345)) 109 6 0) := (fr.rf.wI (Or.inr (Or.inl ⟨rfl, rfl⟩))).wI (Or.inl (Or.inl ⟨rfl, rfl⟩))
      have hh0 : hl (sm_wI (sm_wI m 109 7 (z * 1103515245 + 12345)) 109 6 0) j t n := hg.fr ((fr.rf.wI (P := fun a k => a = 109) rfl).wI rfl) (by omega) (fun k => by omega)
      refine c12_putsSlot (t := fun _ => 0) (n := 0) (u := t) (k := n) hly hj hn6 (by omega) (by omega) ⟨by rw [wI_eq rfl rfl]; rfl, fun k hk => absurd hk (Nat.not_lt_zero _)⟩ hh0 (fun m2 f2 k2 => ?_)
      rw [tcat_zero, Nat.zero_add] at k2
      have hz2 : m2.1 109 7 = z * 1103515245 + 12345 := by rw [f2.i (by unfold wkP; omega), wI_ne (by omega), wI_eq rfl rfl]
      rw [hz2]
      obtain ⟨l1, l2, l3⟩ := lx_is (z * 1103515245 + 12345)
      rw [l3]
      have hmn : mvn n (lx (z * 1103515245 + 12345)) ≤ n + 2 := by unfold mvn; split <;> omega
      refine c12_putsMove hly (by omega) k2 (by omega) l1 l2 (fun m3 f3 k3 => ?_)
      have f03 : fr (looM j) m m3 := (f0.tr (f2.mono (fun a k h => Or.inl h))).tr (f3.mono (fun a k h => Or.inl h))
      have hz3 : m3.1 109 7 = z * 1103515245 + 12345 := by rw [f3.i (by unfold wkP; omega)]; exact hz2
      have hh3 : hl m3 j t n := (hh0.fr f2 (by unfold wkP; omega) (fun k => by unfold wkP; omega)).fr f3 (by unfold wkP; omega) (fun k => by unfold wkP; omega)
      rw [lgo] at hR
      refine c12_isTooMuch hly (by omega) k3 (by omega) (mv_ok hv.1 hv.2.1).1 (by rw [(mv_ok hv.1 hv.2.1).2]; decide) (fun hft m4 f4 => ?_) (fun hft m4 f4 => ?_)
      · rw [if_pos (show lvs _ _ ≤ 24 ∧ crs _ _ ≤ 24 ∧ _ ≤ 60 from hft)] at hR
        have hz4 : m4.1 109 7 = z * 1103515245 + 12345 := by rw [f4.i (by unfold mmP; omega)]; exact hz3
        simp (disch := omega) only [forall_eq, true_and, and_true, false_and, and_false, forall_const, true_implies, implies_true, not_true_eq_false, not_false_eq_true, false_implies, if_true, if_false, ↓reduceIte, Int.toNat_natCast, Int.reduceEq, Int.reduceNe, Int.reduceLT, Int.reduceLE, Int.reduceToNat, Int.reduceAdd, Int.reduceSub, Int.reduceMul, Int.reduceNeg, Nat.reduceAdd, Nat.reduceMul, Nat.reduceSub, iI_lit, jI_lit, iI_add, iI_sub, iI_mul, iI_neg, jI_add, jI_sub, jI_mul, jI_neg, nI_i, lN_j, iI_le, iI_lt, iI_eq, jI_le, jI_lt, jI_eq, iI_in, iI_cl, iI_j, jI_i, cN, inN, wI_eq, wI_ne, wJ_1, wJ_eq, wJ_ne, wI_2, wJ_3, iI_div, iI_rem, jI_div, jI_rem, true_or, or_true, false_or, or_false, eq_self, Nat.add_zero]
        refine c12_comesTo hly (by omega) (k3.fr f4 (by unfold mmP; omega) (fun k => by unfold mmP; omega)) hj (mv_v hv hft) (fun m5 f5 h5 _ => ?_)
        simp (disch := omega) only [forall_eq, true_and, and_true, false_and, and_false, forall_const, true_implies, implies_true, not_true_eq_false, not_false_eq_true, false_implies, if_true, if_false, ↓reduceIte, Int.toNat_natCast, Int.reduceEq, Int.reduceNe, Int.reduceLT, Int.reduceLE, Int.reduceToNat, Int.reduceAdd, Int.reduceSub, Int.reduceMul, Int.reduceNeg, Nat.reduceAdd, Nat.reduceMul, Nat.reduceSub, iI_lit, jI_lit, iI_add, iI_sub, iI_mul, iI_neg, jI_add, jI_sub, jI_mul, jI_neg, nI_i, lN_j, iI_le, iI_lt, iI_eq, jI_le, jI_lt, jI_eq, iI_in, iI_cl, iI_j, jI_i, cN, inN, wI_eq, wI_ne, wJ_1, wJ_eq, wJ_ne, wI_2, wJ_3, iI_div, iI_rem, jI_div, jI_rem, true_or, or_true, false_or, or_false, eq_self, Nat.add_zero, e5, e6]
        refine ih (i + 1) (q + 1) _ _ _ m5 (by omega) (by omega) (((hf.tr f03).tr (f4.mono (fun a k h => Or.inr (Or.inr (Or.inl h))))).tr (f5.mono (fun a k h => Or.inr (Or.inr h)))) ?_ (mv_v hv hft) h5 hR
        rw [f5.i (by unfold ctP mmP; omega)]
        exact hz4
      · rw [if_neg (show ¬ (lvs _ _ ≤ 24 ∧ crs _ _ ≤ 24 ∧ _ ≤ 60) from hft)] at hR
        simp (disch := omega) only [forall_eq, true_and, and_true, false_and, and_false, forall_const, true_implies, implies_true, not_true_eq_false, not_false_eq_true, false_implies, if_true, if_false, ↓reduceIte, Int.toNat_natCast, Int.reduceEq, Int.reduceNe, Int.reduceLT, Int.reduceLE, Int.reduceToNat, Int.reduceAdd, Int.reduceSub, Int.reduceMul, Int.reduceNeg, Nat.reduceAdd, Nat.reduceMul, Nat.reduceSub, iI_lit, jI_lit, iI_add, iI_sub, iI_mul, iI_neg, jI_add, jI_sub, jI_mul, jI_neg, nI_i, lN_j, iI_le, iI_lt, iI_eq, jI_le, jI_lt, jI_eq, iI_in, iI_cl, iI_j, jI_i, cN, inN, wI_eq, wI_ne, wJ_1, wJ_eq, wJ_ne, wI_2, wJ_3, iI_div, iI_rem, jI_div, jI_rem, true_or, or_true, false_or, or_false, eq_self, Nat.add_zero, e5]
        refine ih (i + 1) q _ _ _ m4 (by omega) (by omega) ((hf.tr f03).tr (f4.mono (fun a k h => Or.inr (Or.inr (Or.inl h))))) ?_ hv (hh3.fr f4 (by unfold mmP; omega) (fun k => by unfold mmP; omega)) hR
        rw [f4.i (by unfold mmP; omega)]
        exact hz3
theorem Inv.slotZ {c i n : Nat} {m m' : sm_M} {t : Nat → Int} (h : Inv c m) (hi : i < 6) (hf : frw (fun a k => sltP i a k ∨ (a = 0 ∧ k = 13) ∨ (a = 109 ∧ k = 7)) m m') (hz : m'.1 0 13 = m'.1 109 7) (hv : vT t n) (hg : tgm m' (77 + 4 * i) t n) (hh : hl m' i t n) : Inv c m' := by
  obtain ⟨h0, ⟨a1, a2, a3, a4, a5, a6, a7⟩, h9⟩ := h
  refine ⟨h0, ⟨fun j hj => ?_, fun h0 => ?_, ⟨hz, ?_⟩, a4.frw hf ?_, a5.frw hf ?_, a6.frw hf ?_, a7.frw hf ?_⟩, fun k hk => ?_⟩
  · by_cases hij : j = i
    · subst hij
      exact ⟨t, n, hv, hg, hh⟩
    · obtain ⟨u, k, g1, g2, g3⟩ := a1 j hj
      have hk6 := g1.2.2.2.2
      refine ⟨u, k, g1, g2.frw hf ?_ ?_, g3.frw hf ?_ ?_⟩
      · intro q; unfold sltP scC scM; omega
      · intro q; unfold sltP scC scM; omega
      · unfold sltP scC scM; omega
      · intro q hq; unfold sltP scC scM; omega
  · rw [hf.i (by unfold sltP scC scM; omega)] at h0
    obtain ⟨q1, q2⟩ := a2 h0
    refine ⟨?_, fun j hj => ?_⟩
    · rw [hf.i (by unfold sltP scC scM; omega), hf.i (by unfold sltP scC scM; omega)]
      exact q1
    · obtain ⟨u, k, g1, g2, g3⟩ := q2 j hj
      refine ⟨u, k, g1, g2.frw hf ?_ ?_, g3.frw hf ?_ ?_⟩
      · intro q; unfold sltP scC scM; omega
      · intro q; unfold sltP scC scM; omega
      · unfold sltP scC scM; omega
      · intro q hq; unfold sltP scC scM; omega
  · rw [hf.i (by unfold sltP scC scM; omega), hf.i (by unfold sltP scC scM; omega)]
    exact a3.2
  · refine ⟨by unfold sltP scC scM; omega, by unfold sltP scC scM; omega, fun k => ?_⟩; unfold sltP scC scM; omega
  · refine ⟨by unfold sltP scC scM; omega, by unfold sltP scC scM; omega, by unfold sltP scC scM; omega, fun k => ?_⟩; unfold sltP scC scM; omega
  · intro s hs; refine ⟨by unfold sltP scC scM; omega, by unfold sltP scC scM; omega, by unfold sltP scC scM; omega, by unfold sltP scC scM; omega, fun k => ?_⟩; unfold sltP scC scM; omega
  · intro a k h1; unfold sltP scC scM; omega
  · rw [hf.i (by unfold sltP scC scM; omega), hf.i (by unfold sltP scC scM; omega)]
    exact h9 k hk
theorem k_loose {x1 x2 : Int32} (hly : ∀ S, L S → ly S) (hd1 : 5 ≤ d1) (hd2 : 5 ≤ d2) (hI : Inv c m) : sm_callI E L mX11_loose d1 0 0 [.ref (sm_B E + 0), .int x1, .int x2] m (fun r m1 => sm_callI E L mX12_loose d2 0 0 [.ref (sm_B E + 109), .int x1, .int x2] m1 (fun r2 m2 => r = r2 ∧ Inv c m2)) := by
  obtain ⟨i, i1, i2, rfl⟩ := iI_ex x1
  obtain ⟨w, w1, w2, rfl⟩ := iI_ex x2
  have bad : ¬ (0 ≤ i ∧ i < 6 ∧ 1 ≤ w ∧ w ≤ 20) → sm_callI E L mX12_loose d2 0 0 [.ref (sm_B E + 109), .int (iI i), .int (iI w)] (sm_wI m 76 1 (m.1 76 1 + 1)) (fun r2 m2 => iI (-1000000000 - (1 : Nat)) = r2 ∧ Inv c m2) := fun hb => by
    have fin : (fun (r2 : Int32) m2 => iI (-1000000000 - (1 : Nat)) = r2 ∧ Inv c m2) (iI (-1000000000 - (1 : Nat))) (sm_wI (sm_wI m 76 1 (m.1 76 1 + 1)) 110 1 ((sm_wI m 76 1 (m.1 76 1 + 1)).1 110 1 + 1)) := ⟨rfl, hI.er frw.rf frw.rf⟩
    refine vX12_loose_0 hly hd2 (c12_isSlot i1 i2 (by omega) ?_)
    by_cases hi : 0 ≤ i ∧ i < 6
    · simp (disch := omega) only [forall_eq, true_and, and_true, false_and, and_false, forall_const, true_implies, implies_true, not_true_eq_false, not_false_eq_true, false_implies, if_true, if_false, ↓reduceIte, Int.toNat_natCast, Int.reduceEq, Int.reduceNe, Int.reduceLT, Int.reduceLE, Int.reduceToNat, Int.reduceAdd, Int.reduceSub, Int.reduceMul, Int.reduceNeg, Nat.reduceAdd, Nat.reduceMul, Nat.reduceSub, iI_lit, jI_lit, iI_add, iI_sub, iI_mul, iI_neg, jI_add, jI_sub, jI_mul, jI_neg, nI_i, lN_j, iI_le, iI_lt, iI_eq, jI_le, jI_lt, jI_eq, iI_in, iI_cl, iI_j, jI_i, cN, inN, wI_eq, wI_ne, wJ_1, wJ_eq, wJ_ne, wI_2, wJ_3, iI_div, iI_rem, jI_div, jI_rem, true_or, or_true, false_or, or_false, eq_self, Nat.add_zero, hi]
      refine c12_isIn (by omega) (by omega) (by omega) (by omega) (by omega) (by omega) (by omega) ?_
      have hb2 : ¬ (1 ≤ w ∧ w ≤ 20) := by omega
      simp (disch := omega) only [forall_eq, true_and, and_true, false_and, and_false, forall_const, true_implies, implies_true, not_true_eq_false, not_false_eq_true, false_implies, if_true, if_false, ↓reduceIte, Int.toNat_natCast, Int.reduceEq, Int.reduceNe, Int.reduceLT, Int.reduceLE, Int.reduceToNat, Int.reduceAdd, Int.reduceSub, Int.reduceMul, Int.reduceNeg, Nat.reduceAdd, Nat.reduceMul, Nat.reduceSub, iI_lit, jI_lit, iI_add, iI_sub, iI_mul, iI_neg, jI_add, jI_sub, jI_mul, jI_neg, nI_i, lN_j, iI_le, iI_lt, iI_eq, jI_le, jI_lt, jI_eq, iI_in, iI_cl, iI_j, jI_i, cN, inN, wI_eq, wI_ne, wJ_1, wJ_eq, wJ_ne, wI_2, wJ_3, iI_div, iI_rem, jI_div, jI_rem, true_or, or_true, false_or, or_false, eq_self, Nat.add_zero, hb2]
      exact c12_finds (e := 1) hly (by decide) (by omega) fin
    · simp (disch := omega) only [forall_eq, true_and, and_true, false_and, and_false, forall_const, true_implies, implies_true, not_true_eq_false, not_false_eq_true, false_implies, if_true, if_false, ↓reduceIte, Int.toNat_natCast, Int.reduceEq, Int.reduceNe, Int.reduceLT, Int.reduceLE, Int.reduceToNat, Int.reduceAdd, Int.reduceSub, Int.reduceMul, Int.reduceNeg, Nat.reduceAdd, Nat.reduceMul, Nat.reduceSub, iI_lit, jI_lit, iI_add, iI_sub, iI_mul, iI_neg, jI_add, jI_sub, jI_mul, jI_neg, nI_i, lN_j, iI_le, iI_lt, iI_eq, jI_le, jI_lt, jI_eq, iI_in, iI_cl, iI_j, jI_i, cN, inN, wI_eq, wI_ne, wJ_1, wJ_eq, wJ_ne, wI_2, wJ_3, iI_div, iI_rem, jI_div, jI_rem, true_or, or_true, false_or, or_false, eq_self, Nat.add_zero, hi]
      exact c12_finds (e := 1) hly (by decide) (by omega) fin
  refine vX11_loose_0 hly hd1 (c_isSlot i1 i2 (by omega) ?_)
  by_cases hi : 0 ≤ i ∧ i < 6
  · obtain ⟨j, rfl⟩ : ∃ j : Nat, i = (j : Int) := ⟨i.toNat, by omega⟩
    have hj : j < 6 := by omega
    simp (disch := omega) only [forall_eq, true_and, and_true, false_and, and_false, forall_const, true_implies, implies_true, not_true_eq_false, not_false_eq_true, false_implies, if_true, if_false, ↓reduceIte, Int.toNat_natCast, Int.reduceEq, Int.reduceNe, Int.reduceLT, Int.reduceLE, Int.reduceToNat, Int.reduceAdd, Int.reduceSub, Int.reduceMul, Int.reduceNeg, Nat.reduceAdd, Nat.reduceMul, Nat.reduceSub, iI_lit, jI_lit, iI_add, iI_sub, iI_mul, iI_neg, jI_add, jI_sub, jI_mul, jI_neg, nI_i, lN_j, iI_le, iI_lt, iI_eq, jI_le, jI_lt, jI_eq, iI_in, iI_cl, iI_j, jI_i, cN, inN, wI_eq, wI_ne, wJ_1, wJ_eq, wJ_ne, wI_2, wJ_3, iI_div, iI_rem, jI_div, jI_rem, true_or, or_true, false_or, or_false, eq_self, Nat.add_zero, hi]
    refine ⟨fun q => c_error (e := 1) hly (by decide) (by omega) (bad (by omega)), fun q => ⟨fun q2 => ⟨by omega, ?_⟩, fun q2 => c_error (e := 1) hly (by decide) (by omega) (bad (by omega))⟩⟩
    clear bad
    obtain ⟨N, rfl⟩ : ∃ N : Nat, w = (N : Int) := ⟨w.toNat, by omega⟩
    obtain ⟨t, n, hv, hg, hh⟩ := hI.2.1.1 j hj
    have hz := hI.2.1.2.2.1.1
    refine c11_loose_loop hly hd1 hj (by omega) m (lgo N (m.1 0 13) t n 0) (fun m1 f1 z1 v1 g1 => ?_) N 0 0 _ t n m (by omega) (by omega) fr.rf rfl hv hg.1 rfl
    have hb : 1 ≤ (N : Int) ∧ (N : Int) ≤ 20 := by omega
    refine vX12_loose_0 hly hd2 (c12_isSlot i1 i2 (by omega) ?_)
    simp (disch := omega) only [forall_eq, true_and, and_true, false_and, and_false, forall_const, true_implies, implies_true, not_true_eq_false, not_false_eq_true, false_implies, if_true, if_false, ↓reduceIte, Int.toNat_natCast, Int.reduceEq, Int.reduceNe, Int.reduceLT, Int.reduceLE, Int.reduceToNat, Int.reduceAdd, Int.reduceSub, Int.reduceMul, Int.reduceNeg, Nat.reduceAdd, Nat.reduceMul, Nat.reduceSub, iI_lit, jI_lit, iI_add, iI_sub, iI_mul, iI_neg, jI_add, jI_sub, jI_mul, jI_neg, nI_i, lN_j, iI_le, iI_lt, iI_eq, jI_le, jI_lt, jI_eq, iI_in, iI_cl, iI_j, jI_i, cN, inN, wI_eq, wI_ne, wJ_1, wJ_eq, wJ_ne, wI_2, wJ_3, iI_div, iI_rem, jI_div, jI_rem, true_or, or_true, false_or, or_false, eq_self, Nat.add_zero, hi]
    refine c12_isIn (by omega) (by omega) (by omega) (by omega) (by omega) (by omega) (by omega) ?_
    simp (disch := omega) only [forall_eq, true_and, and_true, false_and, and_false, forall_const, true_implies, implies_true, not_true_eq_false, not_false_eq_true, false_implies, if_true, if_false, ↓reduceIte, Int.toNat_natCast, Int.reduceEq, Int.reduceNe, Int.reduceLT, Int.reduceLE, Int.reduceToNat, Int.reduceAdd, Int.reduceSub, Int.reduceMul, Int.reduceNeg, Nat.reduceAdd, Nat.reduceMul, Nat.reduceSub, iI_lit, jI_lit, iI_add, iI_sub, iI_mul, iI_neg, jI_add, jI_sub, jI_mul, jI_neg, nI_i, lN_j, iI_le, iI_lt, iI_eq, jI_le, jI_lt, jI_eq, iI_in, iI_cl, iI_j, jI_i, cN, inN, wI_eq, wI_ne, wJ_1, wJ_eq, wJ_ne, wI_2, wJ_3, iI_div, iI_rem, jI_div, jI_rem, true_or, or_true, false_or, or_false, eq_self, Nat.add_zero, hb]
    have hh1 : hl m1 j t n := hh.fr f1 (by unfold looP tgP meP gaP; omega) (fun k => by unfold looP tgP meP gaP; omega)
    have hz1 : m1.1 109 7 = m.1 0 13 := by rw [f1.i (by unfold looP tgP meP gaP; omega)]; exact hz.symm
    refine c12_loose_loop hly hd2 hj (by omega) m1 (lgo N (m.1 0 13) t n 0) (fun m2 f2 z2 h2 => ⟨rfl, ?_⟩) N 0 0 _ t n m1 (by omega) (by omega) fr.rf hz1 hv hh1 rfl
    refine hI.slotZ hj ((f1.w.mono (fun a k h => ?_)).tr (f2.w.mono (fun a k h => ?_))) ?_ v1 (g1.fr f2 ?_ ?_) h2
    · unfold looP tgP meP gaP at h; unfold sltP scC; omega
    · unfold looM wkP ctP mmP at h; unfold sltP scM; omega
    · rw [f2.i (by unfold looM wkP ctP mmP; omega), z1, z2]
    · intro k h1 h2; unfold looM wkP ctP mmP; omega
    · intro k; unfold looM wkP ctP mmP; omega
  · simp (disch := omega) only [forall_eq, true_and, and_true, false_and, and_false, forall_const, true_implies, implies_true, not_true_eq_false, not_false_eq_true, false_implies, if_true, if_false, ↓reduceIte, Int.toNat_natCast, Int.reduceEq, Int.reduceNe, Int.reduceLT, Int.reduceLE, Int.reduceToNat, Int.reduceAdd, Int.reduceSub, Int.reduceMul, Int.reduceNeg, Nat.reduceAdd, Nat.reduceMul, Nat.reduceSub, iI_lit, jI_lit, iI_add, iI_sub, iI_mul, iI_neg, jI_add, jI_sub, jI_mul, jI_neg, nI_i, lN_j, iI_le, iI_lt, iI_eq, jI_le, jI_lt, jI_eq, iI_in, iI_cl, iI_j, jI_i, cN, inN, wI_eq, wI_ne, wJ_1, wJ_eq, wJ_ne, wI_2, wJ_3, iI_div, iI_rem, jI_div, jI_rem, true_or, or_true, false_or, or_false, eq_self, Nat.add_zero, hi]
    exact c_error (e := 1) hly (by decide) (by omega) (bad (by omega))
end K3
