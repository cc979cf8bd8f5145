/-! terms -/
theorem f_bdG {a b : Int} (hg : Int.gcd a b ≠ 0) : (fP a b).natAbs ≤ a.natAbs ∧ 0 ≤ fQ a b ∧ (fQ a b).natAbs ≤ b.natAbs := by
  obtain ⟨g, hg'⟩ : ∃ g : Nat, g = Int.gcd a b := ⟨_, rfl⟩
  have hgp : 0 < (g : Int) := by omega
  obtain ⟨x, hx⟩ : (g : Int) ∣ a := by rw [hg']; exact Int.gcd_dvd_left ..
  obtain ⟨y, hy⟩ : (g : Int) ∣ b := by rw [hg']; exact Int.gcd_dvd_right ..
  have hxa : x.natAbs ≤ a.natAbs := by
    rw [hx, Int.natAbs_mul]
    exact Nat.le_mul_of_pos_left _ (by omega)
  have hyb : y.natAbs ≤ b.natAbs := by
    rw [hy, Int.natAbs_mul]
    exact Nat.le_mul_of_pos_left _ (by omega)
  have sgn : b < 0 ↔ y < 0 := by
    constructor
    · intro h
      apply Classical.byContradiction
      intro hz
      have := Int.mul_nonneg (show 0 ≤ (g : Int) by omega) (show 0 ≤ y by omega)
      omega
    · intro h
      have := Int.mul_neg_of_pos_of_neg hgp h
      omega
  have sgz : b = 0 → y = 0 := by
    intro h
    rw [hy] at h
    rcases Int.mul_eq_zero.mp h with h | h
    · omega
    · exact h
  unfold fP fQ fby
  rw [← hg']
  by_cases hs : b < 0 ∨ (b = 0 ∧ a < 0)
  · rw [if_pos hs, show a.tdiv (-(g : Int)) = -x by rw [hx, Int.tdiv_neg, Int.mul_tdiv_cancel_left _ (by omega)], show b.tdiv (-(g : Int)) = -y by rw [hy, Int.tdiv_neg, Int.mul_tdiv_cancel_left _ (by omega)]]
    refine ⟨by omega, ?_, by omega⟩
    rcases hs with h | h
    · have := sgn.mp h
      omega
    · have := sgz h.1
      omega
  · rw [if_neg hs, show a.tdiv (g : Int) = x by rw [hx, Int.mul_tdiv_cancel_left _ (by omega)], show b.tdiv (g : Int) = y by rw [hy, Int.mul_tdiv_cancel_left _ (by omega)]]
    refine ⟨by omega, ?_, by omega⟩
    apply Classical.byContradiction
    intro h
    exact hs (Or.inl (sgn.mpr (by omega)))
theorem odd_and (a b : Int) : ((iI a &&& iI b) &&& 1 = (1 : Int32)) ↔ (a % 2 = 1 ∧ b % 2 = 1) := by
  have h1 : ∀ z : Int, (iI z).toBitVec.toNat % 2 = (z % 2).toNat := by
    intro z
    show (BitVec.ofInt 32 z).toNat % 2 = _
    rw [BitVec.toNat_ofInt]
    omega
  have h2 : ∀ x y : Nat, ((x &&& y) &&& 1 = 1) ↔ (x % 2 = 1 ∧ y % 2 = 1) := by
    intro x y
    rw [Nat.and_one_is_mod]
    have : ((x &&& y).testBit 0 = true) ↔ (x.testBit 0 = true ∧ y.testBit 0 = true) := by
      rw [Nat.testBit_and]
      simp
    simpa [Nat.testBit_zero] using this
  rw [← Int32.toBitVec_inj, ← BitVec.toNat_inj, Int32.toBitVec_and, Int32.toBitVec_and, BitVec.toNat_and, BitVec.toNat_and]
  show ((_ &&& _) &&& 1 = 1) ↔ _
  rw [h2, h1, h1]
  omega
theorem tmod2 (z : Int) : z.tmod 2 = 0 ↔ z % 2 = 0 := by
  constructor
  · intro e
    exact Int.emod_eq_zero_of_dvd (Int.dvd_of_tmod_eq_zero e)
  · intro e
    exact Int.tmod_eq_zero_of_dvd (Int.dvd_of_emod_eq_zero e)
theorem tmod2_bd (z : Int) : -2 ≤ z.tmod 2 ∧ z.tmod 2 ≤ 2 := by
  rw [Int.tmod_eq_emod]
  split <;> omega
theorem rbP_sc {b k : Nat} (h : rbP b k) : scM b k := by
  unfold rbP at h
  unfold scM
  omega
section K7
variable {E : sm_E} {L : sm_S → Prop} {d d1 d2 : Nat} {m : sm_M} {c : Nat}
theorem c_isWhole {Q : Int32 → sm_M → Prop} {z : Int} (h1 : -2147483648 ≤ z) (h2 : z ≤ 2147483647) (hd : 1 ≤ d) (h : Q (iI (if -999999999 ≤ z ∧ z ≤ 999999999 then 1 else 0)) m) : sm_callI E L mX11_isWhole d 0 0 [.int (iI z)] m Q := by
  refine vX11_isWhole_0 hd ?_
  simp (disch := omega) only [forall_eq, true_and, and_true, false_and, and_false, forall_const, true_implies, implies_true, not_true_eq_false, not_false_eq_true, false_implies, if_true, if_false, ↓reduceIte, Int.toNat_natCast, Int.reduceEq, Int.reduceNe, Int.reduceLT, Int.reduceLE, Int.reduceToNat, Int.reduceAdd, Int.reduceSub, Int.reduceMul, Int.reduceNeg, Nat.reduceAdd, Nat.reduceMul, Nat.reduceSub, iI_lit, jI_lit, iI_add, iI_sub, iI_mul, iI_neg, jI_add, jI_sub, jI_mul, jI_neg, nI_i, lN_j, iI_le, iI_lt, iI_eq, jI_le, jI_lt, jI_eq, iI_in, iI_cl, iI_j, jI_i, cN, inN, wI_eq, wI_ne, wJ_1, wJ_eq, wJ_ne, wI_2, wJ_3, iI_div, iI_rem, jI_div, jI_rem, true_or, or_true, false_or, or_false, eq_self, Nat.add_zero]
  refine ⟨fun hc => ?_, fun hc => ⟨fun hc2 => ?_, fun hc2 => ?_⟩⟩
  · rw [if_neg (by omega)] at h; exact h
  · rw [if_neg (by omega)] at h; exact h
  · rw [if_pos (by omega)] at h; exact h
/-- a row comes to a sheet, in the class -/
theorem c11_lay {Q : Int32 → sm_M → Prop} {s N : Nat} {A : Nat → Int} (hly : ∀ S, L S → ly S) (hs : s < 4) (hN : N ≤ 48) (hr : rowOK m 74 N A) (h : ∀ m', fr (rsP (101 + 2 * s)) m m' → m'.1 (101 + 2 * s) 1 = iI 64 → m'.1 (101 + 2 * s) 2 = iI (N : Nat) → (∀ k, k < 48 → m'.2.1 (102 + 2 * s) k = jI (if k < N then A k else 0)) → Q (iI (N : Nat)) m') : sm_callV E L mX7_reset 2 0 0 [.ref (sm_B E + (101 + 2 * s)), .int (iI 64), .int (iI (N : Nat))] m (fun m_4 => sm_callV E L mX7_bring 2 0 0 [.ref (sm_B E + (101 + 2 * s)), .ref (sm_B E + 74), .int (iI 0), .int (iI 0), .int (m_4.1 74 2)] m_4 (fun m_5 => Q (m_5.1 (101 + 2 * s) 2) m_5)) := by
  have hT := ly_sheetT hly hs
  refine c_reset hT (by omega) hN (fun m1 f1 w1 w2 w3 => ?_)
  have r1 : rowOK m1 74 N A := ⟨(f1.i (by unfold rsP; omega)).trans hr.1, fun k hk => (f1.j (by unfold rsP; omega)).trans (hr.2 k hk)⟩
  rw [r1.1]
  refine c_bring (i := 0) (j := 0) (x := N) hT (she74 hly) (by omega) r1.1 w2 hN hN (by omega) (by omega) (fun m2 f2 v2 => ?_)
  have w2' : m2.1 (101 + 2 * s) 2 = iI (N : Nat) := (f2.i (by unfold rowP; omega)).trans w2
  rw [w2']
  refine h m2 (f1.tr (f2.mono (fun a k h => ?_))) ((f2.i (by unfold rowP; omega)).trans w1) w2' (fun k hk => ?_)
  · unfold rowP at h; unfold rsP; omega
  · rw [show 102 + 2 * s = 101 + 2 * s + 1 by omega, v2 k hk]
    by_cases hkN : k < N
    · rw [if_pos (by omega), if_pos hkN, Nat.zero_add, Nat.sub_zero]
      exact r1.2 k hkN
    · rw [if_neg (by omega), if_neg hkN]
      exact w3 k hk
def lqP (s : Nat) : Nat → Nat → Prop := fun a k => a = 120 ∧ 48 * s ≤ k ∧ k < 48 * s + 48
theorem c12_lay_loop {Q : Int32 → sm_M → Prop} {vs : List Value} {s N : Nat} {A : Nat → Int} (hly : ∀ S, L S → ly S) (hd : 4 ≤ d) (hs : s < 4) (hN : N ≤ 48) (m0 : sm_M) (h : ∀ m', fr (lqP s) m0 m' → m'.1 109 67 = iI (N : Nat) → (∀ k, k < 48 → m'.2.1 120 (48 * s + k) = jI (if k < N then A k else 0)) → Q (iI (N : Nat)) m') : ∀ (r i : Nat) (m : sm_M), i + r = N → fr (lqP s) m0 m → m.1 109 67 = iI (N : Nat) → (∀ k, k < N → m.2.1 148 k = jI (A k)) → (∀ k, k < 48 → m.2.1 120 (48 * s + k) = jI (if k < i then A k else 0)) → gX12_terms_221 E L d vs (iI (s : Nat)) (iI (i : Nat)) m Q := by
  intro r
  induction r with
  | zero =>
    intro i m hi hf h1 h2 h3
    have : i = N := by omega
    subst this
    refine vX12_terms_221 hly hd ?_
    rw [h1]
    simp (disch := omega) only [forall_eq, true_and, and_true, false_and, and_false, forall_const, true_implies, implies_true, not_true_eq_false, not_false_eq_true, false_implies, if_true, if_false, ↓reduceIte, Int.toNat_natCast, Int.reduceEq, Int.reduceNe, Int.reduceLT, Int.reduceLE, Int.reduceToNat, Int.reduceAdd, Int.reduceSub, Int.reduceMul, Int.reduceNeg, Nat.reduceAdd, Nat.reduceMul, Nat.reduceSub, iI_lit, jI_lit, iI_add, iI_sub, iI_mul, iI_neg, jI_add, jI_sub, jI_mul, jI_neg, nI_i, lN_j, iI_le, iI_lt, iI_eq, jI_le, jI_lt, jI_eq, iI_in, iI_cl, iI_j, jI_i, cN, inN, wI_eq, wI_ne, wJ_1, wJ_eq, wJ_ne, wI_2, wJ_3, iI_div, iI_rem, jI_div, jI_rem, true_or, or_true, false_or, or_false, eq_self, Nat.add_zero]
    exact ⟨fun _ => h m hf h1 h3, fun z => by omega⟩
  | succ r ih =>
    intro i m hi hf h1 h2 h3
    have e5 : ((i : Nat) : Int) + 1 = ((i + 1 : Nat) : Int) := by omega
    have e6 : (48 : Int) * ((s : Nat) : Int) + ((i : Nat) : Int) = ((48 * s + i : Nat) : Int) := by omega
    refine vX12_terms_221 hly hd ?_
    simp (disch := omega) only [forall_eq, true_and, and_true, false_and, and_false, forall_const, true_implies, implies_true, not_true_eq_false, not_false_eq_true, false_implies, if_true, if_false, ↓reduceIte, Int.toNat_natCast, Int.reduceEq, Int.reduceNe, Int.reduceLT, Int.reduceLE, Int.reduceToNat, Int.reduceAdd, Int.reduceSub, Int.reduceMul, Int.reduceNeg, Nat.reduceAdd, Nat.reduceMul, Nat.reduceSub, iI_lit, jI_lit, iI_add, iI_sub, iI_mul, iI_neg, jI_add, jI_sub, jI_mul, jI_neg, nI_i, lN_j, iI_le, iI_lt, iI_eq, jI_le, jI_lt, jI_eq, iI_in, iI_cl, iI_j, jI_i, cN, inN, wI_eq, wI_ne, wJ_1, wJ_eq, wJ_ne, wI_2, wJ_3, iI_div, iI_rem, jI_div, jI_rem, true_or, or_true, false_or, or_false, eq_self, Nat.add_zero, h1, h2 i (by omega), e5, e6]
    refine ⟨fun z => by omega, fun _ => ⟨by omega, by omega, ih (i + 1) _ (by omega) (hf.wJ (by unfold lqP; omega)) h1 (fun k hk => ?_) (fun k hk => ?_)⟩⟩
    · rw [wJ_ne (by omega)]
      exact h2 k hk
    · by_cases hki : k = i
      · subst hki
        rw [wJ_eq rfl rfl, if_pos (by omega)]
      · rw [wJ_ne (by omega), h3 k hk]
        by_cases hlt : k < i
        · rw [if_pos hlt, if_pos (by omega)]
        · rw [if_neg hlt, if_neg (by omega)]
theorem c12_lay {Q : Int32 → sm_M → Prop} {vs : List Value} {s N : Nat} {A : Nat → Int} (hly : ∀ S, L S → ly S) (hd : 4 ≤ d) (hs : s < 4) (hN : N ≤ 63) (hr1 : m.1 109 67 = iI (N : Nat)) (hr2 : ∀ k, k < N → m.2.1 148 k = jI (A k)) (h1 : N ≤ 48 → ∀ m', fr (lyP s) m m' → m'.1 121 s = iI 64 → m'.1 122 s = iI (N : Nat) → (∀ k, k < 48 → m'.2.1 120 (48 * s + k) = jI (if k < N then A k else 0)) → Q (iI (N : Nat)) m') (h2 : 48 < N → Q (iI (-1000000000 - (4 : Nat))) (sm_wI m 110 4 (m.1 110 4 + 1))) : gX12_terms_192 E L d vs (iI (s : Nat)) m Q := by
  refine vX12_terms_192 hly hd ?_
  rw [hr1]
  simp (disch := omega) only [forall_eq, true_and, and_true, false_and, and_false, forall_const, true_implies, implies_true, not_true_eq_false, not_false_eq_true, false_implies, if_true, if_false, ↓reduceIte, Int.toNat_natCast, Int.reduceEq, Int.reduceNe, Int.reduceLT, Int.reduceLE, Int.reduceToNat, Int.reduceAdd, Int.reduceSub, Int.reduceMul, Int.reduceNeg, Nat.reduceAdd, Nat.reduceMul, Nat.reduceSub, iI_lit, jI_lit, iI_add, iI_sub, iI_mul, iI_neg, jI_add, jI_sub, jI_mul, jI_neg, nI_i, lN_j, iI_le, iI_lt, iI_eq, jI_le, jI_lt, jI_eq, iI_in, iI_cl, iI_j, jI_i, cN, inN, wI_eq, wI_ne, wJ_1, wJ_eq, wJ_ne, wI_2, wJ_3, iI_div, iI_rem, jI_div, jI_rem, true_or, or_true, false_or, or_false, eq_self, Nat.add_zero]
  refine ⟨fun z => c12_lays hly (by omega) hs (by omega) (by omega) (fun m1 f1 w1 w2 w3 => ?_), fun z => c12_finds (e := 4) hly (by decide) (by omega) (h2 (by omega))⟩
  rw [if_neg (by omega)] at w2
  refine c12_lay_loop (A := A) hly hd hs (by omega) m1 (fun m2 f2 u1 u2 => h1 (by omega) m2 (f1.tr (f2.mono (fun a k h => Or.inr (Or.inr h)))) ((f2.i (by unfold lqP; omega)).trans w1) ((f2.i (by unfold lqP; omega)).trans w2) u2) N 0 m1 (by omega) fr.rf ((f1.i (by unfold lyP; omega)).trans hr1) (fun k hk => (f1.j (by unfold lyP; omega)).trans (hr2 k hk)) (fun k hk => by rw [if_neg (by omega)]; exact w3 k hk)
/-- the terms come to the row -/
theorem c12_copy_loop {Q : Int32 → sm_M → Prop} {vs : List Value} {s M : Nat} {A : Nat → Int} (hly : ∀ S, L S → ly S) (hd : 4 ≤ d) (hM : M ≤ 48) (m0 : sm_M) (h : ∀ m', fr (fun a _ => a = 148) m0 m' → (∀ k, k < M → m'.2.1 148 k = jI (A k)) → gX12_terms_192 E L d vs (iI (s : Nat)) m' Q) : ∀ (r i : Nat) (m : sm_M), i + r = M → fr (fun a _ => a = 148) m0 m → m.1 109 36 = iI (M : Nat) → (∀ k, k < M → m.2.1 127 k = jI (A k)) → (∀ k, k < i → m.2.1 148 k = jI (A k)) → gX12_terms_163 E L d vs (iI (s : Nat)) (iI (i : Nat)) m Q := by
  intro r
  induction r with
  | zero =>
    intro i m hi hf h1 h2 h3
    have : i = M := by omega
    subst this
    refine vX12_terms_163 hly hd ?_
    rw [h1]
    simp (disch := omega) only [forall_eq, true_and, and_true, false_and, and_false, forall_const, true_implies, implies_true, not_true_eq_false, not_false_eq_true, false_implies, if_true, if_false, ↓reduceIte, Int.toNat_natCast, Int.reduceEq, Int.reduceNe, Int.reduceLT, Int.reduceLE, Int.reduceToNat, Int.reduceAdd, Int.reduceSub, Int.reduceMul, Int.reduceNeg, Nat.reduceAdd, Nat.reduceMul, Nat.reduceSub, iI_lit, jI_lit, iI_add, iI_sub, iI_mul, iI_neg, jI_add, jI_sub, jI_mul, jI_neg, nI_i, lN_j, iI_le, iI_lt, iI_eq, jI_le, jI_lt, jI_eq, iI_in, iI_cl, iI_j, jI_i, cN, inN, wI_eq, wI_ne, wJ_1, wJ_eq, wJ_ne, wI_2, wJ_3, iI_div, iI_rem, jI_div, jI_rem, true_or, or_true, false_or, or_false, eq_self, Nat.add_zero]
    exact ⟨fun _ => h m hf h3, fun z => by omega⟩
  | succ r ih =>
    intro i m hi hf h1 h2 h3
    have e5 : ((i : Nat) : Int) + 1 = ((i + 1 : Nat) : Int) := by omega
    refine vX12_terms_163 hly hd ?_
    simp (disch := omega) only [forall_eq, true_and, and_true, false_and, and_false, forall_const, true_implies, implies_true, not_true_eq_false, not_false_eq_true, false_implies, if_true, if_false, ↓reduceIte, Int.toNat_natCast, Int.reduceEq, Int.reduceNe, Int.reduceLT, Int.reduceLE, Int.reduceToNat, Int.reduceAdd, Int.reduceSub, Int.reduceMul, Int.reduceNeg, Nat.reduceAdd, Nat.reduceMul, Nat.reduceSub, iI_lit, jI_lit, iI_add, iI_sub, iI_mul, iI_neg, jI_add, jI_sub, jI_mul, jI_neg, nI_i, lN_j, iI_le, iI_lt, iI_eq, jI_le, jI_lt, jI_eq, iI_in, iI_cl, iI_j, jI_i, cN, inN, wI_eq, wI_ne, wJ_1, wJ_eq, wJ_ne, wI_2, wJ_3, iI_div, iI_rem, jI_div, jI_rem, true_or, or_true, false_or, or_false, eq_self, Nat.add_zero, h1, h2 i (by omega), e5]
    refine ⟨fun z => by omega, fun _ => ⟨by omega, by omega, ih (i + 1) _ (by omega) (hf.wJ rfl) h1 (fun k hk => ?_) (fun k hk => ?_)⟩⟩
    · rw [wJ_ne (by omega)]
      exact h2 k hk
    · by_cases hki : k = i
      · subst hki
        rw [wJ_eq rfl rfl]
      · rw [wJ_ne (by omega)]
        exact h3 k (by omega)
/-- the row of a fraction: how many (49: too many), its terms -/
theorem c12_rows {Q : Int32 → sm_M → Prop} {vs : List Value} {s : Nat} {how p q : Int} (hly : ∀ S, L S → ly S) (hd : 4 ≤ d) (hs : s < 4) (hw1 : 0 ≤ how) (hw2 : how ≤ 3) (hp : (p.natAbs : Int) ≤ 1000000000) (hq0 : 0 ≤ q) (hq : q ≤ 1000000000) (e1 : m.2.1 109 29 = jI p) (e2 : m.2.1 109 30 = jI q)
    (h3 : how = 3 → ∀ m', frw scM m m' → ∀ m2, fr (lyP s) m' m2 → m2.1 121 s = iI 64 → m2.1 122 s = iI (tN p q : Nat) → (∀ k, k < 48 → m2.2.1 120 (48 * s + k) = jI (if k < tN p q then tT p q k else 0)) → Q (iI (tN p q : Nat)) m2)
    (h0 : how ≠ 3 → ∀ N, N ≤ 48 → (∀ j, j < N → (rst how p q j).2 ≠ 0) → (rst how p q N).2 = 0 → ∀ m', frw scM m m' → ∀ m2, fr (lyP s) m' m2 → m2.1 121 s = iI 64 → m2.1 122 s = iI (N : Nat) → (∀ k, k < 48 → m2.2.1 120 (48 * s + k) = jI (if k < N then rTm how (rst how p q k).1 (rst how p q k).2 else 0)) → Q (iI (N : Nat)) m2)
    (h1 : how ≠ 3 → (∀ j, j < 49 → (rst how p q j).2 ≠ 0) → ∀ m', frw scM m m' → Q (iI (-1000000000 - (4 : Nat))) (sm_wI m' 110 4 (m'.1 110 4 + 1))) : gX12_terms_117 E L d vs (iI (s : Nat)) (iI how) m Q := by
  refine vX12_terms_117 hly hd ?_
  rw [e1, e2]
  simp (disch := omega) only [forall_eq, true_and, and_true, false_and, and_false, forall_const, true_implies, implies_true, not_true_eq_false, not_false_eq_true, false_implies, if_true, if_false, ↓reduceIte, Int.toNat_natCast, Int.reduceEq, Int.reduceNe, Int.reduceLT, Int.reduceLE, Int.reduceToNat, Int.reduceAdd, Int.reduceSub, Int.reduceMul, Int.reduceNeg, Nat.reduceAdd, Nat.reduceMul, Nat.reduceSub, iI_lit, jI_lit, iI_add, iI_sub, iI_mul, iI_neg, jI_add, jI_sub, jI_mul, jI_neg, nI_i, lN_j, iI_le, iI_lt, iI_eq, jI_le, jI_lt, jI_eq, iI_in, iI_cl, iI_j, jI_i, cN, inN, wI_eq, wI_ne, wJ_1, wJ_eq, wJ_ne, wI_2, wJ_3, iI_div, iI_rem, jI_div, jI_rem, true_or, or_true, false_or, or_false, eq_self, Nat.add_zero]
  refine ⟨fun z => c12_termsOf hly (by omega) hp hq0 hq (fun m1 f1 u1 u2 => ?_), fun z => c12_rowBy hly (by omega) hw1 (by omega) (by omega) hq0 (by omega) (fun N m1 hN hn hz f1 u1 u2 => ?_)⟩
  · have h3 := h3 (by omega)
    have tl := tN_le p q
    have s1 : frw scM m m1 := f1.w.mono (fun a k h => teP_sc h)
    rw [u1]
    have s2 : frw scM m (sm_wI m1 109 67 (iI (tN p q : Nat))) := s1.tr ((fr.rf.wI (P := rbP) (Or.inl ⟨rfl, rfl⟩)).w.mono (fun a k h => rbP_sc h))
    refine c12_copy_loop (A := tT p q) hly hd tl (sm_wI m1 109 67 (iI (tN p q : Nat))) (fun m2 f2 v2 => ?_) (tN p q) 0 _ (by omega) fr.rf ((wI_ne (by omega)).trans u1) u2 (fun k hk => absurd hk (Nat.not_lt_zero _))
    have s3 : frw scM m m2 := s2.tr (f2.w.mono (fun a k h => by unfold scM; omega))
    exact c12_lay (A := tT p q) hly hd hs (by omega) ((f2.i (by omega)).trans (wI_eq rfl rfl)) v2 (fun _ m3 f3 w1 w2 w3 => h3 m2 s3 m3 f3 w1 w2 w3) (fun z => by omega)
  · have s1 : frw scM m m1 := f1.w.mono (fun a k h => rbP_sc h)
    refine c12_lay (A := fun k => rTm how (rst how p q k).1 (rst how p q k).2) hly hd hs (by omega) u1 u2 (fun hN48 m3 f3 w1 w2 w3 => ?_) (fun hN48 => h1 (by omega) (by rw [show (49 : Nat) = N by omega]; exact hn) m1 s1)
    rcases hz with hz | hz
    · omega
    · exact h0 (by omega) N hN48 hn hz m1 s1 m3 f3 w1 w2 w3
theorem k_terms {x1 x2 x3 x4 : Int32} (hly : ∀ S, L S → ly S) (hd1 : 4 ≤ d1) (hd2 : 4 ≤ d2) (hI : Inv c m) : sm_callI E L mX11_terms d1 0 0 [.ref (sm_B E + 0), .int x1, .int x2, .int x3, .int x4] m (fun r m1 => sm_callI E L mX12_terms d2 0 0 [.ref (sm_B E + 109), .int x1, .int x2, .int x3, .int x4] m1 (fun r2 m2 => r = r2 ∧ Inv c m2)) := by
  obtain ⟨i, i1, i2, rfl⟩ := iI_ex x1
  obtain ⟨p, p1, p2, rfl⟩ := iI_ex x2
  obtain ⟨q, q1, q2, rfl⟩ := iI_ex x3
  obtain ⟨w, w1, w2, rfl⟩ := iI_ex x4
  -- the reference, up to its first choice
  have m0 : ∀ (m1 : sm_M) (Q : Int32 → sm_M → Prop), (∀ vs, gX12_terms_37 E L d2 vs (iI i) (iI p) (iI q) (iI w) (iI (if (-999999999 ≤ p ∧ p ≤ 999999999) ∧ (-999999999 ≤ q ∧ q ≤ 999999999) ∧ q ≠ 0 then 1 else 0)) m1 Q) → sm_callI E L mX12_terms d2 0 0 [.ref (sm_B E + 109), .int (iI i), .int (iI p), .int (iI q), .int (iI w)] m1 Q := by
    intro m1 Q hQ
    refine vX12_terms_0 hd2 ?_
    simp (disch := omega) only [forall_eq, true_and, and_true, false_and, and_false, forall_const, true_implies, implies_true, not_true_eq_false, not_false_eq_true, false_implies, if_true, if_false, ↓reduceIte, Int.toNat_natCast, Int.reduceEq, Int.reduceNe, Int.reduceLT, Int.reduceLE, Int.reduceToNat, Int.reduceAdd, Int.reduceSub, Int.reduceMul, Int.reduceNeg, Nat.reduceAdd, Nat.reduceMul, Nat.reduceSub, iI_lit, jI_lit, iI_add, iI_sub, iI_mul, iI_neg, jI_add, jI_sub, jI_mul, jI_neg, nI_i, lN_j, iI_le, iI_lt, iI_eq, jI_le, jI_lt, jI_eq, iI_in, iI_cl, iI_j, jI_i, cN, inN, wI_eq, wI_ne, wJ_1, wJ_eq, wJ_ne, wI_2, wJ_3, iI_div, iI_rem, jI_div, jI_rem, true_or, or_true, false_or, or_false, eq_self, Nat.add_zero]
    refine c12_isIn (by omega) (by omega) (by omega) (by omega) (by omega) (by omega) (by omega) ?_
    by_cases hp : -999999999 ≤ p ∧ p ≤ 999999999
    · rw [if_pos hp]
      simp (disch := omega) only [forall_eq, true_and, and_true, false_and, and_false, forall_const, true_implies, implies_true, not_true_eq_false, not_false_eq_true, false_implies, if_true, if_false, ↓reduceIte, Int.toNat_natCast, Int.reduceEq, Int.reduceNe, Int.reduceLT, Int.reduceLE, Int.reduceToNat, Int.reduceAdd, Int.reduceSub, Int.reduceMul, Int.reduceNeg, Nat.reduceAdd, Nat.reduceMul, Nat.reduceSub, iI_lit, jI_lit, iI_add, iI_sub, iI_mul, iI_neg, jI_add, jI_sub, jI_mul, jI_neg, nI_i, lN_j, iI_le, iI_lt, iI_eq, jI_le, jI_lt, jI_eq, iI_in, iI_cl, iI_j, jI_i, cN, inN, wI_eq, wI_ne, wJ_1, wJ_eq, wJ_ne, wI_2, wJ_3, iI_div, iI_rem, jI_div, jI_rem, true_or, or_true, false_or, or_false, eq_self, Nat.add_zero]
      refine c12_isIn (by omega) (by omega) (by omega) (by omega) (by omega) (by omega) (by omega) ?_
      by_cases hq : -999999999 ≤ q ∧ q ≤ 999999999
      · rw [if_pos hq]
        simp (disch := omega) only [forall_eq, true_and, and_true, false_and, and_false, forall_const, true_implies, implies_true, not_true_eq_false, not_false_eq_true, false_implies, if_true, if_false, ↓reduceIte, Int.toNat_natCast, Int.reduceEq, Int.reduceNe, Int.reduceLT, Int.reduceLE, Int.reduceToNat, Int.reduceAdd, Int.reduceSub, Int.reduceMul, Int.reduceNeg, Nat.reduceAdd, Nat.reduceMul, Nat.reduceSub, iI_lit, jI_lit, iI_add, iI_sub, iI_mul, iI_neg, jI_add, jI_sub, jI_mul, jI_neg, nI_i, lN_j, iI_le, iI_lt, iI_eq, jI_le, jI_lt, jI_eq, iI_in, iI_cl, iI_j, jI_i, cN, inN, wI_eq, wI_ne, wJ_1, wJ_eq, wJ_ne, wI_2, wJ_3, iI_div, iI_rem, jI_div, jI_rem, true_or, or_true, false_or, or_false, eq_self, Nat.add_zero]
        refine ⟨fun z => ?_, fun z => ?_⟩
        · rw [if_neg (fun h => h.2.2 z)] at hQ
          exact hQ _
        · rw [if_pos ⟨hp, hq, z⟩] at hQ
          exact hQ _
      · rw [if_neg hq]
        rw [if_neg (fun h => hq h.2.1)] at hQ
        simp (disch := omega) only [forall_eq, true_and, and_true, false_and, and_false, forall_const, true_implies, implies_true, not_true_eq_false, not_false_eq_true, false_implies, if_true, if_false, ↓reduceIte, Int.toNat_natCast, Int.reduceEq, Int.reduceNe, Int.reduceLT, Int.reduceLE, Int.reduceToNat, Int.reduceAdd, Int.reduceSub, Int.reduceMul, Int.reduceNeg, Nat.reduceAdd, Nat.reduceMul, Nat.reduceSub, iI_lit, jI_lit, iI_add, iI_sub, iI_mul, iI_neg, jI_add, jI_sub, jI_mul, jI_neg, nI_i, lN_j, iI_le, iI_lt, iI_eq, jI_le, jI_lt, jI_eq, iI_in, iI_cl, iI_j, jI_i, cN, inN, wI_eq, wI_ne, wJ_1, wJ_eq, wJ_ne, wI_2, wJ_3, iI_div, iI_rem, jI_div, jI_rem, true_or, or_true, false_or, or_false, eq_self, Nat.add_zero]
        exact hQ _
    · rw [if_neg hp]
      rw [if_neg (fun h => hp h.1)] at hQ
      simp (disch := omega) only [forall_eq, true_and, and_true, false_and, and_false, forall_const, true_implies, implies_true, not_true_eq_false, not_false_eq_true, false_implies, if_true, if_false, ↓reduceIte, Int.toNat_natCast, Int.reduceEq, Int.reduceNe, Int.reduceLT, Int.reduceLE, Int.reduceToNat, Int.reduceAdd, Int.reduceSub, Int.reduceMul, Int.reduceNeg, Nat.reduceAdd, Nat.reduceMul, Nat.reduceSub, iI_lit, jI_lit, iI_add, iI_sub, iI_mul, iI_neg, jI_add, jI_sub, jI_mul, jI_neg, nI_i, lN_j, iI_le, iI_lt, iI_eq, jI_le, jI_lt, jI_eq, iI_in, iI_cl, iI_j, jI_i, cN, inN, wI_eq, wI_ne, wJ_1, wJ_eq, wJ_ne, wI_2, wJ_3, iI_div, iI_rem, jI_div, jI_rem, true_or, or_true, false_or, or_false, eq_self, Nat.add_zero]
      exact hQ _
  have mbad : ¬ ((0 ≤ i ∧ i < 4) ∧ (-999999999 ≤ p ∧ p ≤ 999999999) ∧ (-999999999 ≤ q ∧ q ≤ 999999999) ∧ q ≠ 0 ∧ (0 ≤ w ∧ w ≤ 3)) → sm_callI E L mX12_terms d2 0 0 [.ref (sm_B E + 109), .int (iI i), .int (iI p), .int (iI q), .int (iI w)] (sm_wI m 76 1 (m.1 76 1 + 1)) (fun r2 m2 => iI (-1000000000 - (1 : Nat)) = r2 ∧ Inv c m2) := fun hb => by
    have fin : (fun (r2 : Int32) m2 => iI (-1000000000 - (1 : Nat)) = r2 ∧ Inv c m2) (iI (-1000000000 - (1 : Nat))) (sm_wI (sm_wI m 76 1 (m.1 76 1 + 1)) 110 1 ((sm_wI m 76 1 (m.1 76 1 + 1)).1 110 1 + 1)) := ⟨rfl, hI.er frw.rf frw.rf⟩
    refine m0 _ _ (fun vs => vX12_terms_37 hly hd2 (c12_isSheet i1 i2 (by omega) ?_))
    by_cases hi : 0 ≤ i ∧ i < 4
    · rw [if_pos hi]
      by_cases hpq : (-999999999 ≤ p ∧ p ≤ 999999999) ∧ (-999999999 ≤ q ∧ q ≤ 999999999) ∧ q ≠ 0
      · rw [if_pos hpq]
        simp (disch := omega) only [forall_eq, true_and, and_true, false_and, and_false, forall_const, true_implies, implies_true, not_true_eq_false, not_false_eq_true, false_implies, if_true, if_false, ↓reduceIte, Int.toNat_natCast, Int.reduceEq, Int.reduceNe, Int.reduceLT, Int.reduceLE, Int.reduceToNat, Int.reduceAdd, Int.reduceSub, Int.reduceMul, Int.reduceNeg, Nat.reduceAdd, Nat.reduceMul, Nat.reduceSub, iI_lit, jI_lit, iI_add, iI_sub, iI_mul, iI_neg, jI_add, jI_sub, jI_mul, jI_neg, nI_i, lN_j, iI_le, iI_lt, iI_eq, jI_le, jI_lt, jI_eq, iI_in, iI_cl, iI_j, jI_i, cN, inN, wI_eq, wI_ne, wJ_1, wJ_eq, wJ_ne, wI_2, wJ_3, iI_div, iI_rem, jI_div, jI_rem, true_or, or_true, false_or, or_false, eq_self, Nat.add_zero]
        refine c12_isIn (by omega) (by omega) (by omega) (by omega) (by omega) (by omega) (by omega) ?_
        rw [if_neg (by omega)]
        simp (disch := omega) only [forall_eq, true_and, and_true, false_and, and_false, forall_const, true_implies, implies_true, not_true_eq_false, not_false_eq_true, false_implies, if_true, if_false, ↓reduceIte, Int.toNat_natCast, Int.reduceEq, Int.reduceNe, Int.reduceLT, Int.reduceLE, Int.reduceToNat, Int.reduceAdd, Int.reduceSub, Int.reduceMul, Int.reduceNeg, Nat.reduceAdd, Nat.reduceMul, Nat.reduceSub, iI_lit, jI_lit, iI_add, iI_sub, iI_mul, iI_neg, jI_add, jI_sub, jI_mul, jI_neg, nI_i, lN_j, iI_le, iI_lt, iI_eq, jI_le, jI_lt, jI_eq, iI_in, iI_cl, iI_j, jI_i, cN, inN, wI_eq, wI_ne, wJ_1, wJ_eq, wJ_ne, wI_2, wJ_3, iI_div, iI_rem, jI_div, jI_rem, true_or, or_true, false_or, or_false, eq_self, Nat.add_zero]
        exact c12_finds (e := 1) hly (by decide) (by omega) fin
      · rw [if_neg hpq]
        simp (disch := omega) only [forall_eq, true_and, and_true, false_and, and_false, forall_const, true_implies, implies_true, not_true_eq_false, not_false_eq_true, false_implies, if_true, if_false, ↓reduceIte, Int.toNat_natCast, Int.reduceEq, Int.reduceNe, Int.reduceLT, Int.reduceLE, Int.reduceToNat, Int.reduceAdd, Int.reduceSub, Int.reduceMul, Int.reduceNeg, Nat.reduceAdd, Nat.reduceMul, Nat.reduceSub, iI_lit, jI_lit, iI_add, iI_sub, iI_mul, iI_neg, jI_add, jI_sub, jI_mul, jI_neg, nI_i, lN_j, iI_le, iI_lt, iI_eq, jI_le, jI_lt, jI_eq, iI_in, iI_cl, iI_j, jI_i, cN, inN, wI_eq, wI_ne, wJ_1, wJ_eq, wJ_ne, wI_2, wJ_3, iI_div, iI_rem, jI_div, jI_rem, true_or, or_true, false_or, or_false, eq_self, Nat.add_zero]
        exact c12_finds (e := 1) hly (by decide) (by omega) fin
    · rw [if_neg hi]
      simp (disch := omega) only [forall_eq, true_and, and_true, false_and, and_false, forall_const, true_implies, implies_true, not_true_eq_false, not_false_eq_true, false_implies, if_true, if_false, ↓reduceIte, Int.toNat_natCast, Int.reduceEq, Int.reduceNe, Int.reduceLT, Int.reduceLE, Int.reduceToNat, Int.reduceAdd, Int.reduceSub, Int.reduceMul, Int.reduceNeg, Nat.reduceAdd, Nat.reduceMul, Nat.reduceSub, iI_lit, jI_lit, iI_add, iI_sub, iI_mul, iI_neg, jI_add, jI_sub, jI_mul, jI_neg, nI_i, lN_j, iI_le, iI_lt, iI_eq, jI_le, jI_lt, jI_eq, iI_in, iI_cl, iI_j, jI_i, cN, inN, wI_eq, wI_ne, wJ_1, wJ_eq, wJ_ne, wI_2, wJ_3, iI_div, iI_rem, jI_div, jI_rem, true_or, or_true, false_or, or_false, eq_self, Nat.add_zero]
      exact c12_finds (e := 1) hly (by decide) (by omega) fin
  refine vX11_terms_0 hly hd1 (c_isSheet i1 i2 (by omega) ?_)
  by_cases hi : 0 ≤ i ∧ i < 4
  rotate_left
  · rw [if_neg hi]
    simp (disch := omega) only [forall_eq, true_and, and_true, false_and, and_false, forall_const, true_implies, implies_true, not_true_eq_false, not_false_eq_true, false_implies, if_true, if_false, ↓reduceIte, Int.toNat_natCast, Int.reduceEq, Int.reduceNe, Int.reduceLT, Int.reduceLE, Int.reduceToNat, Int.reduceAdd, Int.reduceSub, Int.reduceMul, Int.reduceNeg, Nat.reduceAdd, Nat.reduceMul, Nat.reduceSub, iI_lit, jI_lit, iI_add, iI_sub, iI_mul, iI_neg, jI_add, jI_sub, jI_mul, jI_neg, nI_i, lN_j, iI_le, iI_lt, iI_eq, jI_le, jI_lt, jI_eq, iI_in, iI_cl, iI_j, jI_i, cN, inN, wI_eq, wI_ne, wJ_1, wJ_eq, wJ_ne, wI_2, wJ_3, iI_div, iI_rem, jI_div, jI_rem, true_or, or_true, false_or, or_false, eq_self, Nat.add_zero]
    exact c_error (e := 1) hly (by decide) (by omega) (mbad (fun h => hi h.1))
  rw [if_pos hi]
  simp (disch := omega) only [forall_eq, true_and, and_true, false_and, and_false, forall_const, true_implies, implies_true, not_true_eq_false, not_false_eq_true, false_implies, if_true, if_false, ↓reduceIte, Int.toNat_natCast, Int.reduceEq, Int.reduceNe, Int.reduceLT, Int.reduceLE, Int.reduceToNat, Int.reduceAdd, Int.reduceSub, Int.reduceMul, Int.reduceNeg, Nat.reduceAdd, Nat.reduceMul, Nat.reduceSub, iI_lit, jI_lit, iI_add, iI_sub, iI_mul, iI_neg, jI_add, jI_sub, jI_mul, jI_neg, nI_i, lN_j, iI_le, iI_lt, iI_eq, jI_le, jI_lt, jI_eq, iI_in, iI_cl, iI_j, jI_i, cN, inN, wI_eq, wI_ne, wJ_1, wJ_eq, wJ_ne, wI_2, wJ_3, iI_div, iI_rem, jI_div, jI_rem, true_or, or_true, false_or, or_false, eq_self, Nat.add_zero]
  refine c_isWhole p1 p2 (by omega) ?_
  by_cases hp : -999999999 ≤ p ∧ p ≤ 999999999
  rotate_left
  · rw [if_neg hp]
    simp (disch := omega) only [forall_eq, true_and, and_true, false_and, and_false, forall_const, true_implies, implies_true, not_true_eq_false, not_false_eq_true, false_implies, if_true, if_false, ↓reduceIte, Int.toNat_natCast, Int.reduceEq, Int.reduceNe, Int.reduceLT, Int.reduceLE, Int.reduceToNat, Int.reduceAdd, Int.reduceSub, Int.reduceMul, Int.reduceNeg, Nat.reduceAdd, Nat.reduceMul, Nat.reduceSub, iI_lit, jI_lit, iI_add, iI_sub, iI_mul, iI_neg, jI_add, jI_sub, jI_mul, jI_neg, nI_i, lN_j, iI_le, iI_lt, iI_eq, jI_le, jI_lt, jI_eq, iI_in, iI_cl, iI_j, jI_i, cN, inN, wI_eq, wI_ne, wJ_1, wJ_eq, wJ_ne, wI_2, wJ_3, iI_div, iI_rem, jI_div, jI_rem, true_or, or_true, false_or, or_false, eq_self, Nat.add_zero]
    exact c_error (e := 1) hly (by decide) (by omega) (mbad (fun h => hp h.2.1))
  rw [if_pos hp]
  simp (disch := omega) only [forall_eq, true_and, and_true, false_and, and_false, forall_const, true_implies, implies_true, not_true_eq_false, not_false_eq_true, false_implies, if_true, if_false, ↓reduceIte, Int.toNat_natCast, Int.reduceEq, Int.reduceNe, Int.reduceLT, Int.reduceLE, Int.reduceToNat, Int.reduceAdd, Int.reduceSub, Int.reduceMul, Int.reduceNeg, Nat.reduceAdd, Nat.reduceMul, Nat.reduceSub, iI_lit, jI_lit, iI_add, iI_sub, iI_mul, iI_neg, jI_add, jI_sub, jI_mul, jI_neg, nI_i, lN_j, iI_le, iI_lt, iI_eq, jI_le, jI_lt, jI_eq, iI_in, iI_cl, iI_j, jI_i, cN, inN, wI_eq, wI_ne, wJ_1, wJ_eq, wJ_ne, wI_2, wJ_3, iI_div, iI_rem, jI_div, jI_rem, true_or, or_true, false_or, or_false, eq_self, Nat.add_zero]
  refine c_isWhole q1 q2 (by omega) ?_
  by_cases hq : -999999999 ≤ q ∧ q ≤ 999999999
  rotate_left
  · rw [if_neg hq]
    simp (disch := omega) only [forall_eq, true_and, and_true, false_and, and_false, forall_const, true_implies, implies_true, not_true_eq_false, not_false_eq_true, false_implies, if_true, if_false, ↓reduceIte, Int.toNat_natCast, Int.reduceEq, Int.reduceNe, Int.reduceLT, Int.reduceLE, Int.reduceToNat, Int.reduceAdd, Int.reduceSub, Int.reduceMul, Int.reduceNeg, Nat.reduceAdd, Nat.reduceMul, Nat.reduceSub, iI_lit, jI_lit, iI_add, iI_sub, iI_mul, iI_neg, jI_add, jI_sub, jI_mul, jI_neg, nI_i, lN_j, iI_le, iI_lt, iI_eq, jI_le, jI_lt, jI_eq, iI_in, iI_cl, iI_j, jI_i, cN, inN, wI_eq, wI_ne, wJ_1, wJ_eq, wJ_ne, wI_2, wJ_3, iI_div, iI_rem, jI_div, jI_rem, true_or, or_true, false_or, or_false, eq_self, Nat.add_zero]
    exact c_error (e := 1) hly (by decide) (by omega) (mbad (fun h => hq h.2.2.1))
  rw [if_pos hq]
  simp (disch := omega) only [forall_eq, true_and, and_true, false_and, and_false, forall_const, true_implies, implies_true, not_true_eq_false, not_false_eq_true, false_implies, if_true, if_false, ↓reduceIte, Int.toNat_natCast, Int.reduceEq, Int.reduceNe, Int.reduceLT, Int.reduceLE, Int.reduceToNat, Int.reduceAdd, Int.reduceSub, Int.reduceMul, Int.reduceNeg, Nat.reduceAdd, Nat.reduceMul, Nat.reduceSub, iI_lit, jI_lit, iI_add, iI_sub, iI_mul, iI_neg, jI_add, jI_sub, jI_mul, jI_neg, nI_i, lN_j, iI_le, iI_lt, iI_eq, jI_le, jI_lt, jI_eq, iI_in, iI_cl, iI_j, jI_i, cN, inN, wI_eq, wI_ne, wJ_1, wJ_eq, wJ_ne, wI_2, wJ_3, iI_div, iI_rem, jI_div, jI_rem, true_or, or_true, false_or, or_false, eq_self, Nat.add_zero]
  refine ⟨fun hq0 => c_error (e := 1) hly (by decide) (by omega) (mbad (fun h => h.2.2.2.1 hq0)), fun hq0 => ⟨fun hw => c_error (e := 1) hly (by decide) (by omega) (mbad (by omega)), fun hw => ⟨fun hw3 => ?_, fun hw3 => c_error (e := 1) hly (by decide) (by omega) (mbad (by omega))⟩⟩⟩
  clear mbad
  obtain ⟨s, rfl⟩ : ∃ s : Nat, i = (s : Int) := ⟨i.toNat, by omega⟩
  have hs : s < 4 := by omega
  have hg0 : Int.gcd p q ≠ 0 := fun h => hq0 (Int.gcd_eq_zero_iff.mp h).2
  obtain ⟨b1, b2, b3⟩ := f_bdG hg0
  have gle : Int.gcd p q ≤ q.natAbs := Int.gcd_le_natAbs_right p hq0
  have hfb : fby p q = if q < 0 then -(Int.gcd p q : Int) else (Int.gcd p q : Int) := by
    unfold fby
    by_cases h : q < 0
    · rw [if_pos (Or.inl h), if_pos h]
    · rw [if_neg (by omega), if_neg h]
  -- the reference, once the fraction is there
  have model : ∀ (m1 : sm_M) (Q : Int32 → sm_M → Prop),
      (w = 2 → fP p q % 2 = 1 ∧ fQ p q % 2 = 1 → ∀ m', frw scM m1 m' → Q (iI (-1000000000 - (3 : Nat))) (sm_wI m' 110 3 (m'.1 110 3 + 1))) →
      (¬ (w = 2 ∧ fP p q % 2 = 1 ∧ fQ p q % 2 = 1) → ∀ (m' : sm_M) (vs : List Value), frw scM m1 m' → m'.2.1 109 29 = jI (fP p q) → m'.2.1 109 30 = jI (fQ p q) → gX12_terms_117 E L d2 vs (iI (s : Nat)) (iI w) m' Q) → sm_callI E L mX12_terms d2 0 0 [.ref (sm_B E + 109), .int (iI (s : Nat)), .int (iI p), .int (iI q), .int (iI w)] m1 Q := by
    intro m1 Q hQ3 hQ
    refine m0 _ _ (fun vs => vX12_terms_37 hly hd2 (c12_isSheet i1 i2 (by omega) ?_))
    rw [if_pos hi, if_pos ⟨hp, hq, hq0⟩]
    simp (disch := omega) only [forall_eq, true_and, and_true, false_and, and_false, forall_const, true_implies, implies_true, not_true_eq_false, not_false_eq_true, false_implies, if_true, if_false, ↓reduceIte, Int.toNat_natCast, Int.reduceEq, Int.reduceNe, Int.reduceLT, Int.reduceLE, Int.reduceToNat, Int.reduceAdd, Int.reduceSub, Int.reduceMul, Int.reduceNeg, Nat.reduceAdd, Nat.reduceMul, Nat.reduceSub, iI_lit, jI_lit, iI_add, iI_sub, iI_mul, iI_neg, jI_add, jI_sub, jI_mul, jI_neg, nI_i, lN_j, iI_le, iI_lt, iI_eq, jI_le, jI_lt, jI_eq, iI_in, iI_cl, iI_j, jI_i, cN, inN, wI_eq, wI_ne, wJ_1, wJ_eq, wJ_ne, wI_2, wJ_3, iI_div, iI_rem, jI_div, jI_rem, true_or, or_true, false_or, or_false, eq_self, Nat.add_zero]
    refine c12_isIn (by omega) (by omega) (by omega) (by omega) (by omega) (by omega) (by omega) ?_
    rw [if_pos (by omega)]
    simp (disch := omega) only [forall_eq, true_and, and_true, false_and, and_false, forall_const, true_implies, implies_true, not_true_eq_false, not_false_eq_true, false_implies, if_true, if_false, ↓reduceIte, Int.toNat_natCast, Int.reduceEq, Int.reduceNe, Int.reduceLT, Int.reduceLE, Int.reduceToNat, Int.reduceAdd, Int.reduceSub, Int.reduceMul, Int.reduceNeg, Nat.reduceAdd, Nat.reduceMul, Nat.reduceSub, iI_lit, jI_lit, iI_add, iI_sub, iI_mul, iI_neg, jI_add, jI_sub, jI_mul, jI_neg, nI_i, lN_j, iI_le, iI_lt, iI_eq, jI_le, jI_lt, jI_eq, iI_in, iI_cl, iI_j, jI_i, cN, inN, wI_eq, wI_ne, wJ_1, wJ_eq, wJ_ne, wI_2, wJ_3, iI_div, iI_rem, jI_div, jI_rem, true_or, or_true, false_or, or_false, eq_self, Nat.add_zero]
    refine c12_fractionOf hly (by omega) (by omega) (fun m2 f2 r2 => ?_)
    obtain ⟨e1, e2⟩ := r2 hg0
    have s2 : frw scM m1 m2 := f2.w.mono (fun a k h => by unfold scM; omega)
    have t1 := tmod2_bd (fP p q)
    have t2 := tmod2_bd (fQ p q)
    rw [e1, e2]
    simp (disch := omega) only [forall_eq, true_and, and_true, false_and, and_false, forall_const, true_implies, implies_true, not_true_eq_false, not_false_eq_true, false_implies, if_true, if_false, ↓reduceIte, Int.toNat_natCast, Int.reduceEq, Int.reduceNe, Int.reduceLT, Int.reduceLE, Int.reduceToNat, Int.reduceAdd, Int.reduceSub, Int.reduceMul, Int.reduceNeg, Nat.reduceAdd, Nat.reduceMul, Nat.reduceSub, iI_lit, jI_lit, iI_add, iI_sub, iI_mul, iI_neg, jI_add, jI_sub, jI_mul, jI_neg, nI_i, lN_j, iI_le, iI_lt, iI_eq, jI_le, jI_lt, jI_eq, iI_in, iI_cl, iI_j, jI_i, cN, inN, wI_eq, wI_ne, wJ_1, wJ_eq, wJ_ne, wI_2, wJ_3, iI_div, iI_rem, jI_div, jI_rem, true_or, or_true, false_or, or_false, eq_self, Nat.add_zero, tmod2]
    refine ⟨fun z => hQ (fun h => z h.1) m2 _ s2 e1 e2, fun z => ⟨fun z2 => hQ (fun h => by omega) m2 _ s2 e1 e2, fun z2 => ⟨fun z3 => hQ (fun h => by omega) m2 _ s2 e1 e2, fun z3 => c12_finds (e := 3) hly (by decide) (by omega) (hQ3 z (by omega) m2 s2)⟩⟩⟩
  have g111 : ¬ (w = 2 ∧ fP p q % 2 = 1 ∧ fQ p q % 2 = 1) → ∀ vs, gX11_terms_111 E L d1 vs (iI (s : Nat)) (iI w) (iI (fP p q)) (iI (fQ p q)) m (fun r m1 => sm_callI E L mX12_terms d2 0 0 [.ref (sm_B E + 109), .int (iI (s : Nat)), .int (iI p), .int (iI q), .int (iI w)] m1 (fun r2 m2 => r = r2 ∧ Inv c m2)) := by
    intro hno vs
    have fin : ∀ (N : Nat) (A : Nat → Int) (m1 m2 m3 m4 : sm_M), N ≤ 48 → fr (rsP 74) m m1 → fr (rsP (101 + 2 * s)) m1 m2 → m2.1 (101 + 2 * s) 1 = iI 64 → m2.1 (101 + 2 * s) 2 = iI (N : Nat) → (∀ k, k < 48 → m2.2.1 (102 + 2 * s) k = jI (if k < N then A k else 0)) → frw scM m2 m3 → fr (lyP s) m3 m4 → m4.1 121 s = iI 64 → m4.1 122 s = iI (N : Nat) → (∀ k, k < 48 → m4.2.1 120 (48 * s + k) = jI (if k < N then A k else 0)) → Inv c m4 := by
      intro N A m1 m2 m3 m4 hN f1 f2 a1 a2 a3 f3 f4 c1 c2 c3
      refine hI.sheet hs ((((f1.w.mono (fun a k h => ?_)).tr (f2.w.mono (fun a k h => ?_))).tr (f3.mono (fun a k h => Or.inr (Or.inl h)))).tr (f4.w.mono (fun a k h => ?_))) ⟨64, N, by omega, hN, ?_, c1, ?_, c2, fun k hk => ?_⟩
      · exact Or.inl (rsP_sc h)
      · unfold rsP at h; omega
      · unfold lyP at h; omega
      · rw [f4.i (by unfold lyP; omega), f3.i (by unfold scM; omega)]; exact a1
      · rw [f4.i (by unfold lyP; omega), f3.i (by unfold scM; omega)]; exact a2
      · rw [f4.j (by unfold lyP; omega), f3.j (by unfold scM; omega), c3 k hk]; exact a3 k hk
    by_cases hw3' : w = 3
    · subst hw3'
      refine vX11_terms_111 hly hd1 (c_expandS (she74 hly) (by omega) (by omega) b2 (by omega) (fun h => ?_) (fun m1 f1 r1 => ?_))
      · have h0 : q.tdiv (fby p q) = 0 := h
        have hb9 : fby p q ∣ q := by
          rw [hfb]
          split
          · exact Int.neg_dvd.mpr (Int.gcd_dvd_right ..)
          · exact Int.gcd_dvd_right ..
        have := Int.tdiv_mul_cancel hb9
        rw [h0, Int.zero_mul] at this
        exact absurd this.symm hq0
      have tl := tN_le (fP p q) (fQ p q)
      rw [r1.1]
      simp (disch := omega) only [forall_eq, true_and, and_true, false_and, and_false, forall_const, true_implies, implies_true, not_true_eq_false, not_false_eq_true, false_implies, if_true, if_false, ↓reduceIte, Int.toNat_natCast, Int.reduceEq, Int.reduceNe, Int.reduceLT, Int.reduceLE, Int.reduceToNat, Int.reduceAdd, Int.reduceSub, Int.reduceMul, Int.reduceNeg, Nat.reduceAdd, Nat.reduceMul, Nat.reduceSub, iI_lit, jI_lit, iI_add, iI_sub, iI_mul, iI_neg, jI_add, jI_sub, jI_mul, jI_neg, nI_i, lN_j, iI_le, iI_lt, iI_eq, jI_le, jI_lt, jI_eq, iI_in, iI_cl, iI_j, jI_i, cN, inN, wI_eq, wI_ne, wJ_1, wJ_eq, wJ_ne, wI_2, wJ_3, iI_div, iI_rem, jI_div, jI_rem, true_or, or_true, false_or, or_false, eq_self, Nat.add_zero]
      refine ⟨by omega, c11_lay (Q := fun r m5 => sm_callI E L mX12_terms d2 0 0 [.ref (sm_B E + 109), .int (iI (s : Nat)), .int (iI p), .int (iI q), .int (iI 3)] m5 (fun r2 m2 => r = r2 ∧ Inv c m2)) hly hs tl r1 (fun m2 f2 a1 a2 a3 => model m2 _ (fun h => by omega) (fun _ m3 vs f3 e1 e2 => ?_))⟩
      exact c12_rows hly hd2 hs (by omega) (by omega) (by omega) b2 (by omega) e1 e2 (fun _ m4 f4 m5 f5 c1 c2 c3 => ⟨rfl, fin _ _ m1 m2 m4 m5 tl f1 f2 a1 a2 a3 (f3.tr f4) f5 c1 c2 c3⟩) (fun h => absurd rfl h) (fun h => absurd rfl h)
    · refine vX11_terms_111 hly hd1 (c_expand (she74 hly) (by omega) (by omega) (by omega) (by omega) b2 (by omega) (fun N m1 hN hn hz f1 r1 => ?_))
      by_cases hz0 : (rst w (fP p q) (fQ p q) N).2 = 0
      · rw [if_pos hz0, r1.1]
        simp (disch := omega) only [forall_eq, true_and, and_true, false_and, and_false, forall_const, true_implies, implies_true, not_true_eq_false, not_false_eq_true, false_implies, if_true, if_false, ↓reduceIte, Int.toNat_natCast, Int.reduceEq, Int.reduceNe, Int.reduceLT, Int.reduceLE, Int.reduceToNat, Int.reduceAdd, Int.reduceSub, Int.reduceMul, Int.reduceNeg, Nat.reduceAdd, Nat.reduceMul, Nat.reduceSub, iI_lit, jI_lit, iI_add, iI_sub, iI_mul, iI_neg, jI_add, jI_sub, jI_mul, jI_neg, nI_i, lN_j, iI_le, iI_lt, iI_eq, jI_le, jI_lt, jI_eq, iI_in, iI_cl, iI_j, jI_i, cN, inN, wI_eq, wI_ne, wJ_1, wJ_eq, wJ_ne, wI_2, wJ_3, iI_div, iI_rem, jI_div, jI_rem, true_or, or_true, false_or, or_false, eq_self, Nat.add_zero]
        refine ⟨by omega, c11_lay (Q := fun r m5 => sm_callI E L mX12_terms d2 0 0 [.ref (sm_B E + 109), .int (iI (s : Nat)), .int (iI p), .int (iI q), .int (iI w)] m5 (fun r2 m2 => r = r2 ∧ Inv c m2)) hly hs hN r1 (fun m2 f2 a1 a2 a3 => model m2 _ (fun h1 h2 => absurd ⟨h1, h2⟩ hno) (fun _ m3 vs f3 e1 e2 => ?_))⟩
        refine c12_rows hly hd2 hs (by omega) (by omega) (by omega) b2 (by omega) e1 e2 (fun h => absurd h hw3') (fun _ N' hN' hn' hz' m4 f4 m5 f5 c1 c2 c3 => ?_) (fun _ h => absurd hz0 (h N (by omega)))
        have hNN : N' = N := rst_uniq hz' hn' hz0 hn
        subst hNN
        exact ⟨rfl, fin _ _ m1 m2 m4 m5 hN f1 f2 a1 a2 a3 (f3.tr f4) f5 c1 c2 c3⟩
      · rw [if_neg hz0]
        simp (disch := omega) only [forall_eq, true_and, and_true, false_and, and_false, forall_const, true_implies, implies_true, not_true_eq_false, not_false_eq_true, false_implies, if_true, if_false, ↓reduceIte, Int.toNat_natCast, Int.reduceEq, Int.reduceNe, Int.reduceLT, Int.reduceLE, Int.reduceToNat, Int.reduceAdd, Int.reduceSub, Int.reduceMul, Int.reduceNeg, Nat.reduceAdd, Nat.reduceMul, Nat.reduceSub, iI_lit, jI_lit, iI_add, iI_sub, iI_mul, iI_neg, jI_add, jI_sub, jI_mul, jI_neg, nI_i, lN_j, iI_le, iI_lt, iI_eq, jI_le, jI_lt, jI_eq, iI_in, iI_cl, iI_j, jI_i, cN, inN, wI_eq, wI_ne, wJ_1, wJ_eq, wJ_ne, wI_2, wJ_3, iI_div, iI_rem, jI_div, jI_rem, true_or, or_true, false_or, or_false, eq_self, Nat.add_zero]
        have hN48 : N = 48 := by
          rcases hz with h | h
          · exact h
          · exact absurd h hz0
        subst hN48
        have s1 : frw scC m m1 := f1.w.mono (fun a k h => rsP_sc h)
        refine c_error (e := 4) hly (by decide) (by omega) (model _ _ (fun h1 h2 => absurd ⟨h1, h2⟩ hno) (fun _ m3 vs f3 e1 e2 => ?_))
        refine c12_rows hly hd2 hs (by omega) (by omega) (by omega) b2 (by omega) e1 e2 (fun h => absurd h hw3') (fun _ N' hN' hn' hz' m4 f4 m5 f5 c1 c2 c3 => ?_) (fun _ h m4 f4 => ⟨rfl, hI.er s1 (f3.tr f4)⟩)
        rcases Nat.lt_or_ge N' 48 with h | h
        · exact absurd hz' (hn N' h)
        · rw [show N' = 48 by omega] at hz'
          exact absurd hz' hz0
  have g92 : ∀ vs (f : Int), (f = 0 ∨ f = 1) → (f = 1 ↔ fP p q % 2 = 1 ∧ fQ p q % 2 = 1) → gX11_terms_92 E L d1 vs (iI (s : Nat)) (iI w) (iI (fP p q)) (iI (fQ p q)) (iI f) m (fun r m1 => sm_callI E L mX12_terms d2 0 0 [.ref (sm_B E + 109), .int (iI (s : Nat)), .int (iI p), .int (iI q), .int (iI w)] m1 (fun r2 m2 => r = r2 ∧ Inv c m2)) := by
    intro vs f hf hf1
    refine vX11_terms_92 hly hd1 ?_
    simp (disch := omega) only [forall_eq, true_and, and_true, false_and, and_false, forall_const, true_implies, implies_true, not_true_eq_false, not_false_eq_true, false_implies, if_true, if_false, ↓reduceIte, Int.toNat_natCast, Int.reduceEq, Int.reduceNe, Int.reduceLT, Int.reduceLE, Int.reduceToNat, Int.reduceAdd, Int.reduceSub, Int.reduceMul, Int.reduceNeg, Nat.reduceAdd, Nat.reduceMul, Nat.reduceSub, iI_lit, jI_lit, iI_add, iI_sub, iI_mul, iI_neg, jI_add, jI_sub, jI_mul, jI_neg, nI_i, lN_j, iI_le, iI_lt, iI_eq, jI_le, jI_lt, jI_eq, iI_in, iI_cl, iI_j, jI_i, cN, inN, wI_eq, wI_ne, wJ_1, wJ_eq, wJ_ne, wI_2, wJ_3, iI_div, iI_rem, jI_div, jI_rem, true_or, or_true, false_or, or_false, eq_self, Nat.add_zero]
    refine ⟨fun z => g111 (fun h => z h.1) _, fun z => ⟨fun z2 => g111 (fun h => by have := hf1.mpr h.2; omega) _, fun z2 => ?_⟩⟩
    have hodd := hf1.mp (by omega)
    exact c_error (e := 3) hly (by decide) (by omega) (model _ _ (fun _ _ m' f' => ⟨rfl, hI.er frw.rf f'⟩) (fun h => absurd ⟨z, hodd⟩ h))
  have g65 : ∀ vs (T : Int), T = fP p q → gX11_terms_65 E L d1 vs (iI (s : Nat)) (iI q) (iI w) (iI (Int.gcd p q : Nat)) (iI T) m (fun r m1 => sm_callI E L mX12_terms d2 0 0 [.ref (sm_B E + 109), .int (iI (s : Nat)), .int (iI p), .int (iI q), .int (iI w)] m1 (fun r2 m2 => r = r2 ∧ Inv c m2)) := by
    intro vs T hT
    subst hT
    have eQ : ((q.natAbs : Int)).tdiv (Int.gcd p q : Nat) = fQ p q := by
      unfold fQ
      rw [hfb]
      by_cases h : q < 0
      · rw [if_pos h, show (q.natAbs : Int) = -q by omega, Int.tdiv_neg, Int.neg_tdiv]
      · rw [if_neg h, show (q.natAbs : Int) = q by omega]
    refine vX11_terms_65 hd1 (c_abs (by omega) (by omega) (by omega) ?_)
    rw [iI_div (by omega) (by omega) (by omega) (by omega), eQ]
    simp only [forall_eq]
    rw [odd_and]
    refine ⟨?_, fun z => g92 _ 0 (Or.inl rfl) ⟨fun h => by omega, fun h => absurd h z⟩, fun z => g92 _ 1 (Or.inr rfl) ⟨fun _ => z, fun _ => rfl⟩⟩
    simp (disch := omega) only [forall_eq, true_and, and_true, false_and, and_false, forall_const, true_implies, implies_true, not_true_eq_false, not_false_eq_true, false_implies, if_true, if_false, ↓reduceIte, Int.toNat_natCast, Int.reduceEq, Int.reduceNe, Int.reduceLT, Int.reduceLE, Int.reduceToNat, Int.reduceAdd, Int.reduceSub, Int.reduceMul, Int.reduceNeg, Nat.reduceAdd, Nat.reduceMul, Nat.reduceSub, iI_lit, jI_lit, iI_add, iI_sub, iI_mul, iI_neg, jI_add, jI_sub, jI_mul, jI_neg, nI_i, lN_j, iI_le, iI_lt, iI_eq, jI_le, jI_lt, jI_eq, iI_in, iI_cl, iI_j, jI_i, cN, inN, wI_eq, wI_ne, wJ_1, wJ_eq, wJ_ne, wI_2, wJ_3, iI_div, iI_rem, jI_div, jI_rem, true_or, or_true, false_or, or_false, eq_self, Nat.add_zero]
    omega
  refine c_divisorOf (by omega) (by omega) (by omega) (by omega) (by omega) ?_
  simp (disch := omega) only [forall_eq, true_and, and_true, false_and, and_false, forall_const, true_implies, implies_true, not_true_eq_false, not_false_eq_true, false_implies, if_true, if_false, ↓reduceIte, Int.toNat_natCast, Int.reduceEq, Int.reduceNe, Int.reduceLT, Int.reduceLE, Int.reduceToNat, Int.reduceAdd, Int.reduceSub, Int.reduceMul, Int.reduceNeg, Nat.reduceAdd, Nat.reduceMul, Nat.reduceSub, iI_lit, jI_lit, iI_add, iI_sub, iI_mul, iI_neg, jI_add, jI_sub, jI_mul, jI_neg, nI_i, lN_j, iI_le, iI_lt, iI_eq, jI_le, jI_lt, jI_eq, iI_in, iI_cl, iI_j, jI_i, cN, inN, wI_eq, wI_ne, wJ_1, wJ_eq, wJ_ne, wI_2, wJ_3, iI_div, iI_rem, jI_div, jI_rem, true_or, or_true, false_or, or_false, eq_self, Nat.add_zero]
  refine ⟨fun z => ⟨by omega, g65 _ _ ?_⟩, fun z => ⟨by omega, g65 _ _ ?_⟩⟩
  · unfold fP
    rw [hfb, if_neg (by omega)]
  · unfold fP
    rw [hfb, if_pos (by omega), Int.tdiv_neg, Int.neg_tdiv]
end K7
