/-! the class walks all -/
def wAP (a k : Nat) : Prop := wCP a k ∨ a = 24 ∨ (a = 16 ∧ (k = 11 ∨ k = 12))
def wAQ (a k : Nat) : Prop := wCP a k ∨ a = 24 ∨ (a = 16 ∧ k = 11)
theorem wAQ_P {a k : Nat} (h : wAQ a k) : wAP a k := h.elim Or.inl (fun q => q.elim (fun q => Or.inr (Or.inl q)) (fun q => Or.inr (Or.inr ⟨q.1, Or.inl q.2⟩)))
/-- what the walks came to: components, circles, walked, starts, passes, homes, east -/
def rC (m : sm_M) (c K Z w : Nat) (po st ps ho ea : Nat → Nat) : Prop := m.1 16 10 = iI (c : Nat) ∧ m.1 16 11 = iI (K : Nat) ∧ m.1 16 12 = iI (Z : Nat) ∧ (∀ b, b < c → m.1 22 b = iI (po b : Nat)) ∧ (∀ i, i ≤ K → m.1 24 i = iI (st i : Nat)) ∧ (∀ i, i < w → m.1 23 i = iI (ps i : Nat)) ∧ (∀ k, k < 2 * c → m.1 25 k = iI (ho k : Nat)) ∧ ∀ k, k < 2 * c → m.1 26 k = iI (ea k : Nat)
section CWL
variable {E : sm_E} {L : sm_S → Prop} {d : Nat} {c l : Nat} {mk po P : Nat → Nat}
def cA (m : sm_M) (A : wAS) : Prop := m.1 16 11 = iI (A.1 : Nat) ∧ wC m A.2.2 ∧ ∀ i, i < A.1 → m.1 24 i = iI (A.2.1 i : Nat)
theorem wC.fr {Z : Nat → Nat → Prop} {m m' : sm_M} {s : wkS} (h : wC m s) (hf : fr Z m m') (h1 : ∀ k, ¬ Z 19 k ∧ ¬ Z 23 k ∧ ¬ Z 25 k ∧ ¬ Z 26 k ∧ ¬ Z 16 15) : wC m' s := by
  obtain ⟨c1, c2, c3, c4, c5⟩ := h
  exact ⟨(hf.i (h1 0).2.2.2.2).trans c1, fun i hi => (hf.i (h1 _).2.1).trans (c2 i hi), fun k hk => (hf.i (h1 _).2.2.1).trans (c3 k hk), fun k hk => (hf.i (h1 _).2.2.2.1).trans (c4 k hk), fun p hp => (hf.i (h1 _).1).trans (c5 p hp)⟩
theorem c_begin {Q : sm_M → Prop} {m : sm_M} {k : Nat} (hly : ∀ S, L S → ly S) (hd : 3 ≤ d) (hg : gd c l mk po P) (hk : k < 2 * c) (hf : dCf m c l mk po P) (hA : cA m (wA mk po P k)) (h : ∀ m', fr wAQ m m' → cA m' (wA mk po P (k + 1)) → Q m') : sm_callV E L mX2_beginAt d 0 0 [.ref (sm_B E + 16), .int (iI (wEntry po k : Nat))] m Q := by
  obtain ⟨h1, h2, h3, h4, h5, h6, h7, h8, h9⟩ := wA_I hg k (by omega)
  obtain ⟨e1, e2, e3⟩ := entry_lt hg hk
  have hw : wA mk po P (k + 1) = if (wA mk po P k).2.2.2.2.2.2 (wEntry po k) = 1 then wA mk po P k else ((wA mk po P k).1 + 1, upN (wA mk po P k).2.1 (wA mk po P k).1 (wA mk po P k).2.2.1, wRun mk po P (wA mk po P k).1 (wA mk po P k).2.2 (wEntry po k) (per (wW mk) P (wEntry po k))) := rfl
  rw [hw] at h
  have hc := hg.1
  generalize wA mk po P k = A at *
  obtain ⟨a1, a2, a3⟩ := hA
  have v19 := a2.2.2.2.2 (wEntry po k) (by omega)
  refine vX2_beginAt_0 hly hd ?_
  by_cases hsn : A.2.2.2.2.2.2 (wEntry po k) = 1
  · rw [if_pos hsn] at h
    rw [hsn] at v19
    have v19' : m.1 19 (wEntry po k) = iI 1 := v19
    simp (disch := omega) only [forall_eq, true_and, and_true, false_and, and_false, forall_const, true_implies, implies_true, not_true_eq_false, not_false_eq_true, false_implies, if_true, if_false, ↓reduceIte, Int.toNat_natCast, Int.reduceEq, Int.reduceNe, Int.reduceLT, Int.reduceLE, Int.reduceToNat, Int.reduceAdd, Int.reduceSub, Int.reduceMul, Int.reduceNeg, Nat.reduceAdd, Nat.reduceMul, Nat.reduceSub, iI_lit, jI_lit, iI_add, iI_sub, iI_mul, iI_neg, jI_add, jI_sub, jI_mul, jI_neg, nI_i, lN_j, iI_le, iI_lt, iI_eq, jI_le, jI_lt, jI_eq, iI_in, iI_cl, iI_j, jI_i, cN, inN, wI_eq, wI_ne, wJ_1, wJ_eq, wJ_ne, wI_2, wJ_3, iI_div, iI_rem, jI_div, jI_rem, true_or, or_true, false_or, or_false, eq_self, Nat.add_zero, v19']
    exact ⟨by omega, h m fr.rf ⟨a1, a2, a3⟩⟩
  · rw [if_neg hsn] at h
    have hs0 : A.2.2.2.2.2.2 (wEntry po k) = 0 := (h1.1 _).elim id (fun q => absurd q hsn)
    rw [hs0] at v19
    have v19' : m.1 19 (wEntry po k) = iI 0 := v19
    simp (disch := omega) only [forall_eq, true_and, and_true, false_and, and_false, forall_const, true_implies, implies_true, not_true_eq_false, not_false_eq_true, false_implies, if_true, if_false, ↓reduceIte, Int.toNat_natCast, Int.reduceEq, Int.reduceNe, Int.reduceLT, Int.reduceLE, Int.reduceToNat, Int.reduceAdd, Int.reduceSub, Int.reduceMul, Int.reduceNeg, Nat.reduceAdd, Nat.reduceMul, Nat.reduceSub, iI_lit, jI_lit, iI_add, iI_sub, iI_mul, iI_neg, jI_add, jI_sub, jI_mul, jI_neg, nI_i, lN_j, iI_le, iI_lt, iI_eq, jI_le, jI_lt, jI_eq, iI_in, iI_cl, iI_j, jI_i, cN, inN, wI_eq, wI_ne, wJ_1, wJ_eq, wJ_ne, wI_2, wJ_3, iI_div, iI_rem, jI_div, jI_rem, true_or, or_true, false_or, or_false, eq_self, Nat.add_zero, v19', a1, a2.1]
    have f0 : fr wAQ m (sm_wI m 24 A.1 (iI (A.2.2.1 : Nat))) := fr.rf.wI (Or.inr (Or.inl rfl))
    refine ⟨by omega, by omega, c_walk (K := A.1) (B := A.1 + 1) hly (by omega) hg (h1.le (by omega)) h2 e2 hs0 (by omega) (by omega) (hf.fr (Z := fun a _ => a = 24) (fr.rf.wI rfl) (fun k => by omega)) (by simp (disch := omega) only [forall_eq, true_and, and_true, false_and, and_false, forall_const, true_implies, implies_true, not_true_eq_false, not_false_eq_true, false_implies, if_true, if_false, ↓reduceIte, Int.toNat_natCast, Int.reduceEq, Int.reduceNe, Int.reduceLT, Int.reduceLE, Int.reduceToNat, Int.reduceAdd, Int.reduceSub, Int.reduceMul, Int.reduceNeg, Nat.reduceAdd, Nat.reduceMul, Nat.reduceSub, iI_lit, jI_lit, iI_add, iI_sub, iI_mul, iI_neg, jI_add, jI_sub, jI_mul, jI_neg, nI_i, lN_j, iI_le, iI_lt, iI_eq, jI_le, jI_lt, jI_eq, iI_in, iI_cl, iI_j, jI_i, cN, inN, wI_eq, wI_ne, wJ_1, wJ_eq, wJ_ne, wI_2, wJ_3, iI_div, iI_rem, jI_div, jI_rem, true_or, or_true, false_or, or_false, eq_self, Nat.add_zero, a1]) (a2.fr (Z := fun a _ => a = 24) (fr.rf.wI rfl) (fun k => by omega)) (fun m' g1 g2 => ?_)⟩
    have v11 : m'.1 16 11 = iI (A.1 : Nat) := by rw [g1.i (by unfold wCP; omega)]; simp (disch := omega) only [forall_eq, true_and, and_true, false_and, and_false, forall_const, true_implies, implies_true, not_true_eq_false, not_false_eq_true, false_implies, if_true, if_false, ↓reduceIte, Int.toNat_natCast, Int.reduceEq, Int.reduceNe, Int.reduceLT, Int.reduceLE, Int.reduceToNat, Int.reduceAdd, Int.reduceSub, Int.reduceMul, Int.reduceNeg, Nat.reduceAdd, Nat.reduceMul, Nat.reduceSub, iI_lit, jI_lit, iI_add, iI_sub, iI_mul, iI_neg, jI_add, jI_sub, jI_mul, jI_neg, nI_i, lN_j, iI_le, iI_lt, iI_eq, jI_le, jI_lt, jI_eq, iI_in, iI_cl, iI_j, jI_i, cN, inN, wI_eq, wI_ne, wJ_1, wJ_eq, wJ_ne, wI_2, wJ_3, iI_div, iI_rem, jI_div, jI_rem, true_or, or_true, false_or, or_false, eq_self, Nat.add_zero, a1]
    simp (disch := omega) only [forall_eq, true_and, and_true, false_and, and_false, forall_const, true_implies, implies_true, not_true_eq_false, not_false_eq_true, false_implies, if_true, if_false, ↓reduceIte, Int.toNat_natCast, Int.reduceEq, Int.reduceNe, Int.reduceLT, Int.reduceLE, Int.reduceToNat, Int.reduceAdd, Int.reduceSub, Int.reduceMul, Int.reduceNeg, Nat.reduceAdd, Nat.reduceMul, Nat.reduceSub, iI_lit, jI_lit, iI_add, iI_sub, iI_mul, iI_neg, jI_add, jI_sub, jI_mul, jI_neg, nI_i, lN_j, iI_le, iI_lt, iI_eq, jI_le, jI_lt, jI_eq, iI_in, iI_cl, iI_j, jI_i, cN, inN, wI_eq, wI_ne, wJ_1, wJ_eq, wJ_ne, wI_2, wJ_3, iI_div, iI_rem, jI_div, jI_rem, true_or, or_true, false_or, or_false, eq_self, Nat.add_zero, v11]
    refine h _ ((f0.tr (g1.mono (fun a k q => Or.inl q))).wI (Or.inr (Or.inr ⟨rfl, rfl⟩))) ⟨?_, g2.fr (Z := fun a k => a = 16 ∧ k = 11) (fr.rf.wI ⟨rfl, rfl⟩) (fun k => by omega), fun i hi => ?_⟩
    · rw [wI_eq rfl rfl]; rfl
    · have hi2 : i < A.1 + 1 := hi
      rw [wI_oth (by decide), g1.i (by unfold wCP; omega)]
      exact wI_upN a3 i hi2
theorem c_circles {Q : sm_M → Prop} {vs : List Value} {K : Nat} {s : wkS} (hly : ∀ S, L S → ly S) (hd : 4 ≤ d) (hg : gd c l mk po P) (hm : mI c l mk po K s) (hcl : wCl c l P s) (hK : K ≤ 48) (ha : ∀ k, k < 2 * c → s.2.2.2.2 (wEntry po k) = 1) (m0 : sm_M) (hf0 : dCf m0 c l mk po P) (hK0 : m0.1 16 11 = iI (K : Nat)) (hl0 : m0.1 16 13 = iI (l : Nat)) (h : ∀ m', fr (fun a k => wCP a k ∨ (a = 16 ∧ k = 12)) m0 m' → wC m' (wB mk po P K s (4 * l)).2 → m'.1 16 12 = iI ((wB mk po P K s (4 * l)).1 : Nat) → Q m') :
    ∀ (r j : Nat) (m : sm_M), j + r = 4 * l → fr (fun a k => wCP a k ∨ (a = 16 ∧ k = 12)) m0 m → wC m (wB mk po P K s j).2 → m.1 16 12 = iI ((wB mk po P K s j).1 : Nat) → gX2_walkAll_117 E L d vs (iI ((96 + j : Nat) : Int)) m Q := by
  have hll := hg.2.1
  intro r
  induction r with
  | zero =>
    intro j m hj hf hC hZ
    have hjl : j = 4 * l := by omega
    subst hjl
    have v13 : m.1 16 13 = iI (l : Nat) := (hf.i (by unfold wCP; omega)).trans hl0
    refine vX2_walkAll_117 hly hd ?_
    simp (disch := omega) only [forall_eq, true_and, and_true, false_and, and_false, forall_const, true_implies, implies_true, not_true_eq_false, not_false_eq_true, false_implies, if_true, if_false, ↓reduceIte, Int.toNat_natCast, Int.reduceEq, Int.reduceNe, Int.reduceLT, Int.reduceLE, Int.reduceToNat, Int.reduceAdd, Int.reduceSub, Int.reduceMul, Int.reduceNeg, Nat.reduceAdd, Nat.reduceMul, Nat.reduceSub, iI_lit, jI_lit, iI_add, iI_sub, iI_mul, iI_neg, jI_add, jI_sub, jI_mul, jI_neg, nI_i, lN_j, iI_le, iI_lt, iI_eq, jI_le, jI_lt, jI_eq, iI_in, iI_cl, iI_j, jI_i, cN, inN, wI_eq, wI_ne, wJ_1, wJ_eq, wJ_ne, wI_2, wJ_3, iI_div, iI_rem, jI_div, jI_rem, true_or, or_true, false_or, or_false, eq_self, Nat.add_zero, v13]
    exact ⟨fun _ => h m hf hC hZ, fun q => by omega⟩
  | succ r ih =>
    intro j m hj hf hC hZ
    obtain ⟨⟨g1, g2, g3, g4⟩, g5, g6⟩ := wB_I hg hm hcl hK ha j (by omega)
    have hD : dD c l (96 + j) := Or.inr ⟨by omega, by omega⟩
    have hw : wB mk po P K s (j + 1) = if (wB mk po P K s j).2.2.2.2.2 (96 + j) = 1 then wB mk po P K s j else ((wB mk po P K s j).1 + 1, wRun mk po P K (wB mk po P K s j).2 (96 + j) (per (wW mk) P (96 + j))) := rfl
    have v13 : m.1 16 13 = iI (l : Nat) := (hf.i (by unfold wCP; omega)).trans hl0
    have v11 : m.1 16 11 = iI (K : Nat) := (hf.i (by unfold wCP; omega)).trans hK0
    have v19 := hC.2.2.2.2 (96 + j) (by omega)
    have u : ¬ (4 * (24 + (l : Int)) ≤ ((96 + j : Nat) : Int)) := by omega
    have e1 : ((96 + j : Nat) : Int) + 1 = ((96 + (j + 1) : Nat) : Int) := by omega
    have KK := ih (j + 1)
    rw [hw] at KK
    clear ih
    refine vX2_walkAll_117 hly hd ?_
    by_cases hsn : (wB mk po P K s j).2.2.2.2.2 (96 + j) = 1
    · rw [if_pos hsn] at KK
      rw [hsn] at v19
      have v19' : m.1 19 (96 + j) = iI 1 := v19
      simp (disch := omega) only [forall_eq, true_and, and_true, false_and, and_false, forall_const, true_implies, implies_true, not_true_eq_false, not_false_eq_true, false_implies, if_true, if_false, ↓reduceIte, Int.toNat_natCast, Int.reduceEq, Int.reduceNe, Int.reduceLT, Int.reduceLE, Int.reduceToNat, Int.reduceAdd, Int.reduceSub, Int.reduceMul, Int.reduceNeg, Nat.reduceAdd, Nat.reduceMul, Nat.reduceSub, iI_lit, jI_lit, iI_add, iI_sub, iI_mul, iI_neg, jI_add, jI_sub, jI_mul, jI_neg, nI_i, lN_j, iI_le, iI_lt, iI_eq, jI_le, jI_lt, jI_eq, iI_in, iI_cl, iI_j, jI_i, cN, inN, wI_eq, wI_ne, wJ_1, wJ_eq, wJ_ne, wI_2, wJ_3, iI_div, iI_rem, jI_div, jI_rem, true_or, or_true, false_or, or_false, eq_self, Nat.add_zero, v13, u, v19', e1]
      exact ⟨by omega, KK m (by omega) hf hC hZ⟩
    · rw [if_neg hsn] at KK
      have hs0 : (wB mk po P K s j).2.2.2.2.2 (96 + j) = 0 := (g1.1 _).elim id (fun q => absurd q hsn)
      rw [hs0] at v19
      have v19' : m.1 19 (96 + j) = iI 0 := v19
      simp (disch := omega) only [forall_eq, true_and, and_true, false_and, and_false, forall_const, true_implies, implies_true, not_true_eq_false, not_false_eq_true, false_implies, if_true, if_false, ↓reduceIte, Int.toNat_natCast, Int.reduceEq, Int.reduceNe, Int.reduceLT, Int.reduceLE, Int.reduceToNat, Int.reduceAdd, Int.reduceSub, Int.reduceMul, Int.reduceNeg, Nat.reduceAdd, Nat.reduceMul, Nat.reduceSub, iI_lit, jI_lit, iI_add, iI_sub, iI_mul, iI_neg, jI_add, jI_sub, jI_mul, jI_neg, nI_i, lN_j, iI_le, iI_lt, iI_eq, jI_le, jI_lt, jI_eq, iI_in, iI_cl, iI_j, jI_i, cN, inN, wI_eq, wI_ne, wJ_1, wJ_eq, wJ_ne, wI_2, wJ_3, iI_div, iI_rem, jI_div, jI_rem, true_or, or_true, false_or, or_false, eq_self, Nat.add_zero, v13, u, v19', e1]
      refine ⟨by omega, c_walk (K := K) (B := K + 1) hly (by omega) hg g1 g2 hD hs0 (by omega) (by omega) (hf0.fr hf (fun k => ⟨by unfold wCP; omega, by unfold wCP; omega, by unfold wCP; omega⟩)) v11 hC (fun m' k1 k2 => ?_)⟩
      have v12 : m'.1 16 12 = iI ((wB mk po P K s j).1 : Nat) := (k1.i (by unfold wCP; omega)).trans hZ
      simp (disch := omega) only [forall_eq, true_and, and_true, false_and, and_false, forall_const, true_implies, implies_true, not_true_eq_false, not_false_eq_true, false_implies, if_true, if_false, ↓reduceIte, Int.toNat_natCast, Int.reduceEq, Int.reduceNe, Int.reduceLT, Int.reduceLE, Int.reduceToNat, Int.reduceAdd, Int.reduceSub, Int.reduceMul, Int.reduceNeg, Nat.reduceAdd, Nat.reduceMul, Nat.reduceSub, iI_lit, jI_lit, iI_add, iI_sub, iI_mul, iI_neg, jI_add, jI_sub, jI_mul, jI_neg, nI_i, lN_j, iI_le, iI_lt, iI_eq, jI_le, jI_lt, jI_eq, iI_in, iI_cl, iI_j, jI_i, cN, inN, wI_eq, wI_ne, wJ_1, wJ_eq, wJ_ne, wI_2, wJ_3, iI_div, iI_rem, jI_div, jI_rem, true_or, or_true, false_or, or_false, eq_self, Nat.add_zero, v12]
      refine KK _ (by omega) ((hf.tr (k1.mono (fun a k q => Or.inl q))).wI (Or.inr ⟨rfl, rfl⟩)) (k2.fr (Z := fun a k => a = 16 ∧ k = 12) (fr.rf.wI ⟨rfl, rfl⟩) (fun k => by omega)) ?_
      rw [wI_eq rfl rfl]; rfl
theorem c_clear19 {Q : sm_M → Prop} {vs : List Value} (hly : ∀ S, L S → ly S) (hd : 4 ≤ d) (m0 : sm_M) (h : ∀ m', fr (fun a _ => a = 19) m0 m' → (∀ p, p < 192 → m'.1 19 p = iI 0) → gX2_walkAll_39 E L d vs (iI 0) (sm_wI (sm_wI (sm_wI m' 16 11 (iI 0)) 16 12 (iI 0)) 16 15 (iI 0)) Q) :
    ∀ (r j : Nat) (m : sm_M), j + r = 192 → fr (fun a _ => a = 19) m0 m → (∀ p, p < j → m.1 19 p = iI 0) → gX2_walkAll_2 E L d vs (iI (j : Nat)) m Q := by
  intro r
  induction r with
  | zero =>
    intro j m hj hf hz
    have hj2 : j = 192 := by omega
    subst hj2
    have u : (192 : Int) ≤ ((192 : Nat) : Int) := by decide
    refine vX2_walkAll_2 hly hd ?_
    simp (disch := omega) only [forall_eq, true_and, and_true, false_and, and_false, forall_const, true_implies, implies_true, not_true_eq_false, not_false_eq_true, false_implies, if_true, if_false, ↓reduceIte, Int.toNat_natCast, Int.reduceEq, Int.reduceNe, Int.reduceLT, Int.reduceLE, Int.reduceToNat, Int.reduceAdd, Int.reduceSub, Int.reduceMul, Int.reduceNeg, Nat.reduceAdd, Nat.reduceMul, Nat.reduceSub, iI_lit, jI_lit, iI_add, iI_sub, iI_mul, iI_neg, jI_add, jI_sub, jI_mul, jI_neg, nI_i, lN_j, iI_le, iI_lt, iI_eq, jI_le, jI_lt, jI_eq, iI_in, iI_cl, iI_j, jI_i, cN, inN, wI_eq, wI_ne, wJ_1, wJ_eq, wJ_ne, wI_2, wJ_3, iI_div, iI_rem, jI_div, jI_rem, true_or, or_true, false_or, or_false, eq_self, Nat.add_zero, u]
    exact h m hf hz
  | succ r ih =>
    intro j m hj hf hz
    have u : ¬ ((192 : Int) ≤ (j : Int)) := by omega
    refine vX2_walkAll_2 hly hd ?_
    simp (disch := omega) only [forall_eq, true_and, and_true, false_and, and_false, forall_const, true_implies, implies_true, not_true_eq_false, not_false_eq_true, false_implies, if_true, if_false, ↓reduceIte, Int.toNat_natCast, Int.reduceEq, Int.reduceNe, Int.reduceLT, Int.reduceLE, Int.reduceToNat, Int.reduceAdd, Int.reduceSub, Int.reduceMul, Int.reduceNeg, Nat.reduceAdd, Nat.reduceMul, Nat.reduceSub, iI_lit, jI_lit, iI_add, iI_sub, iI_mul, iI_neg, jI_add, jI_sub, jI_mul, jI_neg, nI_i, lN_j, iI_le, iI_lt, iI_eq, jI_le, jI_lt, jI_eq, iI_in, iI_cl, iI_j, jI_i, cN, inN, wI_eq, wI_ne, wJ_1, wJ_eq, wJ_ne, wI_2, wJ_3, iI_div, iI_rem, jI_div, jI_rem, true_or, or_true, false_or, or_false, eq_self, Nat.add_zero, u]
    refine ⟨by omega, ih (j + 1) _ (by omega) (hf.wI rfl) (fun p hp => ?_)⟩
    by_cases hpj : p = j
    · rw [wI_eq rfl hpj]
    · rw [wI_ne (Or.inr hpj)]; exact hz p (by omega)
theorem c_walkAll {Q : sm_M → Prop} {m : sm_M} (hly : ∀ S, L S → ly S) (hd : 4 ≤ d) (hg : gd c l mk po P) (hf : dCf m c l mk po P) (hc10 : m.1 16 10 = iI (c : Nat)) (hl13 : m.1 16 13 = iI (l : Nat)) (h : ∀ m', fr wAP m m' → rC m' c (wA mk po P (2 * c)).1 (wB mk po P (wA mk po P (2 * c)).1 (wA mk po P (2 * c)).2.2 (4 * l)).1 (wA mk po P (2 * c)).2.2.1 po (upN (wA mk po P (2 * c)).2.1 (wA mk po P (2 * c)).1 (wA mk po P (2 * c)).2.2.1) (wA mk po P (2 * c)).2.2.2.1 (wA mk po P (2 * c)).2.2.2.2.1 (wA mk po P (2 * c)).2.2.2.2.2.1 → Q m') : sm_callV E L mX2_walkAll d 0 0 [.ref (sm_B E + 16)] m Q := by
  have hcc := hg.1
  have loop : ∀ (r j : Nat) (m1 : sm_M), j + r = c → fr wAP m m1 → cA m1 (wA mk po P (2 * j)) → m1.1 16 12 = iI 0 → gX2_walkAll_39 E L d [.ref (sm_B E + 16)] (iI (j : Nat)) m1 Q := by
    intro r
    induction r with
    | zero =>
      intro j m1 hj f1 hA z12
      have hjc : j = c := by omega
      subst hjc
      obtain ⟨h1, h2, h3, h4, h5, h6, h7, h8, h9⟩ := wA_I hg (2 * j) (Nat.le_refl _)
      have v10 : m1.1 16 10 = iI (j : Nat) := (f1.i (by unfold wAP wCP; omega)).trans hc10
      have v13 : m1.1 16 13 = iI (l : Nat) := (f1.i (by unfold wAP wCP; omega)).trans hl13
      generalize wA mk po P (2 * j) = A at *
      obtain ⟨a1, a2, a3⟩ := hA
      refine vX2_walkAll_39 hly hd ?_
      simp (disch := omega) only [forall_eq, true_and, and_true, false_and, and_false, forall_const, true_implies, implies_true, not_true_eq_false, not_false_eq_true, false_implies, if_true, if_false, ↓reduceIte, Int.toNat_natCast, Int.reduceEq, Int.reduceNe, Int.reduceLT, Int.reduceLE, Int.reduceToNat, Int.reduceAdd, Int.reduceSub, Int.reduceMul, Int.reduceNeg, Nat.reduceAdd, Nat.reduceMul, Nat.reduceSub, iI_lit, jI_lit, iI_add, iI_sub, iI_mul, iI_neg, jI_add, jI_sub, jI_mul, jI_neg, nI_i, lN_j, iI_le, iI_lt, iI_eq, jI_le, jI_lt, jI_eq, iI_in, iI_cl, iI_j, jI_i, cN, inN, wI_eq, wI_ne, wJ_1, wJ_eq, wJ_ne, wI_2, wJ_3, iI_div, iI_rem, jI_div, jI_rem, true_or, or_true, false_or, or_false, eq_self, Nat.add_zero, v10, a1, a2.1, Int.le_refl]
      refine ⟨by omega, ?_⟩
      have ff : dCf (sm_wI m1 24 A.1 (iI (A.2.2.1 : Nat))) j l mk po P := hf.fr (f1.wI (Or.inr (Or.inl rfl))) (fun k => ⟨by unfold wAP wCP; omega, by unfold wAP wCP; omega, by unfold wAP wCP; omega⟩)
      refine c_circles (K := A.1) (s := A.2.2) hly hd hg h1 h2 (by omega) h4 (sm_wI m1 24 A.1 (iI (A.2.2.1 : Nat))) ff (by simp (disch := omega) only [forall_eq, true_and, and_true, false_and, and_false, forall_const, true_implies, implies_true, not_true_eq_false, not_false_eq_true, false_implies, if_true, if_false, ↓reduceIte, Int.toNat_natCast, Int.reduceEq, Int.reduceNe, Int.reduceLT, Int.reduceLE, Int.reduceToNat, Int.reduceAdd, Int.reduceSub, Int.reduceMul, Int.reduceNeg, Nat.reduceAdd, Nat.reduceMul, Nat.reduceSub, iI_lit, jI_lit, iI_add, iI_sub, iI_mul, iI_neg, jI_add, jI_sub, jI_mul, jI_neg, nI_i, lN_j, iI_le, iI_lt, iI_eq, jI_le, jI_lt, jI_eq, iI_in, iI_cl, iI_j, jI_i, cN, inN, wI_eq, wI_ne, wJ_1, wJ_eq, wJ_ne, wI_2, wJ_3, iI_div, iI_rem, jI_div, jI_rem, true_or, or_true, false_or, or_false, eq_self, Nat.add_zero, a1]) (by simp (disch := omega) only [forall_eq, true_and, and_true, false_and, and_false, forall_const, true_implies, implies_true, not_true_eq_false, not_false_eq_true, false_implies, if_true, if_false, ↓reduceIte, Int.toNat_natCast, Int.reduceEq, Int.reduceNe, Int.reduceLT, Int.reduceLE, Int.reduceToNat, Int.reduceAdd, Int.reduceSub, Int.reduceMul, Int.reduceNeg, Nat.reduceAdd, Nat.reduceMul, Nat.reduceSub, iI_lit, jI_lit, iI_add, iI_sub, iI_mul, iI_neg, jI_add, jI_sub, jI_mul, jI_neg, nI_i, lN_j, iI_le, iI_lt, iI_eq, jI_le, jI_lt, jI_eq, iI_in, iI_cl, iI_j, jI_i, cN, inN, wI_eq, wI_ne, wJ_1, wJ_eq, wJ_ne, wI_2, wJ_3, iI_div, iI_rem, jI_div, jI_rem, true_or, or_true, false_or, or_false, eq_self, Nat.add_zero, v13]) (fun m' k1 k2 k3 => ?_) (4 * l) 0 _ (by omega) fr.rf (a2.fr (Z := fun a _ => a = 24) (fr.rf.wI rfl) (fun k => by omega)) (by simp (disch := omega) only [forall_eq, true_and, and_true, false_and, and_false, forall_const, true_implies, implies_true, not_true_eq_false, not_false_eq_true, false_implies, if_true, if_false, ↓reduceIte, Int.toNat_natCast, Int.reduceEq, Int.reduceNe, Int.reduceLT, Int.reduceLE, Int.reduceToNat, Int.reduceAdd, Int.reduceSub, Int.reduceMul, Int.reduceNeg, Nat.reduceAdd, Nat.reduceMul, Nat.reduceSub, iI_lit, jI_lit, iI_add, iI_sub, iI_mul, iI_neg, jI_add, jI_sub, jI_mul, jI_neg, nI_i, lN_j, iI_le, iI_lt, iI_eq, jI_le, jI_lt, jI_eq, iI_in, iI_cl, iI_j, jI_i, cN, inN, wI_eq, wI_ne, wJ_1, wJ_eq, wJ_ne, wI_2, wJ_3, iI_div, iI_rem, jI_div, jI_rem, true_or, or_true, false_or, or_false, eq_self, Nat.add_zero, z12]; rfl)
      have hB := wB_I hg h1 h2 (by omega) h4 (4 * l) (Nat.le_refl _)
      obtain ⟨-, ⟨b1, b2, b3, b4⟩, -⟩ := hB
      obtain ⟨q1, q2, q3, q4, q5⟩ := k2
      rw [b1] at q1 q2
      rw [b2] at q2
      rw [b3] at q3
      rw [b4] at q4
      refine h m' (((f1.wI (Or.inr (Or.inl rfl))).tr (k1.mono (fun a k q => q.elim (fun q => Or.inl q) (fun q => Or.inr (Or.inr ⟨q.1, Or.inr q.2⟩)))))) ⟨?_, ?_, k3, ?_, ?_, q2, ?_, ?_⟩
      · rw [k1.i (by unfold wCP; omega)]; simp (disch := omega) only [forall_eq, true_and, and_true, false_and, and_false, forall_const, true_implies, implies_true, not_true_eq_false, not_false_eq_true, false_implies, if_true, if_false, ↓reduceIte, Int.toNat_natCast, Int.reduceEq, Int.reduceNe, Int.reduceLT, Int.reduceLE, Int.reduceToNat, Int.reduceAdd, Int.reduceSub, Int.reduceMul, Int.reduceNeg, Nat.reduceAdd, Nat.reduceMul, Nat.reduceSub, iI_lit, jI_lit, iI_add, iI_sub, iI_mul, iI_neg, jI_add, jI_sub, jI_mul, jI_neg, nI_i, lN_j, iI_le, iI_lt, iI_eq, jI_le, jI_lt, jI_eq, iI_in, iI_cl, iI_j, jI_i, cN, inN, wI_eq, wI_ne, wJ_1, wJ_eq, wJ_ne, wI_2, wJ_3, iI_div, iI_rem, jI_div, jI_rem, true_or, or_true, false_or, or_false, eq_self, Nat.add_zero, v10]
      · rw [k1.i (by unfold wCP; omega)]; simp (disch := omega) only [forall_eq, true_and, and_true, false_and, and_false, forall_const, true_implies, implies_true, not_true_eq_false, not_false_eq_true, false_implies, if_true, if_false, ↓reduceIte, Int.toNat_natCast, Int.reduceEq, Int.reduceNe, Int.reduceLT, Int.reduceLE, Int.reduceToNat, Int.reduceAdd, Int.reduceSub, Int.reduceMul, Int.reduceNeg, Nat.reduceAdd, Nat.reduceMul, Nat.reduceSub, iI_lit, jI_lit, iI_add, iI_sub, iI_mul, iI_neg, jI_add, jI_sub, jI_mul, jI_neg, nI_i, lN_j, iI_le, iI_lt, iI_eq, jI_le, jI_lt, jI_eq, iI_in, iI_cl, iI_j, jI_i, cN, inN, wI_eq, wI_ne, wJ_1, wJ_eq, wJ_ne, wI_2, wJ_3, iI_div, iI_rem, jI_div, jI_rem, true_or, or_true, false_or, or_false, eq_self, Nat.add_zero, a1]
      · intro b hb
        rw [k1.i (by unfold wCP; omega)]
        exact ff.2.2 b hb
      · intro i hi
        rw [k1.i (by unfold wCP; omega)]
        exact wI_upN a3 i (by omega)
      · intro k hk
        refine q3 k (fun q => ?_)
        have := (h1.2.2.2.2.2.1 k hk).mp q
        rw [h4 k hk] at this
        exact absurd this (by decide)
      · intro k hk
        refine q4 k (fun q => ?_)
        have := (h1.2.2.2.2.2.2 k hk (h4 k hk)).2
        omega
    | succ r ih =>
      intro j m1 hj f1 hA z12
      have v10 : m1.1 16 10 = iI (c : Nat) := (f1.i (by unfold wAP wCP; omega)).trans hc10
      have ff : dCf m1 c l mk po P := hf.fr f1 (fun k => ⟨by unfold wAP wCP; omega, by unfold wAP wCP; omega, by unfold wAP wCP; omega⟩)
      have v22 := ff.2.2 j (by omega)
      have hpo := hg.2.2.2.2.2 j (by omega)
      have u : ¬ ((c : Int) ≤ (j : Int)) := by omega
      have two : ∀ x0 x1 : Int, x0 = (wEntry po (2 * j) : Nat) → x1 = (wEntry po (2 * j + 1) : Nat) → ∀ s0 s1 : Int, s0 + s1 = x1 → gX2_walkAll_83 E L d [.ref (sm_B E + 16)] (iI (j : Nat)) (iI x0) (iI s0) (iI s1) m1 Q := by
        intro x0 x1 e0 e1 s0 s1 hs
        refine vX2_walkAll_83 hly hd ?_
        rw [iI_add, hs, e0, e1]
        simp (disch := omega) only [forall_eq, true_and, and_true, false_and, and_false, forall_const, true_implies, implies_true, not_true_eq_false, not_false_eq_true, false_implies, if_true, if_false, ↓reduceIte, Int.toNat_natCast, Int.reduceEq, Int.reduceNe, Int.reduceLT, Int.reduceLE, Int.reduceToNat, Int.reduceAdd, Int.reduceSub, Int.reduceMul, Int.reduceNeg, Nat.reduceAdd, Nat.reduceMul, Nat.reduceSub, iI_lit, jI_lit, iI_add, iI_sub, iI_mul, iI_neg, jI_add, jI_sub, jI_mul, jI_neg, nI_i, lN_j, iI_le, iI_lt, iI_eq, jI_le, jI_lt, jI_eq, iI_in, iI_cl, iI_j, jI_i, cN, inN, wI_eq, wI_ne, wJ_1, wJ_eq, wJ_ne, wI_2, wJ_3, iI_div, iI_rem, jI_div, jI_rem, true_or, or_true, false_or, or_false, eq_self, Nat.add_zero]
        refine c_begin hly (by omega) hg (show 2 * j < 2 * c by omega) ff hA (fun m2 k1 k2 => ?_)
        have k1' := k1.mono (fun a k q => wAQ_P q)
        refine c_begin hly (by omega) hg (show 2 * j + 1 < 2 * c by omega) (hf.fr (f1.tr k1') (fun k => ⟨by unfold wAP wCP; omega, by unfold wAP wCP; omega, by unfold wAP wCP; omega⟩)) k2 (fun m3 k3 k4 => ?_)
        refine ih (j + 1) m3 (by omega) ((f1.tr k1').tr (k3.mono (fun a k q => wAQ_P q))) k4 ?_
        rw [k3.i (by unfold wAQ wCP; omega), k1.i (by unfold wAQ wCP; omega)]
        exact z12
      have d1 : (2 * j) / 2 = j := by omega
      have d2 : (2 * j + 1) / 2 = j := by omega
      have d3 : (2 * j) % 2 = 0 := by omega
      have d4 : (2 * j + 1) % 2 = 1 := by omega
      have n0 : wEntry po (2 * j) = 4 * j + (if po j = 1 then 0 else 2) := by
        unfold wEntry
        rw [d1, d3]
        simp
      have n1 : wEntry po (2 * j + 1) = 4 * j + (if po j = 1 then 2 else 0) := by
        unfold wEntry
        rw [d2, d4]
        rcases hpo with q | q <;> simp [q]
      refine vX2_walkAll_39 hly hd ?_
      rcases hpo with q | q
      · rw [q] at v22
        have v22' : m1.1 22 j = iI 0 := v22
        rw [q, if_neg (by decide)] at n0 n1
        simp (disch := omega) only [forall_eq, true_and, and_true, false_and, and_false, forall_const, true_implies, implies_true, not_true_eq_false, not_false_eq_true, false_implies, if_true, if_false, ↓reduceIte, Int.toNat_natCast, Int.reduceEq, Int.reduceNe, Int.reduceLT, Int.reduceLE, Int.reduceToNat, Int.reduceAdd, Int.reduceSub, Int.reduceMul, Int.reduceNeg, Nat.reduceAdd, Nat.reduceMul, Nat.reduceSub, iI_lit, jI_lit, iI_add, iI_sub, iI_mul, iI_neg, jI_add, jI_sub, jI_mul, jI_neg, nI_i, lN_j, iI_le, iI_lt, iI_eq, jI_le, jI_lt, jI_eq, iI_in, iI_cl, iI_j, jI_i, cN, inN, wI_eq, wI_ne, wJ_1, wJ_eq, wJ_ne, wI_2, wJ_3, iI_div, iI_rem, jI_div, jI_rem, true_or, or_true, false_or, or_false, eq_self, Nat.add_zero, v10, u, v22']
        refine ⟨by omega, vX2_walkAll_64 hly hd ?_⟩
        simp (disch := omega) only [forall_eq, true_and, and_true, false_and, and_false, forall_const, true_implies, implies_true, not_true_eq_false, not_false_eq_true, false_implies, if_true, if_false, ↓reduceIte, Int.toNat_natCast, Int.reduceEq, Int.reduceNe, Int.reduceLT, Int.reduceLE, Int.reduceToNat, Int.reduceAdd, Int.reduceSub, Int.reduceMul, Int.reduceNeg, Nat.reduceAdd, Nat.reduceMul, Nat.reduceSub, iI_lit, jI_lit, iI_add, iI_sub, iI_mul, iI_neg, jI_add, jI_sub, jI_mul, jI_neg, nI_i, lN_j, iI_le, iI_lt, iI_eq, jI_le, jI_lt, jI_eq, iI_in, iI_cl, iI_j, jI_i, cN, inN, wI_eq, wI_ne, wJ_1, wJ_eq, wJ_ne, wI_2, wJ_3, iI_div, iI_rem, jI_div, jI_rem, true_or, or_true, false_or, or_false, eq_self, Nat.add_zero, v22']
        exact ⟨by omega, two _ _ (by rw [n0]; omega) rfl _ _ (by rw [n1]; omega)⟩
      · rw [q] at v22
        have v22' : m1.1 22 j = iI 1 := v22
        rw [q, if_pos rfl] at n0 n1
        simp (disch := omega) only [forall_eq, true_and, and_true, false_and, and_false, forall_const, true_implies, implies_true, not_true_eq_false, not_false_eq_true, false_implies, if_true, if_false, ↓reduceIte, Int.toNat_natCast, Int.reduceEq, Int.reduceNe, Int.reduceLT, Int.reduceLE, Int.reduceToNat, Int.reduceAdd, Int.reduceSub, Int.reduceMul, Int.reduceNeg, Nat.reduceAdd, Nat.reduceMul, Nat.reduceSub, iI_lit, jI_lit, iI_add, iI_sub, iI_mul, iI_neg, jI_add, jI_sub, jI_mul, jI_neg, nI_i, lN_j, iI_le, iI_lt, iI_eq, jI_le, jI_lt, jI_eq, iI_in, iI_cl, iI_j, jI_i, cN, inN, wI_eq, wI_ne, wJ_1, wJ_eq, wJ_ne, wI_2, wJ_3, iI_div, iI_rem, jI_div, jI_rem, true_or, or_true, false_or, or_false, eq_self, Nat.add_zero, v10, u, v22']
        refine ⟨by omega, vX2_walkAll_64 hly hd ?_⟩
        simp (disch := omega) only [forall_eq, true_and, and_true, false_and, and_false, forall_const, true_implies, implies_true, not_true_eq_false, not_false_eq_true, false_implies, if_true, if_false, ↓reduceIte, Int.toNat_natCast, Int.reduceEq, Int.reduceNe, Int.reduceLT, Int.reduceLE, Int.reduceToNat, Int.reduceAdd, Int.reduceSub, Int.reduceMul, Int.reduceNeg, Nat.reduceAdd, Nat.reduceMul, Nat.reduceSub, iI_lit, jI_lit, iI_add, iI_sub, iI_mul, iI_neg, jI_add, jI_sub, jI_mul, jI_neg, nI_i, lN_j, iI_le, iI_lt, iI_eq, jI_le, jI_lt, jI_eq, iI_in, iI_cl, iI_j, jI_i, cN, inN, wI_eq, wI_ne, wJ_1, wJ_eq, wJ_ne, wI_2, wJ_3, iI_div, iI_rem, jI_div, jI_rem, true_or, or_true, false_or, or_false, eq_self, Nat.add_zero, v22']
        exact ⟨by omega, two _ _ (by rw [n0]; omega) rfl _ _ (by rw [n1]; omega)⟩
  refine vX2_walkAll_0 hd ?_
  rw [iI_lit]
  refine c_clear19 hly hd m (fun m' k1 k2 => ?_) 192 0 m (by omega) fr.rf (fun p hp => absurd hp (Nat.not_lt_zero _))
  have k1w : fr wAP m m' := k1.mono (fun a k q => Or.inl (Or.inl q))
  refine loop c 0 _ (by omega) (((k1w.wI (Or.inr (Or.inr ⟨rfl, Or.inl rfl⟩))).wI (Or.inr (Or.inr ⟨rfl, Or.inr rfl⟩))).wI (Or.inl (Or.inr (Or.inr (Or.inr (Or.inr ⟨rfl, rfl⟩)))))) ⟨?_, ⟨?_, fun i hi => absurd hi (Nat.not_lt_zero _), fun k hk => absurd rfl hk, fun k hk => absurd rfl hk, fun p hp => ?_⟩, fun i hi => absurd hi (Nat.not_lt_zero _)⟩ ?_
  · simp (disch := omega) only [forall_eq, true_and, and_true, false_and, and_false, forall_const, true_implies, implies_true, not_true_eq_false, not_false_eq_true, false_implies, if_true, if_false, ↓reduceIte, Int.toNat_natCast, Int.reduceEq, Int.reduceNe, Int.reduceLT, Int.reduceLE, Int.reduceToNat, Int.reduceAdd, Int.reduceSub, Int.reduceMul, Int.reduceNeg, Nat.reduceAdd, Nat.reduceMul, Nat.reduceSub, iI_lit, jI_lit, iI_add, iI_sub, iI_mul, iI_neg, jI_add, jI_sub, jI_mul, jI_neg, nI_i, lN_j, iI_le, iI_lt, iI_eq, jI_le, jI_lt, jI_eq, iI_in, iI_cl, iI_j, jI_i, cN, inN, wI_eq, wI_ne, wJ_1, wJ_eq, wJ_ne, wI_2, wJ_3, iI_div, iI_rem, jI_div, jI_rem, true_or, or_true, false_or, or_false, eq_self, Nat.add_zero]
    rfl
  · simp (disch := omega) only [forall_eq, true_and, and_true, false_and, and_false, forall_const, true_implies, implies_true, not_true_eq_false, not_false_eq_true, false_implies, if_true, if_false, ↓reduceIte, Int.toNat_natCast, Int.reduceEq, Int.reduceNe, Int.reduceLT, Int.reduceLE, Int.reduceToNat, Int.reduceAdd, Int.reduceSub, Int.reduceMul, Int.reduceNeg, Nat.reduceAdd, Nat.reduceMul, Nat.reduceSub, iI_lit, jI_lit, iI_add, iI_sub, iI_mul, iI_neg, jI_add, jI_sub, jI_mul, jI_neg, nI_i, lN_j, iI_le, iI_lt, iI_eq, jI_le, jI_lt, jI_eq, iI_in, iI_cl, iI_j, jI_i, cN, inN, wI_eq, wI_ne, wJ_1, wJ_eq, wJ_ne, wI_2, wJ_3, iI_div, iI_rem, jI_div, jI_rem, true_or, or_true, false_or, or_false, eq_self, Nat.add_zero]
    rfl
  · simp (disch := omega) only [forall_eq, true_and, and_true, false_and, and_false, forall_const, true_implies, implies_true, not_true_eq_false, not_false_eq_true, false_implies, if_true, if_false, ↓reduceIte, Int.toNat_natCast, Int.reduceEq, Int.reduceNe, Int.reduceLT, Int.reduceLE, Int.reduceToNat, Int.reduceAdd, Int.reduceSub, Int.reduceMul, Int.reduceNeg, Nat.reduceAdd, Nat.reduceMul, Nat.reduceSub, iI_lit, jI_lit, iI_add, iI_sub, iI_mul, iI_neg, jI_add, jI_sub, jI_mul, jI_neg, nI_i, lN_j, iI_le, iI_lt, iI_eq, jI_le, jI_lt, jI_eq, iI_in, iI_cl, iI_j, jI_i, cN, inN, wI_eq, wI_ne, wJ_1, wJ_eq, wJ_ne, wI_2, wJ_3, iI_div, iI_rem, jI_div, jI_rem, true_or, or_true, false_or, or_false, eq_self, Nat.add_zero]
    exact k2 p hp
  · simp (disch := omega) only [forall_eq, true_and, and_true, false_and, and_false, forall_const, true_implies, implies_true, not_true_eq_false, not_false_eq_true, false_implies, if_true, if_false, ↓reduceIte, Int.toNat_natCast, Int.reduceEq, Int.reduceNe, Int.reduceLT, Int.reduceLE, Int.reduceToNat, Int.reduceAdd, Int.reduceSub, Int.reduceMul, Int.reduceNeg, Nat.reduceAdd, Nat.reduceMul, Nat.reduceSub, iI_lit, jI_lit, iI_add, iI_sub, iI_mul, iI_neg, jI_add, jI_sub, jI_mul, jI_neg, nI_i, lN_j, iI_le, iI_lt, iI_eq, jI_le, jI_lt, jI_eq, iI_in, iI_cl, iI_j, jI_i, cN, inN, wI_eq, wI_ne, wJ_1, wJ_eq, wJ_ne, wI_2, wJ_3, iI_div, iI_rem, jI_div, jI_rem, true_or, or_true, false_or, or_false, eq_self, Nat.add_zero]
end CWL
