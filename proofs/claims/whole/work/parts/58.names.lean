/-! names in both programs: enter, alike -/
noncomputable def NM (t : Nat → Int) (n : Nat) (s : Int) : Int × Int := if s = 0 then nm (Tt t n) (Tb t n) else nm (-(Tb t n)) (Tt t n)
theorem isNm.bd {P Q : Int} (h : isNm P Q) : 0 ≤ P ∧ 0 ≤ Q ∧ (2 ≤ P → 0 < Q ∧ Q < P) ∧ Q ≤ P + 1 := by
  rcases h with ⟨rfl, rfl⟩ | ⟨rfl, rfl⟩ | ⟨h1, h2, h3, -⟩ <;> omega
theorem nm_le (a b : Int) : (nm a b).1 ≤ a.natAbs + 1 := by
  unfold nm
  split
  · omega
  · split
    · show (1 : Int) ≤ _
      omega
    · show (a.natAbs : Int) ≤ _
      omega
theorem nm_fst (a b : Int) : (nm a b).1 = a.natAbs := by
  unfold nm
  by_cases h0 : a = 0
  · rw [if_pos h0, h0]
    rfl
  · rw [if_neg h0]
    by_cases h1 : a.natAbs = 1
    · rw [if_pos h1, h1]
      rfl
    · rw [if_neg h1]
theorem NM_is {t : Nat → Int} {n : Nat} {s : Int} (h : vT t n) (hr : Tr t n = 1) : isNm (NM t n s).1 (NM t n s).2 ∧ (NM t n s).1 ≤ 16777216 := by
  have hg := h.rat hr
  have hb := h.bd
  unfold NM
  split
  · refine ⟨nm_is hg, ?_⟩
    rw [nm_fst]
    omega
  · refine ⟨nm_is (by rw [Int.neg_gcd, Int.gcd_comm]; exact hg), ?_⟩
    rw [nm_fst]
    omega
section NM2
variable {E : sm_E} {L : sm_S → Prop} {d d1 d2 : Nat} {m : sm_M} {c : Nat}
theorem c_nameOf {Q : Int64 → sm_M → Prop} {a : Nat} {t : Nat → Int} {n : Nat} {s : Int} (hT : sm_tan L a 60) (hd : 3 ≤ d) (hv : vT t n) (hr : Tr t n = 1) (hg : tgm m a t n) (hs : s = 0 ∨ s = 1) (h : Q (pk (NM t n s).1 (NM t n s).2) m) : sm_callJ E L mX11_nameOf d 0 0 [.ref (sm_B E + a), .int (iI s)] m Q := by
  have hg1 := hv.rat hr
  have hb := hv.bd
  obtain ⟨y1, y2⟩ := hg.2.2.2.2.2.2 (by omega)
  have hf := f_one hg1
  have hnm := nm_f hg1
  refine vX11_nameOf_0 hd hT ?_
  rw [y1, y2, iI_neg]
  have hgf : Int.gcd (fP (Tt t n) (Tb t n)) (fQ (Tt t n) (Tb t n)) = 1 := by
    rcases hf with ⟨h1, h2⟩ | ⟨h1, h2⟩
    · rw [h1, h2]; exact hg1
    · rw [h1, h2, Int.neg_gcd, Int.gcd_neg]; exact hg1
  rcases hs with rfl | rfl
  · simp (disch := omega) only [forall_eq, true_and, and_true, false_and, and_false, forall_const, true_implies, implies_true, not_true_eq_false, not_false_eq_true, false_implies, if_true, if_false, ↓reduceIte, Int.toNat_natCast, Int.reduceEq, Int.reduceNe, Int.reduceLT, Int.reduceLE, Int.reduceToNat, Int.reduceAdd, Int.reduceSub, Int.reduceMul, Int.reduceNeg, Nat.reduceAdd, Nat.reduceMul, Nat.reduceSub, iI_lit, jI_lit, iI_add, iI_sub, iI_mul, iI_neg, jI_add, jI_sub, jI_mul, jI_neg, nI_i, lN_j, iI_le, iI_lt, iI_eq, jI_le, jI_lt, jI_eq, iI_in, iI_cl, iI_j, jI_i, cN, inN, wI_eq, wI_ne, wJ_1, wJ_eq, wJ_ne, wI_2, wJ_3, iI_div, iI_rem, jI_div, jI_rem, true_or, or_true, false_or, or_false, eq_self, Nat.add_zero]
    refine c_named (by omega) (by omega) (by omega) (by omega) hgf (by omega) ?_
    rw [hnm.1]
    exact h
  · simp (disch := omega) only [forall_eq, true_and, and_true, false_and, and_false, forall_const, true_implies, implies_true, not_true_eq_false, not_false_eq_true, false_implies, if_true, if_false, ↓reduceIte, Int.toNat_natCast, Int.reduceEq, Int.reduceNe, Int.reduceLT, Int.reduceLE, Int.reduceToNat, Int.reduceAdd, Int.reduceSub, Int.reduceMul, Int.reduceNeg, Nat.reduceAdd, Nat.reduceMul, Nat.reduceSub, iI_lit, jI_lit, iI_add, iI_sub, iI_mul, iI_neg, jI_add, jI_sub, jI_mul, jI_neg, nI_i, lN_j, iI_le, iI_lt, iI_eq, jI_le, jI_lt, jI_eq, iI_in, iI_cl, iI_j, jI_i, cN, inN, wI_eq, wI_ne, wJ_1, wJ_eq, wJ_ne, wI_2, wJ_3, iI_div, iI_rem, jI_div, jI_rem, true_or, or_true, false_or, or_false, eq_self, Nat.add_zero]
    refine c_named (by omega) (by omega) (by omega) (by omega) (by rw [Int.neg_gcd, Int.gcd_comm]; exact hgf) (by omega) ?_
    rw [hnm.2]
    exact h
def nbP : Nat → Nat → Prop := fun a k => a = 109 ∧ (k = 60 ∨ k = 61)
theorem c12_namesBy_loop {Q : sm_M → Prop} {vs : List Value} {P r i : Int} (hly : ∀ S, L S → ly S) (hd : 2 ≤ d) (hP : 2 ≤ P) (hP2 : P ≤ 1000000000) (r1 : 0 < r) (r2 : r < P) (hi : isInv P r i) (h : (r ≤ i → Q m) ∧ (i < r → Q (sm_wJ m 109 61 (jI i)))) : ∀ (k : Nat) (v : Int), v + k = min r i → 1 ≤ v → gX12_namesBy_37 E L d vs (jI P) (jI r) (jI v) m Q := by
  have hpos := inv_pos hP (by omega) hi
  have hil := hi.2.1
  intro k
  have step : ∀ v : Int, 1 ≤ v → v < r → ((v * r).tmod P = 1 ↔ v = i) := by
    intro v v1 v2
    have hnn : 0 ≤ v * r := Int.mul_nonneg (by omega) (by omega)
    rw [Int.tmod_eq_emod_of_nonneg hnn]
    constructor
    · intro e
      refine isInv.uniq ⟨by omega, by omega, v * r / P, ?_⟩ hi
      have := Int.emod_add_mul_ediv (v * r) P
      rw [e] at this
      rw [Int.mul_comm _ P]
      exact this.symm
    · intro e
      subst e
      obtain ⟨-, -, c, e⟩ := hi
      rw [e, Int.add_mul_emod_self_right]
      exact Int.emod_eq_of_lt (by decide) (by omega)
  have bnd : ∀ v : Int, 1 ≤ v → v < r → 0 ≤ v * r ∧ v * r ≤ 1000000000000000000 := by
    intro v v1 v2
    refine ⟨Int.mul_nonneg (by omega) (by omega), ?_⟩
    have := Int.mul_le_mul (show v ≤ 1000000000 by omega) (show r ≤ 1000000000 by omega) (by omega) (by decide)
    omega
  induction k with
  | zero =>
    intro v hv v1
    refine vX12_namesBy_37 hly hd ?_
    by_cases hri : r ≤ i
    · have : v = r := by omega
      subst this
      simp (disch := omega) only [forall_eq, true_and, and_true, false_and, and_false, forall_const, true_implies, implies_true, not_true_eq_false, not_false_eq_true, false_implies, if_true, if_false, ↓reduceIte, Int.toNat_natCast, Int.reduceEq, Int.reduceNe, Int.reduceLT, Int.reduceLE, Int.reduceToNat, Int.reduceAdd, Int.reduceSub, Int.reduceMul, Int.reduceNeg, Nat.reduceAdd, Nat.reduceMul, Nat.reduceSub, iI_lit, jI_lit, iI_add, iI_sub, iI_mul, iI_neg, jI_add, jI_sub, jI_mul, jI_neg, nI_i, lN_j, iI_le, iI_lt, iI_eq, jI_le, jI_lt, jI_eq, iI_in, iI_cl, iI_j, jI_i, cN, inN, wI_eq, wI_ne, wJ_1, wJ_eq, wJ_ne, wI_2, wJ_3, iI_div, iI_rem, jI_div, jI_rem, true_or, or_true, false_or, or_false, eq_self, Nat.add_zero]
      exact ⟨fun _ => h.1 hri, fun q => by omega⟩
    · have : v = i := by omega
      subst this
      have hb := bnd v v1 (by omega)
      refine ⟨fun q => ?_, fun _ => ⟨?_, fun q => ?_, fun q m3 e3 => ?_⟩⟩
      · simp (disch := omega) only [forall_eq, true_and, and_true, false_and, and_false, forall_const, true_implies, implies_true, not_true_eq_false, not_false_eq_true, false_implies, if_true, if_false, ↓reduceIte, Int.toNat_natCast, Int.reduceEq, Int.reduceNe, Int.reduceLT, Int.reduceLE, Int.reduceToNat, Int.reduceAdd, Int.reduceSub, Int.reduceMul, Int.reduceNeg, Nat.reduceAdd, Nat.reduceMul, Nat.reduceSub, iI_lit, jI_lit, iI_add, iI_sub, iI_mul, iI_neg, jI_add, jI_sub, jI_mul, jI_neg, nI_i, lN_j, iI_le, iI_lt, iI_eq, jI_le, jI_lt, jI_eq, iI_in, iI_cl, iI_j, jI_i, cN, inN, wI_eq, wI_ne, wJ_1, wJ_eq, wJ_ne, wI_2, wJ_3, iI_div, iI_rem, jI_div, jI_rem, true_or, or_true, false_or, or_false, eq_self, Nat.add_zero] at q
        omega
      · simp (disch := omega) only [forall_eq, true_and, and_true, false_and, and_false, forall_const, true_implies, implies_true, not_true_eq_false, not_false_eq_true, false_implies, if_true, if_false, ↓reduceIte, Int.toNat_natCast, Int.reduceEq, Int.reduceNe, Int.reduceLT, Int.reduceLE, Int.reduceToNat, Int.reduceAdd, Int.reduceSub, Int.reduceMul, Int.reduceNeg, Nat.reduceAdd, Nat.reduceMul, Nat.reduceSub, iI_lit, jI_lit, iI_add, iI_sub, iI_mul, iI_neg, jI_add, jI_sub, jI_mul, jI_neg, nI_i, lN_j, iI_le, iI_lt, iI_eq, jI_le, jI_lt, jI_eq, iI_in, iI_cl, iI_j, jI_i, cN, inN, wI_eq, wI_ne, wJ_1, wJ_eq, wJ_ne, wI_2, wJ_3, iI_div, iI_rem, jI_div, jI_rem, true_or, or_true, false_or, or_false, eq_self, Nat.add_zero]
        omega
      · rw [jI_mul, jI_rem (by omega) (by omega) (by omega) (by omega), (step v v1 (by omega)).mpr rfl] at q
        exact absurd rfl q
      · subst e3
        exact h.2 (by omega)
  | succ k ih =>
    intro v hv v1
    have hb := bnd v v1 (by omega)
    refine vX12_namesBy_37 hly hd ?_
    refine ⟨fun q => ?_, fun _ => ⟨?_, fun q x7 e7 => ?_, fun q => ?_⟩⟩
    · simp (disch := omega) only [forall_eq, true_and, and_true, false_and, and_false, forall_const, true_implies, implies_true, not_true_eq_false, not_false_eq_true, false_implies, if_true, if_false, ↓reduceIte, Int.toNat_natCast, Int.reduceEq, Int.reduceNe, Int.reduceLT, Int.reduceLE, Int.reduceToNat, Int.reduceAdd, Int.reduceSub, Int.reduceMul, Int.reduceNeg, Nat.reduceAdd, Nat.reduceMul, Nat.reduceSub, iI_lit, jI_lit, iI_add, iI_sub, iI_mul, iI_neg, jI_add, jI_sub, jI_mul, jI_neg, nI_i, lN_j, iI_le, iI_lt, iI_eq, jI_le, jI_lt, jI_eq, iI_in, iI_cl, iI_j, jI_i, cN, inN, wI_eq, wI_ne, wJ_1, wJ_eq, wJ_ne, wI_2, wJ_3, iI_div, iI_rem, jI_div, jI_rem, true_or, or_true, false_or, or_false, eq_self, Nat.add_zero] at q
      omega
    · simp (disch := omega) only [forall_eq, true_and, and_true, false_and, and_false, forall_const, true_implies, implies_true, not_true_eq_false, not_false_eq_true, false_implies, if_true, if_false, ↓reduceIte, Int.toNat_natCast, Int.reduceEq, Int.reduceNe, Int.reduceLT, Int.reduceLE, Int.reduceToNat, Int.reduceAdd, Int.reduceSub, Int.reduceMul, Int.reduceNeg, Nat.reduceAdd, Nat.reduceMul, Nat.reduceSub, iI_lit, jI_lit, iI_add, iI_sub, iI_mul, iI_neg, jI_add, jI_sub, jI_mul, jI_neg, nI_i, lN_j, iI_le, iI_lt, iI_eq, jI_le, jI_lt, jI_eq, iI_in, iI_cl, iI_j, jI_i, cN, inN, wI_eq, wI_ne, wJ_1, wJ_eq, wJ_ne, wI_2, wJ_3, iI_div, iI_rem, jI_div, jI_rem, true_or, or_true, false_or, or_false, eq_self, Nat.add_zero]
      omega
    · rw [jI_lit, jI_add] at e7
      subst e7
      exact ih (v + 1) (by omega) (by omega)
    · have ht1 : -1000000000 ≤ (v * r).tmod P ∧ (v * r).tmod P ≤ 1000000000 := by
        rw [Int.tmod_eq_emod_of_nonneg hb.1]
        have := Int.emod_nonneg (v * r) (show P ≠ 0 by omega)
        have := Int.emod_lt_of_pos (v * r) (show 0 < P by omega)
        omega
      rw [jI_mul, jI_rem (by omega) (by omega) (by omega) (by omega), jI_lit, jI_eq (by omega) (by omega) (by omega) (by omega)] at q
      have := (step v v1 (by omega)).mp q
      omega
theorem c12_namesBy {Q : sm_M → Prop} {P q : Int} (hly : ∀ S, L S → ly S) (hd : 2 ≤ d) (hP : 0 ≤ P) (hP2 : P ≤ 1000000000) (q1 : -1000000000 ≤ q) (q2 : q ≤ 1000000000) (hc : 2 ≤ P → cop P q) (h : ∀ m', fr nbP m m' → m'.2.1 109 60 = jI P → m'.2.1 109 61 = jI (if P < 2 then 1 - P else nmB P q) → Q m') : sm_callV E L mX12_namesBy d 0 0 [.ref (sm_B E + 109), .long (jI P), .long (jI q)] m Q := by
  have fw : ∀ (x y : Int64), fr nbP m (sm_wJ (sm_wJ m 109 60 x) 109 61 y) := fun x y => (fr.rf.wJ ⟨rfl, Or.inl rfl⟩).wJ ⟨rfl, Or.inr rfl⟩
  refine vX12_namesBy_0 hly hd ?_
  simp (disch := omega) only [forall_eq, true_and, and_true, false_and, and_false, forall_const, true_implies, implies_true, not_true_eq_false, not_false_eq_true, false_implies, if_true, if_false, ↓reduceIte, Int.toNat_natCast, Int.reduceEq, Int.reduceNe, Int.reduceLT, Int.reduceLE, Int.reduceToNat, Int.reduceAdd, Int.reduceSub, Int.reduceMul, Int.reduceNeg, Nat.reduceAdd, Nat.reduceMul, Nat.reduceSub, iI_lit, jI_lit, iI_add, iI_sub, iI_mul, iI_neg, jI_add, jI_sub, jI_mul, jI_neg, nI_i, lN_j, iI_le, iI_lt, iI_eq, jI_le, jI_lt, jI_eq, iI_in, iI_cl, iI_j, jI_i, cN, inN, wI_eq, wI_ne, wJ_1, wJ_eq, wJ_ne, wI_2, wJ_3, iI_div, iI_rem, jI_div, jI_rem, true_or, or_true, false_or, or_false, eq_self, Nat.add_zero]
  refine ⟨fun h2 => c12_left (by omega) (by omega) (by omega) (by omega) (by omega) ?_, fun h2 => ?_⟩
  · obtain ⟨i, hi⟩ := inv_ex h2 (hc h2)
    have r1 := Int.emod_nonneg q (show P ≠ 0 by omega)
    have r2 := Int.emod_lt_of_pos q (show 0 < P by omega)
    have hpos := inv_pos h2 r1 hi
    have hn := nmB_of hi
    rw [if_neg (by omega), hn] at h
    refine c12_namesBy_loop hly hd h2 hP2 hpos.1 r2 hi ⟨fun hle => ?_, fun hlt => ?_⟩ (min (q % P) i - 1).toNat 1 (by omega) (by omega)
    · refine h _ (fw _ _) ?_ ?_
      · simp (disch := omega) only [forall_eq, true_and, and_true, false_and, and_false, forall_const, true_implies, implies_true, not_true_eq_false, not_false_eq_true, false_implies, if_true, if_false, ↓reduceIte, Int.toNat_natCast, Int.reduceEq, Int.reduceNe, Int.reduceLT, Int.reduceLE, Int.reduceToNat, Int.reduceAdd, Int.reduceSub, Int.reduceMul, Int.reduceNeg, Nat.reduceAdd, Nat.reduceMul, Nat.reduceSub, iI_lit, jI_lit, iI_add, iI_sub, iI_mul, iI_neg, jI_add, jI_sub, jI_mul, jI_neg, nI_i, lN_j, iI_le, iI_lt, iI_eq, jI_le, jI_lt, jI_eq, iI_in, iI_cl, iI_j, jI_i, cN, inN, wI_eq, wI_ne, wJ_1, wJ_eq, wJ_ne, wI_2, wJ_3, iI_div, iI_rem, jI_div, jI_rem, true_or, or_true, false_or, or_false, eq_self, Nat.add_zero]
      · simp (disch := omega) only [forall_eq, true_and, and_true, false_and, and_false, forall_const, true_implies, implies_true, not_true_eq_false, not_false_eq_true, false_implies, if_true, if_false, ↓reduceIte, Int.toNat_natCast, Int.reduceEq, Int.reduceNe, Int.reduceLT, Int.reduceLE, Int.reduceToNat, Int.reduceAdd, Int.reduceSub, Int.reduceMul, Int.reduceNeg, Nat.reduceAdd, Nat.reduceMul, Nat.reduceSub, iI_lit, jI_lit, iI_add, iI_sub, iI_mul, iI_neg, jI_add, jI_sub, jI_mul, jI_neg, nI_i, lN_j, iI_le, iI_lt, iI_eq, jI_le, jI_lt, jI_eq, iI_in, iI_cl, iI_j, jI_i, cN, inN, wI_eq, wI_ne, wJ_1, wJ_eq, wJ_ne, wI_2, wJ_3, iI_div, iI_rem, jI_div, jI_rem, true_or, or_true, false_or, or_false, eq_self, Nat.add_zero]
        rw [show min (q % P) i = q % P by omega]
    · refine h _ ((fw _ _).wJ ⟨rfl, Or.inr rfl⟩) ?_ ?_
      · simp (disch := omega) only [forall_eq, true_and, and_true, false_and, and_false, forall_const, true_implies, implies_true, not_true_eq_false, not_false_eq_true, false_implies, if_true, if_false, ↓reduceIte, Int.toNat_natCast, Int.reduceEq, Int.reduceNe, Int.reduceLT, Int.reduceLE, Int.reduceToNat, Int.reduceAdd, Int.reduceSub, Int.reduceMul, Int.reduceNeg, Nat.reduceAdd, Nat.reduceMul, Nat.reduceSub, iI_lit, jI_lit, iI_add, iI_sub, iI_mul, iI_neg, jI_add, jI_sub, jI_mul, jI_neg, nI_i, lN_j, iI_le, iI_lt, iI_eq, jI_le, jI_lt, jI_eq, iI_in, iI_cl, iI_j, jI_i, cN, inN, wI_eq, wI_ne, wJ_1, wJ_eq, wJ_ne, wI_2, wJ_3, iI_div, iI_rem, jI_div, jI_rem, true_or, or_true, false_or, or_false, eq_self, Nat.add_zero]
      · simp (disch := omega) only [forall_eq, true_and, and_true, false_and, and_false, forall_const, true_implies, implies_true, not_true_eq_false, not_false_eq_true, false_implies, if_true, if_false, ↓reduceIte, Int.toNat_natCast, Int.reduceEq, Int.reduceNe, Int.reduceLT, Int.reduceLE, Int.reduceToNat, Int.reduceAdd, Int.reduceSub, Int.reduceMul, Int.reduceNeg, Nat.reduceAdd, Nat.reduceMul, Nat.reduceSub, iI_lit, jI_lit, iI_add, iI_sub, iI_mul, iI_neg, jI_add, jI_sub, jI_mul, jI_neg, nI_i, lN_j, iI_le, iI_lt, iI_eq, jI_le, jI_lt, jI_eq, iI_in, iI_cl, iI_j, jI_i, cN, inN, wI_eq, wI_ne, wJ_1, wJ_eq, wJ_ne, wI_2, wJ_3, iI_div, iI_rem, jI_div, jI_rem, true_or, or_true, false_or, or_false, eq_self, Nat.add_zero]
        rw [show min (q % P) i = i by omega]
  · rw [if_pos (by omega)] at h
    refine h _ (fw _ _) ?_ ?_
    · simp (disch := omega) only [forall_eq, true_and, and_true, false_and, and_false, forall_const, true_implies, implies_true, not_true_eq_false, not_false_eq_true, false_implies, if_true, if_false, ↓reduceIte, Int.toNat_natCast, Int.reduceEq, Int.reduceNe, Int.reduceLT, Int.reduceLE, Int.reduceToNat, Int.reduceAdd, Int.reduceSub, Int.reduceMul, Int.reduceNeg, Nat.reduceAdd, Nat.reduceMul, Nat.reduceSub, iI_lit, jI_lit, iI_add, iI_sub, iI_mul, iI_neg, jI_add, jI_sub, jI_mul, jI_neg, nI_i, lN_j, iI_le, iI_lt, iI_eq, jI_le, jI_lt, jI_eq, iI_in, iI_cl, iI_j, jI_i, cN, inN, wI_eq, wI_ne, wJ_1, wJ_eq, wJ_ne, wI_2, wJ_3, iI_div, iI_rem, jI_div, jI_rem, true_or, or_true, false_or, or_false, eq_self, Nat.add_zero]
    · simp (disch := omega) only [forall_eq, true_and, and_true, false_and, and_false, forall_const, true_implies, implies_true, not_true_eq_false, not_false_eq_true, false_implies, if_true, if_false, ↓reduceIte, Int.toNat_natCast, Int.reduceEq, Int.reduceNe, Int.reduceLT, Int.reduceLE, Int.reduceToNat, Int.reduceAdd, Int.reduceSub, Int.reduceMul, Int.reduceNeg, Nat.reduceAdd, Nat.reduceMul, Nat.reduceSub, iI_lit, jI_lit, iI_add, iI_sub, iI_mul, iI_neg, jI_add, jI_sub, jI_mul, jI_neg, nI_i, lN_j, iI_le, iI_lt, iI_eq, jI_le, jI_lt, jI_eq, iI_in, iI_cl, iI_j, jI_i, cN, inN, wI_eq, wI_ne, wJ_1, wJ_eq, wJ_ne, wI_2, wJ_3, iI_div, iI_rem, jI_div, jI_rem, true_or, or_true, false_or, or_false, eq_self, Nat.add_zero]
theorem c12_namesFraction {Q : sm_M → Prop} {a b : Int} (hly : ∀ S, L S → ly S) (hd : 3 ≤ d) (a1 : -1000000000 ≤ a) (a2 : a ≤ 1000000000) (b1 : -1000000000 ≤ b) (b2 : b ≤ 1000000000) (hc : Int.gcd a b = 1) (h : ∀ m', fr nbP m m' → m'.2.1 109 60 = jI (nm a b).1 → m'.2.1 109 61 = jI (nm a b).2 → Q m') : sm_callV E L mX12_namesFraction d 0 0 [.ref (sm_B E + 109), .long (jI a), .long (jI b)] m Q := by
  obtain ⟨x, y, e⟩ := gcd_cop hc
  have key : ∀ (P q : Int), P = a.natAbs → q = (if 0 ≤ a then b else -b) → sm_callV E L mX12_namesBy 2 0 0 [.ref (sm_B E + 109), .long (jI P), .long (jI q)] m Q := by
    intro P q hP hq
    have hq1 : -1000000000 ≤ q ∧ q ≤ 1000000000 := by
      rw [hq]
      split <;> omega
    refine c12_namesBy hly (by omega) (by omega) (by omega) hq1.1 hq1.2 (fun _ => ?_) (fun m' f' e1 e2 => h m' f' ?_ ?_)
    · by_cases h2 : 0 ≤ a
      · rw [hP, hq, if_pos h2, show (a.natAbs : Int) = a by omega]
        exact ⟨x, y, e⟩
      · rw [hP, hq, if_neg h2, show (a.natAbs : Int) = -a by omega]
        exact ⟨-x, -y, by grind⟩
    · rw [e1, nm_fst, hP]
    · rw [e2]
      congr 1
      unfold nm
      by_cases h0 : a = 0
      · rw [if_pos h0, if_pos (by omega), hP, h0]
        rfl
      · rw [if_neg h0]
        by_cases h1 : a.natAbs = 1
        · rw [if_pos h1, if_pos (by omega), hP, h1]
          rfl
        · rw [if_neg h1, if_neg (by omega), hP, hq]
  have k13 : ∀ vs (P : Int), P = a.natAbs → gX12_namesFraction_13 E L d vs (jI a) (jI b) (jI P) m Q := by
    intro vs P hP
    refine vX12_namesFraction_13 hly hd ?_
    simp (disch := omega) only [forall_eq, true_and, and_true, false_and, and_false, forall_const, true_implies, implies_true, not_true_eq_false, not_false_eq_true, false_implies, if_true, if_false, ↓reduceIte, Int.toNat_natCast, Int.reduceEq, Int.reduceNe, Int.reduceLT, Int.reduceLE, Int.reduceToNat, Int.reduceAdd, Int.reduceSub, Int.reduceMul, Int.reduceNeg, Nat.reduceAdd, Nat.reduceMul, Nat.reduceSub, iI_lit, jI_lit, iI_add, iI_sub, iI_mul, iI_neg, jI_add, jI_sub, jI_mul, jI_neg, nI_i, lN_j, iI_le, iI_lt, iI_eq, jI_le, jI_lt, jI_eq, iI_in, iI_cl, iI_j, jI_i, cN, inN, wI_eq, wI_ne, wJ_1, wJ_eq, wJ_ne, wI_2, wJ_3, iI_div, iI_rem, jI_div, jI_rem, true_or, or_true, false_or, or_false, eq_self, Nat.add_zero]
    exact ⟨fun q => key P b hP (by rw [if_pos q]), fun q => key P (-b) hP (by rw [if_neg q])⟩
  refine vX12_namesFraction_0 hd ?_
  simp (disch := omega) only [forall_eq, true_and, and_true, false_and, and_false, forall_const, true_implies, implies_true, not_true_eq_false, not_false_eq_true, false_implies, if_true, if_false, ↓reduceIte, Int.toNat_natCast, Int.reduceEq, Int.reduceNe, Int.reduceLT, Int.reduceLE, Int.reduceToNat, Int.reduceAdd, Int.reduceSub, Int.reduceMul, Int.reduceNeg, Nat.reduceAdd, Nat.reduceMul, Nat.reduceSub, iI_lit, jI_lit, iI_add, iI_sub, iI_mul, iI_neg, jI_add, jI_sub, jI_mul, jI_neg, nI_i, lN_j, iI_le, iI_lt, iI_eq, jI_le, jI_lt, jI_eq, iI_in, iI_cl, iI_j, jI_i, cN, inN, wI_eq, wI_ne, wJ_1, wJ_eq, wJ_ne, wI_2, wJ_3, iI_div, iI_rem, jI_div, jI_rem, true_or, or_true, false_or, or_false, eq_self, Nat.add_zero]
  exact ⟨fun q => k13 _ a (by omega), fun q => k13 _ (-a) (by omega)⟩
def nmP : Nat → Nat → Prop := fun a k => frP a k ∨ nbP a k
theorem nmP_sc {a k : Nat} (h : nmP a k) : scM a k := by
  unfold nmP frP mmP nbP at h
  unfold scM
  omega
theorem c12_names {Q : Int32 → sm_M → Prop} {j : Nat} {t : Nat → Int} {n : Nat} {s : Int} (hly : ∀ S, L S → ly S) (hd : 4 ≤ d) (hj : j < 6) (hh : hl m j t n) (hv : vT t n) (hs : s = 0 ∨ s = 1) (h1 : Tr t n = 1 → ∀ m', fr nmP m m' → m'.2.1 109 60 = jI (NM t n s).1 → m'.2.1 109 61 = jI (NM t n s).2 → Q (iI 1) m') (h2 : Tr t n = 0 → ∀ m', fr nmP m m' → Q (iI 0) m') : sm_callI E L mX12_names d 0 0 [.ref (sm_B E + 109), .int (iI (j : Nat)), .int (iI s)] m Q := by
  have hr := ev_01' t n
  have hb := hv.bd
  refine vX12_names_0 hly hd (c12_measured hly (by omega) hh hj hv (fun m1 f1 g1 => ?_))
  obtain ⟨u1, u2, u3, u4, u5, u6⟩ := g1
  rw [u3, u4, u6]
  have f1' : fr nmP m m1 := f1.mono (fun a k h => Or.inl (Or.inl h))
  by_cases hr1 : Tr t n = 1
  · have hg1 := hv.rat hr1
    have k46 : ∀ (vs : List Value) (a b : Int) (m2 : sm_M), Int.gcd a b = 1 → nm a b = NM t n s → a.natAbs + b.natAbs ≤ 16777216 → fr nmP m m2 → (Int.gcd a b ≠ 0 → m2.2.1 109 29 = jI (fP a b) ∧ m2.2.1 109 30 = jI (fQ a b)) → gX12_names_46 E L d vs (iI (if Int.gcd a b = 0 then 0 else 1)) m2 Q := by
      intro vs a b m2 hg hn hb f2 r2
      obtain ⟨e1, e2⟩ := r2 (by omega)
      have hf := f_one hg
      refine vX12_names_46 hly hd ?_
      rw [if_neg (by omega), e1, e2]
      simp (disch := omega) only [forall_eq, true_and, and_true, false_and, and_false, forall_const, true_implies, implies_true, not_true_eq_false, not_false_eq_true, false_implies, if_true, if_false, ↓reduceIte, Int.toNat_natCast, Int.reduceEq, Int.reduceNe, Int.reduceLT, Int.reduceLE, Int.reduceToNat, Int.reduceAdd, Int.reduceSub, Int.reduceMul, Int.reduceNeg, Nat.reduceAdd, Nat.reduceMul, Nat.reduceSub, iI_lit, jI_lit, iI_add, iI_sub, iI_mul, iI_neg, jI_add, jI_sub, jI_mul, jI_neg, nI_i, lN_j, iI_le, iI_lt, iI_eq, jI_le, jI_lt, jI_eq, iI_in, iI_cl, iI_j, jI_i, cN, inN, wI_eq, wI_ne, wJ_1, wJ_eq, wJ_ne, wI_2, wJ_3, iI_div, iI_rem, jI_div, jI_rem, true_or, or_true, false_or, or_false, eq_self, Nat.add_zero]
      refine c12_namesFraction hly (by omega) (by omega) (by omega) (by omega) (by omega) ?_ (fun m3 f3 w1 w2 => h1 hr1 m3 (f2.tr (f3.mono (fun a k h => Or.inr h))) ?_ ?_)
      · rcases hf with ⟨h1, h2⟩ | ⟨h1, h2⟩
        · rw [h1, h2]; exact hg
        · rw [h1, h2, Int.neg_gcd, Int.gcd_neg]; exact hg
      · rw [w1, (nm_f hg).1, hn]
      · rw [w2, (nm_f hg).1, hn]
    rw [hr1]
    rcases hs with rfl | rfl
    · simp (disch := omega) only [forall_eq, true_and, and_true, false_and, and_false, forall_const, true_implies, implies_true, not_true_eq_false, not_false_eq_true, false_implies, if_true, if_false, ↓reduceIte, Int.toNat_natCast, Int.reduceEq, Int.reduceNe, Int.reduceLT, Int.reduceLE, Int.reduceToNat, Int.reduceAdd, Int.reduceSub, Int.reduceMul, Int.reduceNeg, Nat.reduceAdd, Nat.reduceMul, Nat.reduceSub, iI_lit, jI_lit, iI_add, iI_sub, iI_mul, iI_neg, jI_add, jI_sub, jI_mul, jI_neg, nI_i, lN_j, iI_le, iI_lt, iI_eq, jI_le, jI_lt, jI_eq, iI_in, iI_cl, iI_j, jI_i, cN, inN, wI_eq, wI_ne, wJ_1, wJ_eq, wJ_ne, wI_2, wJ_3, iI_div, iI_rem, jI_div, jI_rem, true_or, or_true, false_or, or_false, eq_self, Nat.add_zero]
      exact c12_fractionOf hly (by omega) (by omega) (fun m2 f2 r2 => k46 _ _ _ m2 hg1 rfl hb (f1'.tr (f2.mono (fun a k h => Or.inl (Or.inr h)))) r2)
    · simp (disch := omega) only [forall_eq, true_and, and_true, false_and, and_false, forall_const, true_implies, implies_true, not_true_eq_false, not_false_eq_true, false_implies, if_true, if_false, ↓reduceIte, Int.toNat_natCast, Int.reduceEq, Int.reduceNe, Int.reduceLT, Int.reduceLE, Int.reduceToNat, Int.reduceAdd, Int.reduceSub, Int.reduceMul, Int.reduceNeg, Nat.reduceAdd, Nat.reduceMul, Nat.reduceSub, iI_lit, jI_lit, iI_add, iI_sub, iI_mul, iI_neg, jI_add, jI_sub, jI_mul, jI_neg, nI_i, lN_j, iI_le, iI_lt, iI_eq, jI_le, jI_lt, jI_eq, iI_in, iI_cl, iI_j, jI_i, cN, inN, wI_eq, wI_ne, wJ_1, wJ_eq, wJ_ne, wI_2, wJ_3, iI_div, iI_rem, jI_div, jI_rem, true_or, or_true, false_or, or_false, eq_self, Nat.add_zero]
      have hg2 : Int.gcd (-(Tb t n)) (Tt t n) = 1 := by rw [Int.neg_gcd, Int.gcd_comm]; exact hg1
      exact c12_fractionOf hly (by omega) (by omega) (fun m2 f2 r2 => k46 _ _ _ m2 hg2 rfl (by omega) (f1'.tr (f2.mono (fun a k h => Or.inl (Or.inr h)))) r2)
  · have hr0 : Tr t n = 0 := by omega
    rw [hr0]
    simp (disch := omega) only [forall_eq, true_and, and_true, false_and, and_false, forall_const, true_implies, implies_true, not_true_eq_false, not_false_eq_true, false_implies, if_true, if_false, ↓reduceIte, Int.toNat_natCast, Int.reduceEq, Int.reduceNe, Int.reduceLT, Int.reduceLE, Int.reduceToNat, Int.reduceAdd, Int.reduceSub, Int.reduceMul, Int.reduceNeg, Nat.reduceAdd, Nat.reduceMul, Nat.reduceSub, iI_lit, jI_lit, iI_add, iI_sub, iI_mul, iI_neg, jI_add, jI_sub, jI_mul, jI_neg, nI_i, lN_j, iI_le, iI_lt, iI_eq, jI_le, jI_lt, jI_eq, iI_in, iI_cl, iI_j, jI_i, cN, inN, wI_eq, wI_ne, wJ_1, wJ_eq, wJ_ne, wI_2, wJ_3, iI_div, iI_rem, jI_div, jI_rem, true_or, or_true, false_or, or_false, eq_self, Nat.add_zero]
    exact h2 hr0 m1 f1'
/-! enter -/
theorem c_placeOf {Q : Int32 → sm_M → Prop} {n : Nat} {p q w : Nat → Int} {P R : Int} (hly : ∀ S, L S → ly S) (hd : 1 ≤ d) (hb : bkn c m n p q w) (p1 : 0 ≤ P) (p2 : P ≤ 1000000000) (r1 : 0 ≤ R) (r2 : R ≤ 1000000000) (h1 : ∀ k, k < n → p k = P → q k = R → Q (iI (k : Nat)) m) (h2 : (∀ k, k < n → ¬ (p k = P ∧ q k = R)) → Q (iI (n : Nat)) m) : sm_callI E L mX0_placeOf d 0 0 [.ref (sm_B E + 70), .long (pk P R)] m Q := by
  have hn := hb.1
  have hb2 := hb.2.1
  refine vX0_placeOf_0 hd ?_
  have key : ∀ (r i : Nat), i + r = n → (∀ k, k < i → ¬ (p k = P ∧ q k = R)) → gX0_placeOf_2 E L d [.ref (sm_B E + 70), .long (pk P R)] (pk P R) (iI (i : Nat)) m Q := by
    intro r
    induction r with
    | zero =>
      intro i hi hno
      have : i = n := by omega
      subst this
      refine vX0_placeOf_2 hly hd ?_
      simp (disch := omega) only [forall_eq, true_and, and_true, false_and, and_false, forall_const, true_implies, implies_true, not_true_eq_false, not_false_eq_true, false_implies, if_true, if_false, ↓reduceIte, Int.toNat_natCast, Int.reduceEq, Int.reduceNe, Int.reduceLT, Int.reduceLE, Int.reduceToNat, Int.reduceAdd, Int.reduceSub, Int.reduceMul, Int.reduceNeg, Nat.reduceAdd, Nat.reduceMul, Nat.reduceSub, iI_lit, jI_lit, iI_add, iI_sub, iI_mul, iI_neg, jI_add, jI_sub, jI_mul, jI_neg, nI_i, lN_j, iI_le, iI_lt, iI_eq, jI_le, jI_lt, jI_eq, iI_in, iI_cl, iI_j, jI_i, cN, inN, wI_eq, wI_ne, wJ_1, wJ_eq, wJ_ne, wI_2, wJ_3, iI_div, iI_rem, jI_div, jI_rem, true_or, or_true, false_or, or_false, eq_self, Nat.add_zero, hb2]
      exact ⟨fun _ => h2 hno, fun z => by omega⟩
    | succ r ih =>
      intro i hi hno
      obtain ⟨b, v1, v2, v3, v4, v5⟩ := hb.2.2.2.1 i (by omega)
      have e5 : ((i : Nat) : Int) + 1 = ((i + 1 : Nat) : Int) := by omega
      have hpk := pkv_inj (p := p i) (q := q i) (p' := P) (q' := R) (by omega) (by omega) (by omega) (by omega) p1 p2 r1 r2
      refine vX0_placeOf_2 hly hd ?_
      simp (disch := omega) only [forall_eq, true_and, and_true, false_and, and_false, forall_const, true_implies, implies_true, not_true_eq_false, not_false_eq_true, false_implies, if_true, if_false, ↓reduceIte, Int.toNat_natCast, Int.reduceEq, Int.reduceNe, Int.reduceLT, Int.reduceLE, Int.reduceToNat, Int.reduceAdd, Int.reduceSub, Int.reduceMul, Int.reduceNeg, Nat.reduceAdd, Nat.reduceMul, Nat.reduceSub, iI_lit, jI_lit, iI_add, iI_sub, iI_mul, iI_neg, jI_add, jI_sub, jI_mul, jI_neg, nI_i, lN_j, iI_le, iI_lt, iI_eq, jI_le, jI_lt, jI_eq, iI_in, iI_cl, iI_j, jI_i, cN, inN, wI_eq, wI_ne, wJ_1, wJ_eq, wJ_ne, wI_2, wJ_3, iI_div, iI_rem, jI_div, jI_rem, true_or, or_true, false_or, or_false, eq_self, Nat.add_zero, hb2, v1, e5, hpk]
      refine ⟨fun z => by omega, fun _ => ⟨by omega, fun z => h1 i (by omega) z.1 z.2, fun z => ih (i + 1) (by omega) (fun k hk => ?_)⟩⟩
      by_cases hki : k = i
      · subst hki
        exact z
      · exact hno k (by omega)
  exact key n 0 (by omega) (fun k hk => absurd hk (Nat.not_lt_zero _))
theorem sumI_up (w : Nat → Int) (k n : Nat) (hk : k < n) : sumI (upI w k (w k + 1)) n = sumI w n + 1 := by
  have hlo : ∀ j, j ≤ k → sumI (upI w k (w k + 1)) j = sumI w j := by
    intro j
    induction j with
    | zero => exact fun _ => rfl
    | succ j ih =>
      intro hj
      rw [sumI, sumI, ih (by omega), upI_ne (by omega)]
  have hhi : ∀ r, sumI (upI w k (w k + 1)) (k + 1 + r) = sumI w (k + 1 + r) + 1 := by
    intro r
    induction r with
    | zero =>
      show sumI _ (k + 1) = sumI _ (k + 1) + 1
      rw [sumI, sumI, hlo k (by omega), upI_eq]
      omega
    | succ r ih =>
      rw [show k + 1 + (r + 1) = (k + 1 + r) + 1 by omega, sumI, sumI, ih, upI_ne (by omega)]
      omega
  have := hhi (n - (k + 1))
  rw [show k + 1 + (n - (k + 1)) = n by omega] at this
  exact this
theorem sumI_congr {w v : Nat → Int} {n : Nat} (h : ∀ k, k < n → w k = v k) : sumI w n = sumI v n := by
  induction n with
  | zero => rfl
  | succ n ih => rw [sumI, sumI, ih (fun k hk => h k (by omega)), h n (by omega)]
def bkP (a k : Nat) : Prop := scC a k ∨ scM a k ∨ (a = 70 ∧ (k = 2 ∨ k = 3)) ∨ a = 71 ∨ a = 72 ∨ (a = 109 ∧ k = 15) ∨ (117 ≤ a ∧ a ≤ 119)
theorem Inv.book {c : Nat} {m m' : sm_M} (h : Inv c m) (hc : c + 1 ≤ 1000) (hf : frw bkP m m') (hg : BK (c + 1) m') : Inv (c + 1) m' := by
  obtain ⟨h0, ⟨a1, a2, a3, a4, a5, a6, a7⟩, h9⟩ := h
  refine ⟨hc, ⟨a1.frw hf ?_ ?_, a2.frw hf ?_ ?_ ?_, a3.frw hf ?_, a4.frw hf ?_, hg, a6.frw hf ?_, a7.frw hf ?_⟩, fun k hk => ?_⟩
  · intro a k h1 h2; unfold bkP scC scM; omega
  · intro k; unfold bkP scC scM; omega
  · intro a k h1 h2; unfold bkP scC scM; omega
  · intro k; unfold bkP scC scM; omega
  · unfold bkP scC scM; omega
  · unfold bkP scC scM; omega
  · refine ⟨by unfold bkP scC scM; omega, by unfold bkP scC scM; omega, fun k => ?_⟩; unfold bkP scC scM; omega
  · intro s hs; refine ⟨by unfold bkP scC scM; omega, by unfold bkP scC scM; omega, by unfold bkP scC scM; omega, by unfold bkP scC scM; omega, fun k => ?_⟩; unfold bkP scC scM; omega
  · intro a k h1; unfold bkP scC scM; omega
  · rw [hf.i (by unfold bkP scC scM; omega), hf.i (by unfold bkP scC scM; omega)]
    exact h9 k hk
theorem Inv.up {c c' : Nat} {m : sm_M} (h : Inv c m) (hc : c ≤ c') (hc' : c' ≤ 1000) : Inv c' m := by
  obtain ⟨h0, ⟨a1, a2, a3, a4, a5, a6, a7⟩, h9⟩ := h
  exact ⟨hc', ⟨a1, a2, a3, a4, a5.up hc, a6, a7⟩, h9⟩
end NM2
