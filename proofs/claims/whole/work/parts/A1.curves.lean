/-! the reference walks all -/
def wNP (a k : Nat) : Prop := wMP a k ∨ a = 139 ∨ (a = 109 ∧ (k = 52 ∨ k = 54))
def rM (m : sm_M) (c K Z w : Nat) (po st ps ho ea : Nat → Nat) : Prop := m.1 109 45 = iI (c : Nat) ∧ m.1 109 52 = iI (K : Nat) ∧ m.1 109 54 = iI (Z : Nat) ∧ (∀ b, b < c → m.1 130 b = iI (2 * (po b : Int) - 1)) ∧ (∀ i, i ≤ K → m.1 139 i = iI (st i : Nat)) ∧ (∀ i, i < w → m.1 138 i = iI (ps i : Nat)) ∧ (∀ k, k < 2 * c → m.1 136 k = iI (ho k : Nat)) ∧ ∀ k, k < 2 * c → m.1 137 k = iI (ea k : Nat)
def mA (c l : Nat) (m : sm_M) (A : wAS) : Prop := m.1 109 52 = iI (A.1 : Nat) ∧ wM c l m A.2.2 ∧ ∀ i, i < A.1 → m.1 139 i = iI (A.2.1 i : Nat)
section CUR
variable {E : sm_E} {L : sm_S → Prop} {d : Nat} {c l : Nat} {mk po P : Nat → Nat}
theorem m_circles {Q : sm_M → Prop} {vs : List Value} {K : Nat} {s : wkS} (hly : ∀ S, L S → ly S) (hd : 4 ≤ d) (hg : gd c l mk po P) (hm : mI c l mk po K s) (hcl : wCl c l P s) (hK : K ≤ 48) (ha : ∀ k, k < 2 * c → s.2.2.2.2 (wEntry po k) = 1) (m0 : sm_M) (hf0 : dMf m0 c l mk po P) (hl0 : m0.1 109 46 = iI (l : Nat)) (h : ∀ m', fr (fun a k => a = 140 ∨ (a = 109 ∧ k = 54)) m0 m' → wM c l m' (wB mk po P K s (4 * l)).2 → m'.1 109 54 = iI ((wB mk po P K s (4 * l)).1 : Nat) → Q m') :
    ∀ (r j : Nat) (m : sm_M), j + r = 4 * l → fr (fun a k => a = 140 ∨ (a = 109 ∧ k = 54)) m0 m → wM c l m (wB mk po P K s j).2 → m.1 109 54 = iI ((wB mk po P K s j).1 : Nat) → gX12_curves_194 E L d vs (iI ((96 + j : Nat) : Int)) m Q := by
  have hll := hg.2.1
  intro r
  induction r with
  | zero =>
    intro j m hj hf hC hZ
    have hjl : j = 4 * l := by omega
    subst hjl
    have v46 : m.1 109 46 = iI (l : Nat) := (hf.i (by omega)).trans hl0
    refine vX12_curves_194 hly hd ?_
    simp (disch := omega) only [forall_eq, true_and, and_true, false_and, and_false, forall_const, true_implies, implies_true, not_true_eq_false, not_false_eq_true, false_implies, if_true, if_false, ↓reduceIte, Int.toNat_natCast, Int.reduceEq, Int.reduceNe, Int.reduceLT, Int.reduceLE, Int.reduceToNat, Int.reduceAdd, Int.reduceSub, Int.reduceMul, Int.reduceNeg, Nat.reduceAdd, Nat.reduceMul, Nat.reduceSub, iI_lit, jI_lit, iI_add, iI_sub, iI_mul, iI_neg, jI_add, jI_sub, jI_mul, jI_neg, nI_i, lN_j, iI_le, iI_lt, iI_eq, jI_le, jI_lt, jI_eq, iI_in, iI_cl, iI_j, jI_i, cN, inN, wI_eq, wI_ne, wJ_1, wJ_eq, wJ_ne, wI_2, wJ_3, iI_div, iI_rem, jI_div, jI_rem, true_or, or_true, false_or, or_false, eq_self, Nat.add_zero, v46]
    exact ⟨fun _ => h m hf hC hZ, fun q => by omega⟩
  | succ r ih =>
    intro j m hj hf hC hZ
    obtain ⟨⟨g1, g2, g3, g4⟩, g5, g6⟩ := wB_I hg hm hcl hK ha j (by omega)
    have hD : dD c l (96 + j) := Or.inr ⟨by omega, by omega⟩
    have hw : wB mk po P K s (j + 1) = if (wB mk po P K s j).2.2.2.2.2 (96 + j) = 1 then wB mk po P K s j else ((wB mk po P K s j).1 + 1, wRun mk po P K (wB mk po P K s j).2 (96 + j) (per (wW mk) P (96 + j))) := rfl
    have v46 : m.1 109 46 = iI (l : Nat) := (hf.i (by omega)).trans hl0
    have v140 := hC.2.2.2.2 (96 + j) hD (by omega)
    have u : ¬ (96 + 4 * (l : Int) ≤ ((96 + j : Nat) : Int)) := by omega
    have e1 : ((96 + j : Nat) : Int) + 1 = ((96 + (j + 1) : Nat) : Int) := by omega
    have KK := ih (j + 1)
    rw [hw] at KK
    clear ih
    refine vX12_curves_194 hly hd ?_
    by_cases hsn : (wB mk po P K s j).2.2.2.2.2 (96 + j) = 1
    · rw [if_pos hsn] at KK
      rw [hsn] at v140
      have v140' : m.1 140 (96 + j) = iI 1 := v140
      simp (disch := omega) only [forall_eq, true_and, and_true, false_and, and_false, forall_const, true_implies, implies_true, not_true_eq_false, not_false_eq_true, false_implies, if_true, if_false, ↓reduceIte, Int.toNat_natCast, Int.reduceEq, Int.reduceNe, Int.reduceLT, Int.reduceLE, Int.reduceToNat, Int.reduceAdd, Int.reduceSub, Int.reduceMul, Int.reduceNeg, Nat.reduceAdd, Nat.reduceMul, Nat.reduceSub, iI_lit, jI_lit, iI_add, iI_sub, iI_mul, iI_neg, jI_add, jI_sub, jI_mul, jI_neg, nI_i, lN_j, iI_le, iI_lt, iI_eq, jI_le, jI_lt, jI_eq, iI_in, iI_cl, iI_j, jI_i, cN, inN, wI_eq, wI_ne, wJ_1, wJ_eq, wJ_ne, wI_2, wJ_3, iI_div, iI_rem, jI_div, jI_rem, true_or, or_true, false_or, or_false, eq_self, Nat.add_zero, v46, u, v140', e1]
      exact ⟨by omega, KK m (by omega) hf hC hZ⟩
    · rw [if_neg hsn] at KK
      have hs0 : (wB mk po P K s j).2.2.2.2.2 (96 + j) = 0 := (g1.1 _).elim id (fun q => absurd q hsn)
      rw [hs0] at v140
      have v140' : m.1 140 (96 + j) = iI 0 := v140
      have hr := per_is hg.2.2.1 hD
      have g6' := g6 _ hD hs0
      simp (disch := omega) only [forall_eq, true_and, and_true, false_and, and_false, forall_const, true_implies, implies_true, not_true_eq_false, not_false_eq_true, false_implies, if_true, if_false, ↓reduceIte, Int.toNat_natCast, Int.reduceEq, Int.reduceNe, Int.reduceLT, Int.reduceLE, Int.reduceToNat, Int.reduceAdd, Int.reduceSub, Int.reduceMul, Int.reduceNeg, Nat.reduceAdd, Nat.reduceMul, Nat.reduceSub, iI_lit, jI_lit, iI_add, iI_sub, iI_mul, iI_neg, jI_add, jI_sub, jI_mul, jI_neg, nI_i, lN_j, iI_le, iI_lt, iI_eq, jI_le, jI_lt, jI_eq, iI_in, iI_cl, iI_j, jI_i, cN, inN, wI_eq, wI_ne, wJ_1, wJ_eq, wJ_ne, wI_2, wJ_3, iI_div, iI_rem, jI_div, jI_rem, true_or, or_true, false_or, or_false, eq_self, Nat.add_zero, v46, u, v140', hZ]
      refine ⟨by omega, ?_⟩
      have f1 : fr (fun a k => a = 140 ∨ (a = 109 ∧ k = 54)) m0 (sm_wI m 109 54 (iI (((wB mk po P K s j).1 : Int) + 1))) := hf.wI (Or.inr ⟨rfl, rfl⟩)
      have C1 : wM c l (sm_wI m 109 54 (iI (((wB mk po P K s j).1 : Int) + 1))) (wB mk po P K s j).2 := hC.fr (Z := fun a k => a = 109 ∧ k = 54) (fr.rf.wI ⟨rfl, rfl⟩) (fun k => by omega)
      have Z1 : (sm_wI m 109 54 (iI (((wB mk po P K s j).1 : Int) + 1))).1 109 54 = iI (((wB mk po P K s j).1 + 1 : Nat) : Int) := by rw [wI_eq rfl rfl]; rfl
      have inner : ∀ (r2 i : Nat) (m1 : sm_M), i + r2 = per (wW mk) P (96 + j) → 1 ≤ r2 → fr (fun a k => a = 140 ∨ (a = 109 ∧ k = 54)) m0 m1 → m1.1 109 54 = iI (((wB mk po P K s j).1 + 1 : Nat) : Int) → wM c l m1 (wRun mk po P K (wB mk po P K s j).2 (96 + j) i) → gX12_curves_232 E L d vs (iI ((96 + j : Nat) : Int)) (iI (orb (wW mk) P (96 + j) i : Nat)) m1 Q := by
        intro r2
        induction r2 with
        | zero => intro i m1 _ h0; omega
        | succ r2 ih2 =>
          intro i m1 hi _ hf1 z1 hC1
          have hDi := orb_D hg.2.2.1 hD i
          have hD2 := (hg.2.2.1.2.1 _ hDi).1
          have hD3 := (hg.2.2.1.2.2 _ hD2).1
          have h96 := g6' i
          have hnx : r2 ≠ 0 → orb (wW mk) P (96 + j) (i + 1) ≠ 96 + j := fun q => hr.2.2.2 (i + 1) (by omega) (by omega)
          have hl1 : r2 = 0 → orb (wW mk) P (96 + j) (i + 1) = 96 + j := fun q => by rw [show i + 1 = per (wW mk) P (96 + j) by omega]; exact hr.2.2.1
          have hf2 := hf0.fr hf1 (fun k => by omega)
          have nx := fun (q : r2 ≠ 0) m2 => ih2 (i + 1) m2 (by omega) (by omega)
          have hstep : wRun mk po P K (wB mk po P K s j).2 (96 + j) (i + 1) = wNote mk po K (wRun mk po P K (wB mk po P K s j).2 (96 + j) i) (orb (wW mk) P (96 + j) i) := rfl
          have ho1 : orb (wW mk) P (96 + j) (i + 1) = P (wW mk (orb (wW mk) P (96 + j) i)) := rfl
          rw [hstep, ho1] at nx
          rw [ho1] at hnx hl1
          clear ih2
          have hend : r2 = 0 → ∀ m2, fr (fun a k => a = 140 ∨ (a = 109 ∧ k = 54)) m0 m2 → m2.1 109 54 = iI (((wB mk po P K s j).1 + 1 : Nat) : Int) → wM c l m2 (wNote mk po K (wRun mk po P K (wB mk po P K s j).2 (96 + j) i) (orb (wW mk) P (96 + j) i)) → gX12_curves_194 E L d vs (iI ((96 + (j + 1) : Nat) : Int)) m2 Q := by
            intro q m2 q1 q2 q3
            rw [← hstep, show i + 1 = per (wW mk) P (96 + j) by omega] at q3
            exact KK m2 (by omega) q1 q3 q2
          generalize wRun mk po P K (wB mk po P K s j).2 (96 + j) i = s1 at *
          generalize orb (wW mk) P (96 + j) i = p at *
          have hp192 := hg.2.2.1.1 _ hDi
          have hq192 := hg.2.2.1.1 _ hD2
          have hz192 := hg.2.2.1.1 _ hD3
          have v129 := hf2.2.1 p hDi
          have v128 := hf2.1 _ hD2
          have f3 : fr (fun a k => a = 140 ∨ (a = 109 ∧ k = 54)) m0 (sm_wI (sm_wI m1 140 p (iI 1)) 140 (wW mk p) (iI 1)) := (hf1.wI (Or.inl rfl)).wI (Or.inl rfl)
          have z3 : (sm_wI (sm_wI m1 140 p (iI 1)) 140 (wW mk p) (iI 1)).1 109 54 = iI (((wB mk po P K s j).1 + 1 : Nat) : Int) := by rw [wI_oth (by decide), wI_oth (by decide)]; exact z1
          have C3 := hC1.noteL (mk := mk) (po := po) (K := K) h96
          refine vX12_curves_232 hly hd ?_
          simp (disch := omega) only [forall_eq, true_and, and_true, false_and, and_false, forall_const, true_implies, implies_true, not_true_eq_false, not_false_eq_true, false_implies, if_true, if_false, ↓reduceIte, Int.toNat_natCast, Int.reduceEq, Int.reduceNe, Int.reduceLT, Int.reduceLE, Int.reduceToNat, Int.reduceAdd, Int.reduceSub, Int.reduceMul, Int.reduceNeg, Nat.reduceAdd, Nat.reduceMul, Nat.reduceSub, iI_lit, jI_lit, iI_add, iI_sub, iI_mul, iI_neg, jI_add, jI_sub, jI_mul, jI_neg, nI_i, lN_j, iI_le, iI_lt, iI_eq, jI_le, jI_lt, jI_eq, iI_in, iI_cl, iI_j, jI_i, cN, inN, wI_eq, wI_ne, wJ_1, wJ_eq, wJ_ne, wI_2, wJ_3, iI_div, iI_rem, jI_div, jI_rem, true_or, or_true, false_or, or_false, eq_self, Nat.add_zero, v129, v128, e1]
          refine ⟨by omega, by omega, by omega, by omega, by omega, fun q => ?_, fun q => ?_⟩
          · by_cases hr0 : r2 = 0
            · exact absurd (congrArg (fun n : Nat => (n : Int)) (hl1 hr0)) q
            · exact nx hr0 _ f3 z3 C3
          · by_cases hr0 : r2 = 0
            · exact hend hr0 _ f3 z3 C3
            · exact absurd (by omega) (hnx hr0)
      exact inner (per (wW mk) P (96 + j)) 0 _ (by omega) hr.1 f1 Z1 C1
theorem m_begin {Q : sm_M → Prop} {vs : List Value} {m : sm_M} {k : Nat} (hly : ∀ S, L S → ly S) (hd : 4 ≤ d) (hg : gd c l mk po P) (hk : k < 2 * c) (hc45 : m.1 109 45 = iI (c : Nat)) (hf : dMf m c l mk po P) (hA : mA c l m (wA mk po P k)) (h : ∀ m', fr (fun a k => wMP a k ∨ a = 139 ∨ (a = 109 ∧ k = 52)) m m' → mA c l m' (wA mk po P (k + 1)) → gX12_curves_70 E L d vs (iI ((k + 1 : Nat) : Int)) m' Q) : gX12_curves_70 E L d vs (iI (k : Nat)) m Q := by
  obtain ⟨h1, h2, h3, h4, h5, h6, h7, h8, h9⟩ := wA_I hg k (by omega)
  obtain ⟨e1, e2, e3⟩ := entry_lt hg hk
  have hw : wA mk po P (k + 1) = if (wA mk po P k).2.2.2.2.2.2 (wEntry po k) = 1 then wA mk po P k else ((wA mk po P k).1 + 1, upN (wA mk po P k).2.1 (wA mk po P k).1 (wA mk po P k).2.2.1, wRun mk po P (wA mk po P k).1 (wA mk po P k).2.2 (wEntry po k) (per (wW mk) P (wEntry po k))) := rfl
  rw [hw] at h
  have hc := hg.1
  generalize wA mk po P k = A at *
  obtain ⟨a1, a2, a3⟩ := hA
  have v136 := a2.2.2.1 k hk
  have u : ¬ (2 * (c : Int) ≤ (k : Int)) := by omega
  have ek : (k : Int) + 1 = ((k + 1 : Nat) : Int) := by omega
  by_cases hsn : A.2.2.2.2.2.2 (wEntry po k) = 1
  · rw [if_pos hsn] at h
    have hne : A.2.2.2.2.1 k ≠ 999 := fun q => by
      have := (h1.2.2.2.2.2.1 k hk).mp q
      omega
    rw [if_neg hne] at v136
    have hlt := (h1.2.2.2.2.2.2 k hk hsn).1
    have u2 : ¬ ((A.2.2.2.2.1 k : Int) < 0) := by omega
    refine vX12_curves_70 hly hd ?_
    simp (disch := omega) only [forall_eq, true_and, and_true, false_and, and_false, forall_const, true_implies, implies_true, not_true_eq_false, not_false_eq_true, false_implies, if_true, if_false, ↓reduceIte, Int.toNat_natCast, Int.reduceEq, Int.reduceNe, Int.reduceLT, Int.reduceLE, Int.reduceToNat, Int.reduceAdd, Int.reduceSub, Int.reduceMul, Int.reduceNeg, Nat.reduceAdd, Nat.reduceMul, Nat.reduceSub, iI_lit, jI_lit, iI_add, iI_sub, iI_mul, iI_neg, jI_add, jI_sub, jI_mul, jI_neg, nI_i, lN_j, iI_le, iI_lt, iI_eq, jI_le, jI_lt, jI_eq, iI_in, iI_cl, iI_j, jI_i, cN, inN, wI_eq, wI_ne, wJ_1, wJ_eq, wJ_ne, wI_2, wJ_3, iI_div, iI_rem, jI_div, jI_rem, true_or, or_true, false_or, or_false, eq_self, Nat.add_zero, hc45, u, v136, u2, ek]
    exact ⟨by omega, h m fr.rf ⟨a1, a2, a3⟩⟩
  · rw [if_neg hsn] at h
    have hs0 : A.2.2.2.2.2.2 (wEntry po k) = 0 := (h1.1 _).elim id (fun q => absurd q hsn)
    rw [if_pos ((h1.2.2.2.2.2.1 k hk).mpr hs0)] at v136
    have v130 := hf.2.2 (k / 2) (by omega)
    have hpo := hg.2.2.2.2.2 (k / 2) (by omega)
    have d2 : (k : Int).tdiv 2 = ((k / 2 : Nat) : Int) := rfl
    have r2 : (k : Int).tmod 2 = ((k % 2 : Nat) : Int) := rfl
    have f0 : fr (fun a k => wMP a k ∨ a = 139 ∨ (a = 109 ∧ k = 52)) m (sm_wI m 139 A.1 (iI (A.2.2.1 : Nat))) := fr.rf.wI (Or.inr (Or.inl rfl))
    have hx := h1.walked
    have go158 : ∀ s1 s2 : Int, s1 + s2 = (wEntry po k : Nat) → gX12_curves_158 E L d vs (iI (k : Nat)) (iI s1) (iI s2) (sm_wI m 139 A.1 (iI (A.2.2.1 : Nat))) Q := by
      intro s1 s2 hs
      refine vX12_curves_158 hly hd ?_
      rw [iI_add, hs]
      refine c12_goes (K := A.1) (B := A.1 + 1) hly (by omega) hg (h1.le (by omega)) h2 e2 e3 hs0 (by omega) (by omega) (hf.fr (Z := fun a _ => a = 139) (fr.rf.wI rfl) (fun k => by omega)) (by simp (disch := omega) only [forall_eq, true_and, and_true, false_and, and_false, forall_const, true_implies, implies_true, not_true_eq_false, not_false_eq_true, false_implies, if_true, if_false, ↓reduceIte, Int.toNat_natCast, Int.reduceEq, Int.reduceNe, Int.reduceLT, Int.reduceLE, Int.reduceToNat, Int.reduceAdd, Int.reduceSub, Int.reduceMul, Int.reduceNeg, Nat.reduceAdd, Nat.reduceMul, Nat.reduceSub, iI_lit, jI_lit, iI_add, iI_sub, iI_mul, iI_neg, jI_add, jI_sub, jI_mul, jI_neg, nI_i, lN_j, iI_le, iI_lt, iI_eq, jI_le, jI_lt, jI_eq, iI_in, iI_cl, iI_j, jI_i, cN, inN, wI_eq, wI_ne, wJ_1, wJ_eq, wJ_ne, wI_2, wJ_3, iI_div, iI_rem, jI_div, jI_rem, true_or, or_true, false_or, or_false, eq_self, Nat.add_zero, a1]) (a2.fr (Z := fun a _ => a = 139) (fr.rf.wI rfl) (fun k => by omega)) (fun m' g1 g2 => ?_)
      have v52 : m'.1 109 52 = iI (A.1 : Nat) := by rw [g1.i (by unfold wMP; omega)]; simp (disch := omega) only [forall_eq, true_and, and_true, false_and, and_false, forall_const, true_implies, implies_true, not_true_eq_false, not_false_eq_true, false_implies, if_true, if_false, ↓reduceIte, Int.toNat_natCast, Int.reduceEq, Int.reduceNe, Int.reduceLT, Int.reduceLE, Int.reduceToNat, Int.reduceAdd, Int.reduceSub, Int.reduceMul, Int.reduceNeg, Nat.reduceAdd, Nat.reduceMul, Nat.reduceSub, iI_lit, jI_lit, iI_add, iI_sub, iI_mul, iI_neg, jI_add, jI_sub, jI_mul, jI_neg, nI_i, lN_j, iI_le, iI_lt, iI_eq, jI_le, jI_lt, jI_eq, iI_in, iI_cl, iI_j, jI_i, cN, inN, wI_eq, wI_ne, wJ_1, wJ_eq, wJ_ne, wI_2, wJ_3, iI_div, iI_rem, jI_div, jI_rem, true_or, or_true, false_or, or_false, eq_self, Nat.add_zero, a1]
      simp (disch := omega) only [forall_eq, true_and, and_true, false_and, and_false, forall_const, true_implies, implies_true, not_true_eq_false, not_false_eq_true, false_implies, if_true, if_false, ↓reduceIte, Int.toNat_natCast, Int.reduceEq, Int.reduceNe, Int.reduceLT, Int.reduceLE, Int.reduceToNat, Int.reduceAdd, Int.reduceSub, Int.reduceMul, Int.reduceNeg, Nat.reduceAdd, Nat.reduceMul, Nat.reduceSub, iI_lit, jI_lit, iI_add, iI_sub, iI_mul, iI_neg, jI_add, jI_sub, jI_mul, jI_neg, nI_i, lN_j, iI_le, iI_lt, iI_eq, jI_le, jI_lt, jI_eq, iI_in, iI_cl, iI_j, jI_i, cN, inN, wI_eq, wI_ne, wJ_1, wJ_eq, wJ_ne, wI_2, wJ_3, iI_div, iI_rem, jI_div, jI_rem, true_or, or_true, false_or, or_false, eq_self, Nat.add_zero, v52, ek]
      refine h _ ((f0.tr (g1.mono (fun a k q => Or.inl q))).wI (Or.inr (Or.inr ⟨rfl, rfl⟩))) ⟨?_, g2.fr (Z := fun a k => a = 109 ∧ k = 52) (fr.rf.wI ⟨rfl, rfl⟩) (fun k => by omega), fun i hi => ?_⟩
      · rw [wI_eq rfl rfl]; rfl
      · have hi2 : i < A.1 + 1 := hi
        rw [wI_oth (by decide), g1.i (by unfold wMP; omega)]
        exact wI_upN a3 i hi2
    have go127 : ∀ f : Int, (f = 0 ∨ f = 1) → (f = 1 ↔ (k % 2 = 0 ↔ po (k / 2) = 1)) → gX12_curves_127 E L d vs (iI (k : Nat)) (iI f) m Q := by
      intro f hf1 hf2
      refine vX12_curves_127 hly hd ?_
      simp (disch := omega) only [forall_eq, true_and, and_true, false_and, and_false, forall_const, true_implies, implies_true, not_true_eq_false, not_false_eq_true, false_implies, if_true, if_false, ↓reduceIte, Int.toNat_natCast, Int.reduceEq, Int.reduceNe, Int.reduceLT, Int.reduceLE, Int.reduceToNat, Int.reduceAdd, Int.reduceSub, Int.reduceMul, Int.reduceNeg, Nat.reduceAdd, Nat.reduceMul, Nat.reduceSub, iI_lit, jI_lit, iI_add, iI_sub, iI_mul, iI_neg, jI_add, jI_sub, jI_mul, jI_neg, nI_i, lN_j, iI_le, iI_lt, iI_eq, jI_le, jI_lt, jI_eq, iI_in, iI_cl, iI_j, jI_i, cN, inN, wI_eq, wI_ne, wJ_1, wJ_eq, wJ_ne, wI_2, wJ_3, iI_div, iI_rem, jI_div, jI_rem, true_or, or_true, false_or, or_false, eq_self, Nat.add_zero, a1, a2.1, d2]
      refine ⟨by omega, fun q => go158 _ _ ?_, fun q => go158 _ _ ?_⟩
      · unfold wEntry; rw [if_neg (by omega)]; omega
      · unfold wEntry; rw [if_pos (by omega)]; omega
    have go103 : ∀ f : Int, (f = 0 ∨ f = 1) → (f = 1 ↔ k % 2 = 0) → gX12_curves_103 E L d vs (iI (k : Nat)) (iI f) m Q := by
      intro f hf1 hf2
      refine vX12_curves_103 hly hd ?_
      simp (disch := omega) only [forall_eq, true_and, and_true, false_and, and_false, forall_const, true_implies, implies_true, not_true_eq_false, not_false_eq_true, false_implies, if_true, if_false, ↓reduceIte, Int.toNat_natCast, Int.reduceEq, Int.reduceNe, Int.reduceLT, Int.reduceLE, Int.reduceToNat, Int.reduceAdd, Int.reduceSub, Int.reduceMul, Int.reduceNeg, Nat.reduceAdd, Nat.reduceMul, Nat.reduceSub, iI_lit, jI_lit, iI_add, iI_sub, iI_mul, iI_neg, jI_add, jI_sub, jI_mul, jI_neg, nI_i, lN_j, iI_le, iI_lt, iI_eq, jI_le, jI_lt, jI_eq, iI_in, iI_cl, iI_j, jI_i, cN, inN, wI_eq, wI_ne, wJ_1, wJ_eq, wJ_ne, wI_2, wJ_3, iI_div, iI_rem, jI_div, jI_rem, true_or, or_true, false_or, or_false, eq_self, Nat.add_zero, d2, v130]
      exact ⟨by omega, fun q => ⟨fun q2 => go127 0 (by omega) (by omega), fun q2 => go127 1 (by omega) (by omega)⟩, fun q => ⟨fun q2 => go127 0 (by omega) (by omega), fun q2 => go127 1 (by omega) (by omega)⟩⟩
    refine vX12_curves_70 hly hd ?_
    simp (disch := omega) only [forall_eq, true_and, and_true, false_and, and_false, forall_const, true_implies, implies_true, not_true_eq_false, not_false_eq_true, false_implies, if_true, if_false, ↓reduceIte, Int.toNat_natCast, Int.reduceEq, Int.reduceNe, Int.reduceLT, Int.reduceLE, Int.reduceToNat, Int.reduceAdd, Int.reduceSub, Int.reduceMul, Int.reduceNeg, Nat.reduceAdd, Nat.reduceMul, Nat.reduceSub, iI_lit, jI_lit, iI_add, iI_sub, iI_mul, iI_neg, jI_add, jI_sub, jI_mul, jI_neg, nI_i, lN_j, iI_le, iI_lt, iI_eq, jI_le, jI_lt, jI_eq, iI_in, iI_cl, iI_j, jI_i, cN, inN, wI_eq, wI_ne, wJ_1, wJ_eq, wJ_ne, wI_2, wJ_3, iI_div, iI_rem, jI_div, jI_rem, true_or, or_true, false_or, or_false, eq_self, Nat.add_zero, hc45, u, v136, r2]
    exact ⟨by omega, fun q => go103 0 (by omega) (by omega), fun q => go103 1 (by omega) (by omega)⟩
theorem m_clear140 {Q : sm_M → Prop} {vs : List Value} (hly : ∀ S, L S → ly S) (hd : 4 ≤ d) (m0 : sm_M) (h : ∀ m', fr (fun a _ => a = 140) m0 m' → (∀ p, p < 192 → m'.1 140 p = iI 0) → gX12_curves_45 E L d vs (iI 0) m' Q) :
    ∀ (r j : Nat) (m : sm_M), j + r = 192 → fr (fun a _ => a = 140) m0 m → (∀ p, p < j → m.1 140 p = iI 0) → gX12_curves_23 E L d vs (iI (j : Nat)) m Q := by
  intro r
  induction r with
  | zero =>
    intro j m hj hf hz
    have hj2 : j = 192 := by omega
    subst hj2
    have u : (192 : Int) ≤ ((192 : Nat) : Int) := by decide
    refine vX12_curves_23 hly hd ?_
    simp (disch := omega) only [forall_eq, true_and, and_true, false_and, and_false, forall_const, true_implies, implies_true, not_true_eq_false, not_false_eq_true, false_implies, if_true, if_false, ↓reduceIte, Int.toNat_natCast, Int.reduceEq, Int.reduceNe, Int.reduceLT, Int.reduceLE, Int.reduceToNat, Int.reduceAdd, Int.reduceSub, Int.reduceMul, Int.reduceNeg, Nat.reduceAdd, Nat.reduceMul, Nat.reduceSub, iI_lit, jI_lit, iI_add, iI_sub, iI_mul, iI_neg, jI_add, jI_sub, jI_mul, jI_neg, nI_i, lN_j, iI_le, iI_lt, iI_eq, jI_le, jI_lt, jI_eq, iI_in, iI_cl, iI_j, jI_i, cN, inN, wI_eq, wI_ne, wJ_1, wJ_eq, wJ_ne, wI_2, wJ_3, iI_div, iI_rem, jI_div, jI_rem, true_or, or_true, false_or, or_false, eq_self, Nat.add_zero, u]
    exact h m hf hz
  | succ r ih =>
    intro j m hj hf hz
    have u : ¬ ((192 : Int) ≤ (j : Int)) := by omega
    refine vX12_curves_23 hly hd ?_
    simp (disch := omega) only [forall_eq, true_and, and_true, false_and, and_false, forall_const, true_implies, implies_true, not_true_eq_false, not_false_eq_true, false_implies, if_true, if_false, ↓reduceIte, Int.toNat_natCast, Int.reduceEq, Int.reduceNe, Int.reduceLT, Int.reduceLE, Int.reduceToNat, Int.reduceAdd, Int.reduceSub, Int.reduceMul, Int.reduceNeg, Nat.reduceAdd, Nat.reduceMul, Nat.reduceSub, iI_lit, jI_lit, iI_add, iI_sub, iI_mul, iI_neg, jI_add, jI_sub, jI_mul, jI_neg, nI_i, lN_j, iI_le, iI_lt, iI_eq, jI_le, jI_lt, jI_eq, iI_in, iI_cl, iI_j, jI_i, cN, inN, wI_eq, wI_ne, wJ_1, wJ_eq, wJ_ne, wI_2, wJ_3, iI_div, iI_rem, jI_div, jI_rem, true_or, or_true, false_or, or_false, eq_self, Nat.add_zero, u]
    refine ⟨by omega, ih (j + 1) _ (by omega) (hf.wI rfl) (fun p hp => ?_)⟩
    by_cases hpj : p = j
    · rw [wI_eq rfl hpj]
    · rw [wI_ne (Or.inr hpj)]; exact hz p (by omega)
theorem m_clear136 {Q : sm_M → Prop} {vs : List Value} (hly : ∀ S, L S → ly S) (hd : 4 ≤ d) (hc : c ≤ 24) (m0 : sm_M) (h0 : m0.1 109 45 = iI (c : Nat)) (h : ∀ m', fr (fun a _ => a = 136) m0 m' → (∀ p, p < 2 * c → m'.1 136 p = iI (-1)) → gX12_curves_70 E L d vs (iI 0) m' Q) :
    ∀ (r j : Nat) (m : sm_M), j + r = 2 * c → fr (fun a _ => a = 136) m0 m → (∀ p, p < j → m.1 136 p = iI (-1)) → gX12_curves_45 E L d vs (iI (j : Nat)) m Q := by
  intro r
  induction r with
  | zero =>
    intro j m hj hf hz
    have v45 : m.1 109 45 = iI (c : Nat) := (hf.i (by omega)).trans h0
    refine vX12_curves_45 hly hd ?_
    simp (disch := omega) only [forall_eq, true_and, and_true, false_and, and_false, forall_const, true_implies, implies_true, not_true_eq_false, not_false_eq_true, false_implies, if_true, if_false, ↓reduceIte, Int.toNat_natCast, Int.reduceEq, Int.reduceNe, Int.reduceLT, Int.reduceLE, Int.reduceToNat, Int.reduceAdd, Int.reduceSub, Int.reduceMul, Int.reduceNeg, Nat.reduceAdd, Nat.reduceMul, Nat.reduceSub, iI_lit, jI_lit, iI_add, iI_sub, iI_mul, iI_neg, jI_add, jI_sub, jI_mul, jI_neg, nI_i, lN_j, iI_le, iI_lt, iI_eq, jI_le, jI_lt, jI_eq, iI_in, iI_cl, iI_j, jI_i, cN, inN, wI_eq, wI_ne, wJ_1, wJ_eq, wJ_ne, wI_2, wJ_3, iI_div, iI_rem, jI_div, jI_rem, true_or, or_true, false_or, or_false, eq_self, Nat.add_zero, v45]
    exact ⟨fun _ => h m hf (fun p hp => hz p (by omega)), fun q => by omega⟩
  | succ r ih =>
    intro j m hj hf hz
    have v45 : m.1 109 45 = iI (c : Nat) := (hf.i (by omega)).trans h0
    have u : ¬ (2 * (c : Int) ≤ (j : Int)) := by omega
    refine vX12_curves_45 hly hd ?_
    simp (disch := omega) only [forall_eq, true_and, and_true, false_and, and_false, forall_const, true_implies, implies_true, not_true_eq_false, not_false_eq_true, false_implies, if_true, if_false, ↓reduceIte, Int.toNat_natCast, Int.reduceEq, Int.reduceNe, Int.reduceLT, Int.reduceLE, Int.reduceToNat, Int.reduceAdd, Int.reduceSub, Int.reduceMul, Int.reduceNeg, Nat.reduceAdd, Nat.reduceMul, Nat.reduceSub, iI_lit, jI_lit, iI_add, iI_sub, iI_mul, iI_neg, jI_add, jI_sub, jI_mul, jI_neg, nI_i, lN_j, iI_le, iI_lt, iI_eq, jI_le, jI_lt, jI_eq, iI_in, iI_cl, iI_j, jI_i, cN, inN, wI_eq, wI_ne, wJ_1, wJ_eq, wJ_ne, wI_2, wJ_3, iI_div, iI_rem, jI_div, jI_rem, true_or, or_true, false_or, or_false, eq_self, Nat.add_zero, v45, u]
    refine ⟨by omega, ih (j + 1) _ (by omega) (hf.wI rfl) (fun p hp => ?_)⟩
    by_cases hpj : p = j
    · rw [wI_eq rfl hpj]
    · rw [wI_ne (Or.inr hpj)]; exact hz p (by omega)
end CUR
