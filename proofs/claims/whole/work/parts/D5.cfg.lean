/-! the class: the first good place, the least number -/
def gdd (f ch : Nat) (P R : Int) (k : Nat) : Prop := 1 ≤ ch ∧ lss P R k ∧ unl f (nxt P R k).1 (nxt P R k).2 + 1 ≤ (ch : Int)
def rwP (ch a _k : Nat) : Prop := 56 ≤ a ∧ a ≤ 55 + ch
theorem gdd_any {f ch : Nat} {P R : Int} (h : nmT P R) : (∃ k, k < tmN P R ∧ gdd f ch P R k) ↔ unl (f + 1) P R ≤ (ch : Int) := by
  obtain ⟨k0, i1, i2, i3, i4, i5, i6⟩ := unl_is (f := f) h
  constructor
  · rintro ⟨k, hk, h1, h2, h3⟩
    have := i5 k hk h2
    omega
  · intro hle
    have := unl_nn f (nxt P R k0).1 (nxt P R k0).2
    exact ⟨k0, i1, by omega, i3, by omega⟩
section CFG
variable {E : sm_E} {L : sm_S → Prop}
theorem c_firstGood (hly : ∀ S, L S → ly S) : ∀ (f : Nat) (P R : Int) (ch d : Nat) (m : sm_M) (Q : Int32 → sm_M → Prop), nmT P R → szN P R ≤ f + 1 → szN P R ≤ 12 → ch ≤ 12 → f + 5 ≤ d → (∀ m', fr (rwP ch) m m' → (∀ k, k < tmN P R → ¬ gdd f ch P R k) → Q (iI (-1)) m') → (∀ m' r, fr (rwP ch) m m' → r < tmN P R → gdd f ch P R r → (∀ k, k < r → ¬ gdd f ch P R k) → Q (iI (r : Nat)) m') → sm_callI E L mX10_firstGood d 0 0 [.ref (sm_B E + 53), .long (pk P R), .int (iI (ch : Nat))] m Q := by
  intro f
  induction f with
  | zero =>
    intro P R ch d m Q hn hs
    have := szN_2 hn
    omega
  | succ f ih =>
    intro P R ch d m Q hn hs hs12 hch hd h1 h2
    by_cases hch0 : ch = 0
    · subst hch0
      have u : ((0 : Nat) : Int) < 1 := by omega
      refine vX10_firstGood_0 (dr := 3) hly (by omega) (by omega) ?_
      simp (disch := omega) only [forall_eq, true_and, and_true, false_and, and_false, forall_const, true_implies, implies_true, not_true_eq_false, not_false_eq_true, false_implies, if_true, if_false, ↓reduceIte, Int.toNat_natCast, Int.reduceEq, Int.reduceNe, Int.reduceLT, Int.reduceLE, Int.reduceToNat, Int.reduceAdd, Int.reduceSub, Int.reduceMul, Int.reduceNeg, Nat.reduceAdd, Nat.reduceMul, Nat.reduceSub, iI_lit, jI_lit, iI_add, iI_sub, iI_mul, iI_neg, jI_add, jI_sub, jI_mul, jI_neg, nI_i, lN_j, iI_le, iI_lt, iI_eq, jI_le, jI_lt, jI_eq, iI_in, iI_cl, iI_j, jI_i, cN, inN, wI_eq, wI_ne, wJ_1, wJ_eq, wJ_ne, wI_2, wJ_3, iI_div, iI_rem, jI_div, jI_rem, true_or, or_true, false_or, or_false, eq_self, Nat.add_zero, u]
      exact h1 m fr.rf (fun k hk q => absurd q.1 (by omega))
    have u1 : ¬ ((ch : Int) < 1) := by omega
    have u2 : (ch : Int) < ((13 : Nat) : Int) := by omega
    have hTr : ∀ S, L S → sm_K S (55 + ch) = 11 ∧ sm_N S (55 + ch) = 12 := ly_urowA hly (by omega)
    have loop : ∀ (r pl : Nat) (m1 : sm_M), pl + r = tmN P R → fr (rwP ch) m m1 → (∀ k, k < tmN P R → m1.1 (55 + ch) k = iI (tm P R k)) → (∀ k, k < pl → ¬ gdd (f + 1) ch P R k) → gX10_firstGood_41 E L d [.ref (sm_B E + 53), .long (pk P R), .int (iI (ch : Nat))] (iI (ch : Nat)) (55 + ch) (iI (tmN P R : Nat)) (iI (szN P R : Nat)) (iI (pl : Nat)) m1 Q := by
      intro r
      induction r with
      | zero =>
        intro pl m1 hpl f1 hg hno
        have hplM : pl = tmN P R := by omega
        subst hplM
        have hle := tmN_le hn
        refine vX10_firstGood_41 (dr := d - 1) (by omega) (by omega) hTr ?_
        simp (disch := omega) only [forall_eq, true_and, and_true, false_and, and_false, forall_const, true_implies, implies_true, not_true_eq_false, not_false_eq_true, false_implies, if_true, if_false, ↓reduceIte, Int.toNat_natCast, Int.reduceEq, Int.reduceNe, Int.reduceLT, Int.reduceLE, Int.reduceToNat, Int.reduceAdd, Int.reduceSub, Int.reduceMul, Int.reduceNeg, Nat.reduceAdd, Nat.reduceMul, Nat.reduceSub, iI_lit, jI_lit, iI_add, iI_sub, iI_mul, iI_neg, jI_add, jI_sub, jI_mul, jI_neg, nI_i, lN_j, iI_le, iI_lt, iI_eq, jI_le, jI_lt, jI_eq, iI_in, iI_cl, iI_j, jI_i, cN, inN, wI_eq, wI_ne, wJ_1, wJ_eq, wJ_ne, wI_2, wJ_3, iI_div, iI_rem, jI_div, jI_rem, true_or, or_true, false_or, or_false, eq_self, Nat.add_zero, Int.le_refl]
        exact h1 m1 f1 hno
      | succ r ihr =>
        intro pl m1 hpl f1 hg hno
        have nx := ihr (pl + 1)
        clear ihr
        have hle := tmN_le hn
        have u : ¬ ((tmN P R : Int) ≤ (pl : Int)) := by omega
        obtain ⟨n1, n2, n3, n4⟩ := nxt_is hn hs12 pl
        have hb := n1.bd
        refine vX10_firstGood_41 (dr := d - 1) (by omega) (by omega) hTr ?_
        simp (disch := omega) only [forall_eq, true_and, and_true, false_and, and_false, forall_const, true_implies, implies_true, not_true_eq_false, not_false_eq_true, false_implies, if_true, if_false, ↓reduceIte, Int.toNat_natCast, Int.reduceEq, Int.reduceNe, Int.reduceLT, Int.reduceLE, Int.reduceToNat, Int.reduceAdd, Int.reduceSub, Int.reduceMul, Int.reduceNeg, Nat.reduceAdd, Nat.reduceMul, Nat.reduceSub, iI_lit, jI_lit, iI_add, iI_sub, iI_mul, iI_neg, jI_add, jI_sub, jI_mul, jI_neg, nI_i, lN_j, iI_le, iI_lt, iI_eq, jI_le, jI_lt, jI_eq, iI_in, iI_cl, iI_j, jI_i, cN, inN, wI_eq, wI_ne, wJ_1, wJ_eq, wJ_ne, wI_2, wJ_3, iI_div, iI_rem, jI_div, jI_rem, true_or, or_true, false_or, or_false, eq_self, Nat.add_zero, u]
        refine c_changed hTr (by omega) hn hs12 (by omega) hg (c_topOf (by omega) (by omega) (by omega) ?_)
        have after : (gdd (f + 1) ch P R pl → False) → ∀ m2, fr (rwP (ch - 1)) m1 m2 → gX10_firstGood_41 E L d [.ref (sm_B E + 53), .long (pk P R), .int (iI (ch : Nat))] (iI (ch : Nat)) (55 + ch) (iI (tmN P R : Nat)) (iI (szN P R : Nat)) (iI ((pl + 1 : Nat) : Int)) m2 Q := by
          intro hng m2 f2
          refine nx m2 (by omega) (f1.tr (f2.mono (fun a k q => by unfold rwP at *; omega))) (fun k hk => (f2.i (by unfold rwP; omega)).trans (hg k hk)) (fun k hk => ?_)
          by_cases hkp : k = pl
          · rw [hkp]; exact hng
          · exact hno k (by omega)
        have found : gdd (f + 1) ch P R pl → ∀ m2, fr (rwP (ch - 1)) m1 m2 → Q (iI (pl : Nat)) m2 := fun hg2 m2 f2 => h2 m2 pl (f1.tr (f2.mono (fun a k q => by unfold rwP at *; omega))) (by omega) hg2 hno
        have go : ∀ s0 : Int, (s0 = if (nxt P R pl).1 < 2 then 1 else 0) → gX10_firstGood_73 E L d [.ref (sm_B E + 53), .long (pk P R), .int (iI (ch : Nat))] (iI (ch : Nat)) (55 + ch) (iI (tmN P R : Nat)) (iI (szN P R : Nat)) (iI (pl : Nat)) (pk (nxt P R pl).1 (nxt P R pl).2) (iI s0) m1 Q := by
          intro s0 hs0
          have hszb := nxt_sz (P := P) (Q := R) pl
          have hszc := sN_chg hn pl
          refine vX10_firstGood_73 (dr := d - 1) hly (by omega) (by omega) hTr (c_sizeOf (by omega) n1 (by omega) ?_)
          simp (disch := omega) only [forall_eq, true_and, and_true, false_and, and_false, forall_const, true_implies, implies_true, not_true_eq_false, not_false_eq_true, false_implies, if_true, if_false, ↓reduceIte, Int.toNat_natCast, Int.reduceEq, Int.reduceNe, Int.reduceLT, Int.reduceLE, Int.reduceToNat, Int.reduceAdd, Int.reduceSub, Int.reduceMul, Int.reduceNeg, Nat.reduceAdd, Nat.reduceMul, Nat.reduceSub, iI_lit, jI_lit, iI_add, iI_sub, iI_mul, iI_neg, jI_add, jI_sub, jI_mul, jI_neg, nI_i, lN_j, iI_le, iI_lt, iI_eq, jI_le, jI_lt, jI_eq, iI_in, iI_cl, iI_j, jI_i, cN, inN, wI_eq, wI_ne, wJ_1, wJ_eq, wJ_ne, wI_2, wJ_3, iI_div, iI_rem, jI_div, jI_rem, true_or, or_true, false_or, or_false, eq_self, Nat.add_zero]
          refine ⟨fun q => after (fun g => ?_) m1 fr.rf, fun q => ?_⟩
          · have := g.2.1
            unfold lss at this
            omega
          have hl : lss P R pl := by unfold lss; omega
          by_cases hp2 : (nxt P R pl).1 < 2
          · rw [if_pos hp2] at hs0
            subst hs0
            simp (disch := omega) only [forall_eq, true_and, and_true, false_and, and_false, forall_const, true_implies, implies_true, not_true_eq_false, not_false_eq_true, false_implies, if_true, if_false, ↓reduceIte, Int.toNat_natCast, Int.reduceEq, Int.reduceNe, Int.reduceLT, Int.reduceLE, Int.reduceToNat, Int.reduceAdd, Int.reduceSub, Int.reduceMul, Int.reduceNeg, Nat.reduceAdd, Nat.reduceMul, Nat.reduceSub, iI_lit, jI_lit, iI_add, iI_sub, iI_mul, iI_neg, jI_add, jI_sub, jI_mul, jI_neg, nI_i, lN_j, iI_le, iI_lt, iI_eq, jI_le, jI_lt, jI_eq, iI_in, iI_cl, iI_j, jI_i, cN, inN, wI_eq, wI_ne, wJ_1, wJ_eq, wJ_ne, wI_2, wJ_3, iI_div, iI_rem, jI_div, jI_rem, true_or, or_true, false_or, or_false, eq_self, Nat.add_zero]
            refine found ⟨by omega, hl, ?_⟩ m1 fr.rf
            rw [unl_low hp2]
            omega
          · rw [if_neg hp2] at hs0
            subst hs0
            simp (disch := omega) only [forall_eq, true_and, and_true, false_and, and_false, forall_const, true_implies, implies_true, not_true_eq_false, not_false_eq_true, false_implies, if_true, if_false, ↓reduceIte, Int.toNat_natCast, Int.reduceEq, Int.reduceNe, Int.reduceLT, Int.reduceLE, Int.reduceToNat, Int.reduceAdd, Int.reduceSub, Int.reduceMul, Int.reduceNeg, Nat.reduceAdd, Nat.reduceMul, Nat.reduceSub, iI_lit, jI_lit, iI_add, iI_sub, iI_mul, iI_neg, jI_add, jI_sub, jI_mul, jI_neg, nI_i, lN_j, iI_le, iI_lt, iI_eq, jI_le, jI_lt, jI_eq, iI_in, iI_cl, iI_j, jI_i, cN, inN, wI_eq, wI_ne, wJ_1, wJ_eq, wJ_ne, wI_2, wJ_3, iI_div, iI_rem, jI_div, jI_rem, true_or, or_true, false_or, or_false, eq_self, Nat.add_zero]
            have hnT := nxt_T hn hs12 (k := pl) (by omega)
            have e1 : (ch : Int) - 1 = ((ch - 1 : Nat) : Int) := by omega
            rw [e1]
            refine ih (nxt P R pl).1 (nxt P R pl).2 (ch - 1) (d - 1) m1 _ hnT (by omega) (by omega) (by omega) (by omega) (fun m2 f2 hno2 => ?_) (fun m2 r2 f2 hr2 hg2 hno2 => ?_)
            · simp (disch := omega) only [forall_eq, true_and, and_true, false_and, and_false, forall_const, true_implies, implies_true, not_true_eq_false, not_false_eq_true, false_implies, if_true, if_false, ↓reduceIte, Int.toNat_natCast, Int.reduceEq, Int.reduceNe, Int.reduceLT, Int.reduceLE, Int.reduceToNat, Int.reduceAdd, Int.reduceSub, Int.reduceMul, Int.reduceNeg, Nat.reduceAdd, Nat.reduceMul, Nat.reduceSub, iI_lit, jI_lit, iI_add, iI_sub, iI_mul, iI_neg, jI_add, jI_sub, jI_mul, jI_neg, nI_i, lN_j, iI_le, iI_lt, iI_eq, jI_le, jI_lt, jI_eq, iI_in, iI_cl, iI_j, jI_i, cN, inN, wI_eq, wI_ne, wJ_1, wJ_eq, wJ_ne, wI_2, wJ_3, iI_div, iI_rem, jI_div, jI_rem, true_or, or_true, false_or, or_false, eq_self, Nat.add_zero]
              refine after (fun g => ?_) m2 f2
              have hle2 : unl (f + 1) (nxt P R pl).1 (nxt P R pl).2 ≤ ((ch - 1 : Nat) : Int) := by
                have := g.2.2
                omega
              obtain ⟨k, hk, hgk⟩ := (gdd_any hnT).mpr hle2
              exact hno2 k hk hgk
            · have hM2 := tmN_le hnT
              have u5 : ¬ ((r2 : Int) < 0) := by omega
              simp (disch := omega) only [forall_eq, true_and, and_true, false_and, and_false, forall_const, true_implies, implies_true, not_true_eq_false, not_false_eq_true, false_implies, if_true, if_false, ↓reduceIte, Int.toNat_natCast, Int.reduceEq, Int.reduceNe, Int.reduceLT, Int.reduceLE, Int.reduceToNat, Int.reduceAdd, Int.reduceSub, Int.reduceMul, Int.reduceNeg, Nat.reduceAdd, Nat.reduceMul, Nat.reduceSub, iI_lit, jI_lit, iI_add, iI_sub, iI_mul, iI_neg, jI_add, jI_sub, jI_mul, jI_neg, nI_i, lN_j, iI_le, iI_lt, iI_eq, jI_le, jI_lt, jI_eq, iI_in, iI_cl, iI_j, jI_i, cN, inN, wI_eq, wI_ne, wJ_1, wJ_eq, wJ_ne, wI_2, wJ_3, iI_div, iI_rem, jI_div, jI_rem, true_or, or_true, false_or, or_false, eq_self, Nat.add_zero, u5]
              refine found ⟨by omega, hl, ?_⟩ m2 f2
              have := (gdd_any hnT).mp ⟨r2, hr2, hg2⟩
              omega
        simp (disch := omega) only [forall_eq, true_and, and_true, false_and, and_false, forall_const, true_implies, implies_true, not_true_eq_false, not_false_eq_true, false_implies, if_true, if_false, ↓reduceIte, Int.toNat_natCast, Int.reduceEq, Int.reduceNe, Int.reduceLT, Int.reduceLE, Int.reduceToNat, Int.reduceAdd, Int.reduceSub, Int.reduceMul, Int.reduceNeg, Nat.reduceAdd, Nat.reduceMul, Nat.reduceSub, iI_lit, jI_lit, iI_add, iI_sub, iI_mul, iI_neg, jI_add, jI_sub, jI_mul, jI_neg, nI_i, lN_j, iI_le, iI_lt, iI_eq, jI_le, jI_lt, jI_eq, iI_in, iI_cl, iI_j, jI_i, cN, inN, wI_eq, wI_ne, wJ_1, wJ_eq, wJ_ne, wI_2, wJ_3, iI_div, iI_rem, jI_div, jI_rem, true_or, or_true, false_or, or_false, eq_self, Nat.add_zero]
        refine ⟨fun q => go 0 (by rw [if_neg (by omega)]), fun q => go 1 (by rw [if_pos (by omega)])⟩
    refine vX10_firstGood_0 (dr := d - 1) hly (by omega) (by omega) ?_
    simp (disch := omega) only [forall_eq, true_and, and_true, false_and, and_false, forall_const, true_implies, implies_true, not_true_eq_false, not_false_eq_true, false_implies, if_true, if_false, ↓reduceIte, Int.toNat_natCast, Int.reduceEq, Int.reduceNe, Int.reduceLT, Int.reduceLE, Int.reduceToNat, Int.reduceAdd, Int.reduceSub, Int.reduceMul, Int.reduceNeg, Nat.reduceAdd, Nat.reduceMul, Nat.reduceSub, iI_lit, jI_lit, iI_add, iI_sub, iI_mul, iI_neg, jI_add, jI_sub, jI_mul, jI_neg, nI_i, lN_j, iI_le, iI_lt, iI_eq, jI_le, jI_lt, jI_eq, iI_in, iI_cl, iI_j, jI_i, cN, inN, wI_eq, wI_ne, wJ_1, wJ_eq, wJ_ne, wI_2, wJ_3, iI_div, iI_rem, jI_div, jI_rem, true_or, or_true, false_or, or_false, eq_self, Nat.add_zero, u1, u2]
    refine ⟨by omega, c_spread hTr (by omega) hn hs12 (fun m1 f1 hg => c_sizeOf (by omega) hn.2.2 hn.2.1 ?_)⟩
    exact loop (tmN P R) 0 m1 (by omega) (f1.mono (fun a k q => by unfold rwP; omega)) hg (fun k hk => absurd hk (Nat.not_lt_zero _))
theorem rwP_sc {ch a k : Nat} (hch : ch ≤ 12) (h : rwP ch a k) : scC a k := by
  unfold rwP at h
  unfold scC
  omega
theorem c_numberOf {Q : Int32 → sm_M → Prop} {P R : Int} {d : Nat} {m : sm_M} (hly : ∀ S, L S → ly S) (hd : 61 ≤ d) (hn : nmT P R) (hs : szN P R ≤ 12) (h : ∀ m', fr (rwP 12) m m' → Q (iI (unl 12 P R)) m') : sm_callI E L mX10_numberOf d 0 0 [.ref (sm_B E + 53), .long (pk P R)] m Q := by
  have hb := hn.bd
  have hP := hn.2.1
  have hP2 := hn.1
  have hul := unl_le 12 P R (Or.inr ⟨hn, hs⟩)
  have loop : ∀ (r nb : Nat) (m1 : sm_M), nb + r = 12 → 1 ≤ nb → fr (rwP 12) m m1 → (nb : Int) ≤ unl 12 P R → gX10_numberOf_12 E L d [.ref (sm_B E + 53), .long (pk P R)] (pk P R) (iI (nb : Nat)) m1 Q := by
    intro r
    induction r with
    | zero =>
      intro nb m1 hnb h1 f1 hle
      have e : unl 12 P R = (nb : Int) := by omega
      have hnb2 : nb = 12 := by omega
      have h9 := h m1 f1
      rw [e] at h9
      refine vX10_numberOf_12 hly hd ?_
      have u : (12 : Int) ≤ (nb : Int) := by omega
      simp (disch := omega) only [forall_eq, true_and, and_true, false_and, and_false, forall_const, true_implies, implies_true, not_true_eq_false, not_false_eq_true, false_implies, if_true, if_false, ↓reduceIte, Int.toNat_natCast, Int.reduceEq, Int.reduceNe, Int.reduceLT, Int.reduceLE, Int.reduceToNat, Int.reduceAdd, Int.reduceSub, Int.reduceMul, Int.reduceNeg, Nat.reduceAdd, Nat.reduceMul, Nat.reduceSub, iI_lit, jI_lit, iI_add, iI_sub, iI_mul, iI_neg, jI_add, jI_sub, jI_mul, jI_neg, nI_i, lN_j, iI_le, iI_lt, iI_eq, jI_le, jI_lt, jI_eq, iI_in, iI_cl, iI_j, jI_i, cN, inN, wI_eq, wI_ne, wJ_1, wJ_eq, wJ_ne, wI_2, wJ_3, iI_div, iI_rem, jI_div, jI_rem, true_or, or_true, false_or, or_false, eq_self, Nat.add_zero, u]
      exact h9
    | succ r ih =>
      intro nb m1 hnb h1 f1 hle
      have nx := ih (nb + 1)
      clear ih
      have u : ¬ ((12 : Int) ≤ (nb : Int)) := by omega
      refine vX10_numberOf_12 hly hd ?_
      simp (disch := omega) only [forall_eq, true_and, and_true, false_and, and_false, forall_const, true_implies, implies_true, not_true_eq_false, not_false_eq_true, false_implies, if_true, if_false, ↓reduceIte, Int.toNat_natCast, Int.reduceEq, Int.reduceNe, Int.reduceLT, Int.reduceLE, Int.reduceToNat, Int.reduceAdd, Int.reduceSub, Int.reduceMul, Int.reduceNeg, Nat.reduceAdd, Nat.reduceMul, Nat.reduceSub, iI_lit, jI_lit, iI_add, iI_sub, iI_mul, iI_neg, jI_add, jI_sub, jI_mul, jI_neg, nI_i, lN_j, iI_le, iI_lt, iI_eq, jI_le, jI_lt, jI_eq, iI_in, iI_cl, iI_j, jI_i, cN, inN, wI_eq, wI_ne, wJ_1, wJ_eq, wJ_ne, wI_2, wJ_3, iI_div, iI_rem, jI_div, jI_rem, true_or, or_true, false_or, or_false, eq_self, Nat.add_zero, u]
      refine c_firstGood hly 11 P R nb 60 m1 _ hn (by omega) hs (by omega) (by omega) (fun m2 f2 hno => ?_) (fun m2 r2 f2 hr2 hg2 hno => ?_)
      · simp (disch := omega) only [forall_eq, true_and, and_true, false_and, and_false, forall_const, true_implies, implies_true, not_true_eq_false, not_false_eq_true, false_implies, if_true, if_false, ↓reduceIte, Int.toNat_natCast, Int.reduceEq, Int.reduceNe, Int.reduceLT, Int.reduceLE, Int.reduceToNat, Int.reduceAdd, Int.reduceSub, Int.reduceMul, Int.reduceNeg, Nat.reduceAdd, Nat.reduceMul, Nat.reduceSub, iI_lit, jI_lit, iI_add, iI_sub, iI_mul, iI_neg, jI_add, jI_sub, jI_mul, jI_neg, nI_i, lN_j, iI_le, iI_lt, iI_eq, jI_le, jI_lt, jI_eq, iI_in, iI_cl, iI_j, jI_i, cN, inN, wI_eq, wI_ne, wJ_1, wJ_eq, wJ_ne, wI_2, wJ_3, iI_div, iI_rem, jI_div, jI_rem, true_or, or_true, false_or, or_false, eq_self, Nat.add_zero]
        refine nx m2 (by omega) (by omega) (f1.tr (f2.mono (fun a k q => by unfold rwP at *; omega))) ?_
        apply Classical.byContradiction
        intro hlt
        have : unl (11 + 1) P R ≤ (nb : Int) := by
          show unl 12 P R ≤ _
          omega
        obtain ⟨k, hk, hgk⟩ := (gdd_any hn).mpr this
        exact hno k hk hgk
      · have := (gdd_any hn).mp ⟨r2, hr2, hg2⟩
        have e : unl 12 P R = (nb : Int) := by
          have h5 : unl 12 P R ≤ (nb : Int) := this
          omega
        have h9 := h m2 (f1.tr (f2.mono (fun a k q => by unfold rwP at *; omega)))
        rw [e] at h9
        have hM2 := tmN_le hn
        have u5 : (0 : Int) ≤ (r2 : Int) := by omega
        simp (disch := omega) only [forall_eq, true_and, and_true, false_and, and_false, forall_const, true_implies, implies_true, not_true_eq_false, not_false_eq_true, false_implies, if_true, if_false, ↓reduceIte, Int.toNat_natCast, Int.reduceEq, Int.reduceNe, Int.reduceLT, Int.reduceLE, Int.reduceToNat, Int.reduceAdd, Int.reduceSub, Int.reduceMul, Int.reduceNeg, Nat.reduceAdd, Nat.reduceMul, Nat.reduceSub, iI_lit, jI_lit, iI_add, iI_sub, iI_mul, iI_neg, jI_add, jI_sub, jI_mul, jI_neg, nI_i, lN_j, iI_le, iI_lt, iI_eq, jI_le, jI_lt, jI_eq, iI_in, iI_cl, iI_j, jI_i, cN, inN, wI_eq, wI_ne, wJ_1, wJ_eq, wJ_ne, wI_2, wJ_3, iI_div, iI_rem, jI_div, jI_rem, true_or, or_true, false_or, or_false, eq_self, Nat.add_zero, u5]
        exact h9
  refine vX10_numberOf_0 hd (c_topOf (by omega) (by omega) (by omega) ?_)
  have u : 1 < P := by omega
  simp (disch := omega) only [forall_eq, true_and, and_true, false_and, and_false, forall_const, true_implies, implies_true, not_true_eq_false, not_false_eq_true, false_implies, if_true, if_false, ↓reduceIte, Int.toNat_natCast, Int.reduceEq, Int.reduceNe, Int.reduceLT, Int.reduceLE, Int.reduceToNat, Int.reduceAdd, Int.reduceSub, Int.reduceMul, Int.reduceNeg, Nat.reduceAdd, Nat.reduceMul, Nat.reduceSub, iI_lit, jI_lit, iI_add, iI_sub, iI_mul, iI_neg, jI_add, jI_sub, jI_mul, jI_neg, nI_i, lN_j, iI_le, iI_lt, iI_eq, jI_le, jI_lt, jI_eq, iI_in, iI_cl, iI_j, jI_i, cN, inN, wI_eq, wI_ne, wJ_1, wJ_eq, wJ_ne, wI_2, wJ_3, iI_div, iI_rem, jI_div, jI_rem, true_or, or_true, false_or, or_false, eq_self, Nat.add_zero, u]
  refine loop 11 1 m (by omega) (by omega) fr.rf ?_
  obtain ⟨k0, i1, i2, i3, i4, i5, i6⟩ := unl_is (f := 11) hn
  have := unl_nn 11 (nxt P R k0).1 (nxt P R k0).2
  have i4' : unl 12 P R = unl 11 (nxt P R k0).1 (nxt P R k0).2 + 1 := i4
  omega
theorem c_uplace {Q : Int32 → sm_M → Prop} {P R : Int} {d ch : Nat} {m : sm_M} (hly : ∀ S, L S → ly S) (hd : 61 ≤ d) (hn : nmT P R) (hs : szN P R ≤ 12) (hch : unl 12 P R = (ch : Int)) (h : ∀ m', fr (rwP 12) m m' → Q (iI (bstG (unl 11) P R (tmN P R)).2) m') : sm_callI E L mX10_placeOf d 0 0 [.ref (sm_B E + 53), .long (pk P R), .int (iI (ch : Nat))] m Q := by
  have hul := unl_le 12 P R (Or.inr ⟨hn, hs⟩)
  obtain ⟨k0, i1, i2, i3, i4, i5, i6⟩ := unl_is (f := 11) hn
  have e12 : unl (11 + 1) P R = (ch : Int) := hch
  have hnn := unl_nn 11 (nxt P R k0).1 (nxt P R k0).2
  have hg0 : gdd 11 ch P R k0 := ⟨by omega, i3, by omega⟩
  refine vX10_placeOf_0 hly hd (c_firstGood hly 11 P R ch 60 m _ hn (by omega) hs (by omega) (by omega) (fun m2 f2 hno => absurd hg0 (hno k0 i1)) (fun m2 r2 f2 hr2 hg2 hno => ?_))
  have hr : r2 = k0 := by
    apply Classical.byContradiction
    intro hne
    by_cases hlt : r2 < k0
    · have a1 := i6 r2 hlt hg2.2.1
      have a2 := hg2.2.2
      omega
    · exact hno k0 (by omega) hg0
  have h9 := h m2 (f2.mono (fun a k q => by unfold rwP at *; omega))
  rw [i2] at h9
  rw [hr]
  exact h9
end CFG
