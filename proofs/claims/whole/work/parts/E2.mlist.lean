/-! the reference lists -/
def mlP (a k : Nat) : Prop := teP a k ∨ nbP a k
theorem mlP_sc {a k : Nat} (h : mlP a k) : scM a k := by
  unfold mlP teP nbP at h
  unfold scM
  omega
def lct (n : Nat) (g : Nat → Nat) (a b k : Nat) : Prop := ∀ j, j < n → (g j < 1024 * a + b ↔ j < k)
theorem lct_no {s n a b k : Nat} {g : Nat → Nat} (hs : s ≤ 12) (he : enm s n g) (hb : b < 1000) (hc : lct n g a b k) (hn : ¬ goodP s a b) : lct n g a (b + 1) k := by
  intro j hj
  obtain ⟨a', b', h1, h2⟩ := he.2.1 j hj
  have hbd := eS_bd h1.2.1 h1.2.2.1 h1.2.2.2.1 (by rw [h1.2.2.2.2.1]; exact hs)
  have hlt := h1.2.2.1
  have hne : g j ≠ 1024 * a + b := fun q => by
    have e1 : a' = a ∧ b' = b := by omega
    rw [e1.1, e1.2] at h1
    exact hn h1
  have := hc j hj
  omega
theorem lct_yes {s n a b k : Nat} {g : Nat → Nat} (he : enm s n g) (hc : lct n g a b k) (hg : goodP s a b) : k < n ∧ g k = 1024 * a + b ∧ lct n g a (b + 1) (k + 1) := by
  obtain ⟨j, hj, e⟩ := he.2.2 a b hg
  have hjk : ¬ j < k := fun q => by
    have := (hc j hj).mpr q
    omega
  have hk : k < n := by omega
  have hgk : ¬ g k < 1024 * a + b := fun q => by
    have := (hc k hk).mp q
    omega
  have ejk : j = k := by
    apply Classical.byContradiction
    intro hne
    have := he.1 k j (by omega) hj
    omega
  rw [ejk] at e
  refine ⟨hk, e, fun j' hj' => ?_⟩
  constructor
  · intro q
    apply Classical.byContradiction
    intro hn
    have := he.1 k j' (by omega) hj'
    omega
  · intro q
    by_cases q2 : j' = k
    · rw [q2]; omega
    · have := he.1 j' k (by omega) hk
      omega
theorem lct_row {s n a k : Nat} {g : Nat → Nat} (hs : s ≤ 12) (he : enm s n g) (hc : lct n g a a k) : lct n g (a + 1) 1 k := by
  intro j hj
  obtain ⟨a', b', h1, h2⟩ := he.2.1 j hj
  have hbd := eS_bd h1.2.1 h1.2.2.1 h1.2.2.2.1 (by rw [h1.2.2.2.2.1]; exact hs)
  have hlt := h1.2.2.1
  have hb1 := h1.2.1
  have := hc j hj
  by_cases h3 : a' < a
  · omega
  · by_cases h4 : a' = a
    · omega
    · omega
section MLI
variable {E : sm_E} {L : sm_S → Prop} {d : Nat}
theorem c12_lrows {Q : Int32 → sm_M → Prop} {vs : List Value} {s n : Nat} {i w : Int} {g : Nat → Nat} {m0 : sm_M} (hly : ∀ S, L S → ly S) (hd : 3 ≤ d) (hs1 : 2 ≤ s) (hs : s ≤ 12) (he : enm s n g) (hn : n ≤ 1000000) (i1 : -2147483648 ≤ i) (i2 : i ≤ 2147483647) (w1 : -1 ≤ w) (w2 : w ≤ 1) (hi0 : 0 ≤ w → 0 ≤ i)
    (hend : w = -1 → ∀ m', fr mlP m0 m' → Q (iI (n : Nat)) m') (hfound : 0 ≤ w → ∀ k : Nat, i = (k : Int) → k < n → ∀ m', fr mlP m0 m' → Q (iI (if w = 0 then ((g k / 1024 : Nat) : Int) else ((g k % 1024 : Nat) : Int))) m') (hnone : 0 ≤ w → (n : Int) ≤ i → ∀ m', fr mlP m0 m' → sm_callI E L mX12_finds 1 0 0 [.ref (sm_B E + 109), .int (iI 2)] m' (fun r m2 => Q r m2)) :
    ∀ (r a k : Nat) (m : sm_M), a + r = 401 → 2 ≤ a → fr mlP m0 m → lct n g a 1 k → k ≤ n → (0 ≤ w → (k : Int) ≤ i) → gX12_listed_46 E L d vs (iI (s : Nat)) (iI i) (iI w) (iI (k : Nat)) (iI (a : Nat)) m Q := by
  intro r
  induction r with
  | zero =>
    intro a k m ha ha2 f1 hc hkn hki
    have hkn2 : k = n := by
      apply Classical.byContradiction
      intro hne
      have hk : k < n := by omega
      obtain ⟨a', b', h1, h2⟩ := he.2.1 k hk
      have hbd := eS_bd h1.2.1 h1.2.2.1 h1.2.2.2.1 (by rw [h1.2.2.2.2.1]; exact hs)
      have hlt := h1.2.2.1
      have := (hc k hk).mp (by omega)
      omega
    have u : (400 : Int) < (a : Int) := by omega
    refine vX12_listed_46 hly hd ?_
    simp (disch := omega) only [forall_eq, true_and, and_true, false_and, and_false, forall_const, true_implies, implies_true, not_true_eq_false, not_false_eq_true, false_implies, if_true, if_false, ↓reduceIte, Int.toNat_natCast, Int.reduceEq, Int.reduceNe, Int.reduceLT, Int.reduceLE, Int.reduceToNat, Int.reduceAdd, Int.reduceSub, Int.reduceMul, Int.reduceNeg, Nat.reduceAdd, Nat.reduceMul, Nat.reduceSub, iI_lit, jI_lit, iI_add, iI_sub, iI_mul, iI_neg, jI_add, jI_sub, jI_mul, jI_neg, nI_i, lN_j, iI_le, iI_lt, iI_eq, jI_le, jI_lt, jI_eq, iI_in, iI_cl, iI_j, jI_i, cN, inN, wI_eq, wI_ne, wJ_1, wJ_eq, wJ_ne, wI_2, wJ_3, iI_div, iI_rem, jI_div, jI_rem, true_or, or_true, false_or, or_false, eq_self, Nat.add_zero, u]
    refine ⟨fun q => hnone q (by have := hki q; omega) m f1, fun q => ?_⟩
    rw [hkn2]
    exact hend (by omega) m f1
  | succ r ih =>
    intro a k m ha ha2 f1 hc hkn hki
    have nxA := ih (a + 1)
    clear ih
    have row : ∀ (r2 b k : Nat) (m : sm_M), b + r2 = a → 1 ≤ b → fr mlP m0 m → lct n g a b k → k ≤ n → (0 ≤ w → (k : Int) ≤ i) → gX12_listed_57 E L d vs (iI (s : Nat)) (iI i) (iI w) (iI (k : Nat)) (iI (a : Nat)) (iI (b : Nat)) m Q := by
      intro r2
      induction r2 with
      | zero =>
        intro b k m hb hb1 f2 hc2 hkn2 hki2
        have hba : b = a := by omega
        subst hba
        refine vX12_listed_57 hly hd ?_
        simp (disch := omega) only [forall_eq, true_and, and_true, false_and, and_false, forall_const, true_implies, implies_true, not_true_eq_false, not_false_eq_true, false_implies, if_true, if_false, ↓reduceIte, Int.toNat_natCast, Int.reduceEq, Int.reduceNe, Int.reduceLT, Int.reduceLE, Int.reduceToNat, Int.reduceAdd, Int.reduceSub, Int.reduceMul, Int.reduceNeg, Nat.reduceAdd, Nat.reduceMul, Nat.reduceSub, iI_lit, jI_lit, iI_add, iI_sub, iI_mul, iI_neg, jI_add, jI_sub, jI_mul, jI_neg, nI_i, lN_j, iI_le, iI_lt, iI_eq, jI_le, jI_lt, jI_eq, iI_in, iI_cl, iI_j, jI_i, cN, inN, wI_eq, wI_ne, wJ_1, wJ_eq, wJ_ne, wI_2, wJ_3, iI_div, iI_rem, jI_div, jI_rem, true_or, or_true, false_or, or_false, eq_self, Nat.add_zero, Int.le_refl]
        exact nxA k m (by omega) (by omega) f2 (lct_row hs he hc2) hkn2 hki2
      | succ r2 ihb =>
        intro b k m hb hb1 f2 hc2 hkn2 hki2
        have nx := ihb (b + 1)
        clear ihb
        have u : ¬ ((a : Int) ≤ (b : Int)) := by omega
        have skip : ¬ goodP s a b → ∀ m', fr mlP m m' → gX12_listed_57 E L d vs (iI (s : Nat)) (iI i) (iI w) (iI (k : Nat)) (iI (a : Nat)) (iI ((b + 1 : Nat) : Int)) m' Q := fun hng m' f' => nx k m' (by omega) (by omega) (f2.tr f') (lct_no hs he (by omega) hc2 hng) hkn2 hki2
        have hgb : Int.gcd (a : Int) (b : Int) ≤ a := Nat.le_of_dvd (by omega) (Nat.gcd_dvd_left a b)
        refine vX12_listed_57 hly hd ?_
        simp (disch := omega) only [forall_eq, true_and, and_true, false_and, and_false, forall_const, true_implies, implies_true, not_true_eq_false, not_false_eq_true, false_implies, if_true, if_false, ↓reduceIte, Int.toNat_natCast, Int.reduceEq, Int.reduceNe, Int.reduceLT, Int.reduceLE, Int.reduceToNat, Int.reduceAdd, Int.reduceSub, Int.reduceMul, Int.reduceNeg, Nat.reduceAdd, Nat.reduceMul, Nat.reduceSub, iI_lit, jI_lit, iI_add, iI_sub, iI_mul, iI_neg, jI_add, jI_sub, jI_mul, jI_neg, nI_i, lN_j, iI_le, iI_lt, iI_eq, jI_le, jI_lt, jI_eq, iI_in, iI_cl, iI_j, jI_i, cN, inN, wI_eq, wI_ne, wJ_1, wJ_eq, wJ_ne, wI_2, wJ_3, iI_div, iI_rem, jI_div, jI_rem, true_or, or_true, false_or, or_false, eq_self, Nat.add_zero, u]
        refine c12_divisor (by omega) (by omega) (by omega) (by omega) (by omega) ?_
        simp (disch := omega) only [forall_eq, true_and, and_true, false_and, and_false, forall_const, true_implies, implies_true, not_true_eq_false, not_false_eq_true, false_implies, if_true, if_false, ↓reduceIte, Int.toNat_natCast, Int.reduceEq, Int.reduceNe, Int.reduceLT, Int.reduceLE, Int.reduceToNat, Int.reduceAdd, Int.reduceSub, Int.reduceMul, Int.reduceNeg, Nat.reduceAdd, Nat.reduceMul, Nat.reduceSub, iI_lit, jI_lit, iI_add, iI_sub, iI_mul, iI_neg, jI_add, jI_sub, jI_mul, jI_neg, nI_i, lN_j, iI_le, iI_lt, iI_eq, jI_le, jI_lt, jI_eq, iI_in, iI_cl, iI_j, jI_i, cN, inN, wI_eq, wI_ne, wJ_1, wJ_eq, wJ_ne, wI_2, wJ_3, iI_div, iI_rem, jI_div, jI_rem, true_or, or_true, false_or, or_false, eq_self, Nat.add_zero]
        refine ⟨fun q => skip (fun hg => q ?_) m fr.rf, fun q => ?_⟩
        · have : Int.gcd (a : Int) (b : Int) = 1 := hg.2.2.2.1
          rw [this]
          rfl
        · have hg1 : Nat.gcd a b = 1 := by
            have : Int.gcd (a : Int) (b : Int) = 1 := by omega
            exact this
          obtain ⟨M, M1, M2, M3, M4⟩ := rst_ex (u := (a : Int)) (v := (b : Int)) (by omega) (by omega) (by omega)
          have hsz := szS_end (u := (a : Int)) (v := (b : Int)) (by omega) (by omega) M3 M4
          have hszb := szS_bd (u := (a : Int)) (v := (b : Int)) (by omega) (by omega) M M4
          have hfl := rst_floor (u := (a : Int)) (v := (b : Int)) (by omega) (by omega) M M4
          rw [Int.toNat_natCast, Int.toNat_natCast] at hsz
          refine c12_sizeOf hly (by omega) (by omega) (by omega) (by omega) (by omega) M2 M3 M4 (fun m3 f3 => ?_)
          rw [hsz]
          simp (disch := omega) only [forall_eq, true_and, and_true, false_and, and_false, forall_const, true_implies, implies_true, not_true_eq_false, not_false_eq_true, false_implies, if_true, if_false, ↓reduceIte, Int.toNat_natCast, Int.reduceEq, Int.reduceNe, Int.reduceLT, Int.reduceLE, Int.reduceToNat, Int.reduceAdd, Int.reduceSub, Int.reduceMul, Int.reduceNeg, Nat.reduceAdd, Nat.reduceMul, Nat.reduceSub, iI_lit, jI_lit, iI_add, iI_sub, iI_mul, iI_neg, jI_add, jI_sub, jI_mul, jI_neg, nI_i, lN_j, iI_le, iI_lt, iI_eq, jI_le, jI_lt, jI_eq, iI_in, iI_cl, iI_j, jI_i, cN, inN, wI_eq, wI_ne, wJ_1, wJ_eq, wJ_ne, wI_2, wJ_3, iI_div, iI_rem, jI_div, jI_rem, true_or, or_true, false_or, or_false, eq_self, Nat.add_zero]
          refine ⟨fun q2 => ?_, fun q2 => skip (fun hg => q2 (by rw [hg.2.2.2.2.1])) m3 (f3.mono (fun a k z => Or.inl z))⟩
          have hN := (nmB_is (p := (a : Int)) (q := (b : Int)) (by omega) (gcd_cop hg1)).bd
          have ua : ¬ ((a : Int) < 2) := by omega
          refine c12_namesBy hly (by omega) (by omega) (by omega) (by omega) (by omega) (fun _ => gcd_cop hg1) (fun m4 f4 e4 e5 => ?_)
          rw [if_neg ua] at e5
          have f24 : fr mlP m m4 := (f3.mono (fun a k z => Or.inl z)).tr (f4.mono (fun a k z => Or.inr z))
          rw [e5]
          simp (disch := omega) only [forall_eq, true_and, and_true, false_and, and_false, forall_const, true_implies, implies_true, not_true_eq_false, not_false_eq_true, false_implies, if_true, if_false, ↓reduceIte, Int.toNat_natCast, Int.reduceEq, Int.reduceNe, Int.reduceLT, Int.reduceLE, Int.reduceToNat, Int.reduceAdd, Int.reduceSub, Int.reduceMul, Int.reduceNeg, Nat.reduceAdd, Nat.reduceMul, Nat.reduceSub, iI_lit, jI_lit, iI_add, iI_sub, iI_mul, iI_neg, jI_add, jI_sub, jI_mul, jI_neg, nI_i, lN_j, iI_le, iI_lt, iI_eq, jI_le, jI_lt, jI_eq, iI_in, iI_cl, iI_j, jI_i, cN, inN, wI_eq, wI_ne, wJ_1, wJ_eq, wJ_ne, wI_2, wJ_3, iI_div, iI_rem, jI_div, jI_rem, true_or, or_true, false_or, or_false, eq_self, Nat.add_zero]
          refine ⟨fun q3 => ?_, fun q3 => skip (fun hg => q3 hg.2.2.2.2.2) m4 f24⟩
          have hgood : goodP s a b := ⟨by omega, hb1, by omega, hg1, by omega, q3⟩
          obtain ⟨y1, y2, y3⟩ := lct_yes he hc2 hgood
          refine ⟨fun q4 => nx (k + 1) m4 (by omega) (by omega) (f2.tr f24) y3 (by omega) (fun z => by omega), fun q4 => ⟨fun q5 => nx (k + 1) m4 (by omega) (by omega) (f2.tr f24) y3 (by omega) (fun z => by have := hki2 z; omega), fun q5 => ?_⟩⟩
          have fin := hfound (by omega) k (by omega) y1 m4 (f2.tr f24)
          rw [y2, show (1024 * a + b) / 1024 = a by omega, show (1024 * a + b) % 1024 = b by omega] at fin
          refine ⟨fun q6 => ?_, fun q6 => ?_⟩
          · rw [if_neg q6] at fin; exact fin
          · rw [if_pos q6] at fin; exact fin
    have u : ¬ ((400 : Int) < (a : Int)) := by omega
    refine vX12_listed_46 hly hd ?_
    simp (disch := omega) only [forall_eq, true_and, and_true, false_and, and_false, forall_const, true_implies, implies_true, not_true_eq_false, not_false_eq_true, false_implies, if_true, if_false, ↓reduceIte, Int.toNat_natCast, Int.reduceEq, Int.reduceNe, Int.reduceLT, Int.reduceLE, Int.reduceToNat, Int.reduceAdd, Int.reduceSub, Int.reduceMul, Int.reduceNeg, Nat.reduceAdd, Nat.reduceMul, Nat.reduceSub, iI_lit, jI_lit, iI_add, iI_sub, iI_mul, iI_neg, jI_add, jI_sub, jI_mul, jI_neg, nI_i, lN_j, iI_le, iI_lt, iI_eq, jI_le, jI_lt, jI_eq, iI_in, iI_cl, iI_j, jI_i, cN, inN, wI_eq, wI_ne, wJ_1, wJ_eq, wJ_ne, wI_2, wJ_3, iI_div, iI_rem, jI_div, jI_rem, true_or, or_true, false_or, or_false, eq_self, Nat.add_zero, u]
    exact row (a - 1) 1 k m (by omega) (by omega) f1 hc hkn hki
end MLI
