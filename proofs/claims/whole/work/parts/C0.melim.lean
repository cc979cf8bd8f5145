/-! the reference's elimination -/
section MEL
variable {E : sm_E} {L : sm_S → Prop} {d d1 d2 : Nat} {c n : Nat}
/-- rows change places -/
theorem c12_swap {Q : Int32 → sm_M → Prop} {vs : List Value} {p r s col : Nat} {m0 : sm_M} {G : Nat → Nat → Int} (hly : ∀ S, L S → ly S) (hd : 5 ≤ d) (hn : n ≤ 80) (hr : r < 24) (hs : s < 24) (v58 : m0.1 109 58 = iI (n : Nat)) (hV0 : MV m0 n G)
    (h : ∀ m', fr smP m0 m' → MV m' n (swp G r s) → sm_callI E L mX12_at 1 0 0 [.ref (sm_B E + 109), .int (iI (r : Nat)), .int (iI (col : Nat))] m' (fun r_2 m_1 => sm_callI E L mX12_turned 1 0 0 [.int r_2, .int (iI (p : Nat))] m_1 (fun r_4 m_3 => gX12_colours_372 E L d vs (iI (p : Nat)) (iI (r : Nat)) (iI (col : Nat)) r_4 (iI 0) m_3 Q))) :
    ∀ (t x : Nat) (m : sm_M), x + t = n → fr smP m0 m → MV m n (fun i k => if k < x then swp G r s i k else G i k) → gX12_colours_294 E L d vs (iI (p : Nat)) (iI (r : Nat)) (iI (col : Nat)) (iI (s : Nat)) (iI (x : Nat)) m Q := by
  intro t
  induction t with
  | zero =>
    intro x m hx f1 hV
    have hx2 : x = n := by omega
    subst hx2
    have w58 : m.1 109 58 = iI (x : Nat) := (f1.i (by unfold smP; omega)).trans v58
    refine vX12_colours_294 hly hd ?_
    simp (disch := omega) only [forall_eq, true_and, and_true, false_and, and_false, forall_const, true_implies, implies_true, not_true_eq_false, not_false_eq_true, false_implies, if_true, if_false, ↓reduceIte, Int.toNat_natCast, Int.reduceEq, Int.reduceNe, Int.reduceLT, Int.reduceLE, Int.reduceToNat, Int.reduceAdd, Int.reduceSub, Int.reduceMul, Int.reduceNeg, Nat.reduceAdd, Nat.reduceMul, Nat.reduceSub, iI_lit, jI_lit, iI_add, iI_sub, iI_mul, iI_neg, jI_add, jI_sub, jI_mul, jI_neg, nI_i, lN_j, iI_le, iI_lt, iI_eq, jI_le, jI_lt, jI_eq, iI_in, iI_cl, iI_j, jI_i, cN, inN, wI_eq, wI_ne, wJ_1, wJ_eq, wJ_ne, wI_2, wJ_3, iI_div, iI_rem, jI_div, jI_rem, true_or, or_true, false_or, or_false, eq_self, Nat.add_zero, w58, Int.le_refl]
    exact h m f1 (hV.cg (fun i k _ hk => by rw [if_pos hk]))
  | succ t ih =>
    intro x m hx f1 hV
    have nx := ih (x + 1)
    clear ih
    have w58 : m.1 109 58 = iI (n : Nat) := (f1.i (by unfold smP; omega)).trans v58
    have u : ¬ ((n : Int) ≤ (x : Int)) := by omega
    have e1 : (80 * (s : Int) + (x : Int)).toNat = 80 * s + x := by omega
    have e2 : (80 * (r : Int) + (x : Int)).toNat = 80 * r + x := by omega
    refine vX12_colours_294 hly hd ?_
    simp (disch := omega) only [forall_eq, true_and, and_true, false_and, and_false, forall_const, true_implies, implies_true, not_true_eq_false, not_false_eq_true, false_implies, if_true, if_false, ↓reduceIte, Int.toNat_natCast, Int.reduceEq, Int.reduceNe, Int.reduceLT, Int.reduceLE, Int.reduceToNat, Int.reduceAdd, Int.reduceSub, Int.reduceMul, Int.reduceNeg, Nat.reduceAdd, Nat.reduceMul, Nat.reduceSub, iI_lit, jI_lit, iI_add, iI_sub, iI_mul, iI_neg, jI_add, jI_sub, jI_mul, jI_neg, nI_i, lN_j, iI_le, iI_lt, iI_eq, jI_le, jI_lt, jI_eq, iI_in, iI_cl, iI_j, jI_i, cN, inN, wI_eq, wI_ne, wJ_1, wJ_eq, wJ_ne, wI_2, wJ_3, iI_div, iI_rem, jI_div, jI_rem, true_or, or_true, false_or, or_false, eq_self, Nat.add_zero, w58, u]
    refine c12_at hly (by omega) hV hn hs (by omega) (c12_at hly (by omega) hV hn hr (by omega) ?_)
    rw [if_neg (Nat.lt_irrefl _), if_neg (Nat.lt_irrefl _)]
    simp (disch := omega) only [forall_eq, true_and, and_true, false_and, and_false, forall_const, true_implies, implies_true, not_true_eq_false, not_false_eq_true, false_implies, if_true, if_false, ↓reduceIte, Int.toNat_natCast, Int.reduceEq, Int.reduceNe, Int.reduceLT, Int.reduceLE, Int.reduceToNat, Int.reduceAdd, Int.reduceSub, Int.reduceMul, Int.reduceNeg, Nat.reduceAdd, Nat.reduceMul, Nat.reduceSub, iI_lit, jI_lit, iI_add, iI_sub, iI_mul, iI_neg, jI_add, jI_sub, jI_mul, jI_neg, nI_i, lN_j, iI_le, iI_lt, iI_eq, jI_le, jI_lt, jI_eq, iI_in, iI_cl, iI_j, jI_i, cN, inN, wI_eq, wI_ne, wJ_1, wJ_eq, wJ_ne, wI_2, wJ_3, iI_div, iI_rem, jI_div, jI_rem, true_or, or_true, false_or, or_false, eq_self, Nat.add_zero, e1, e2]
    refine ⟨by omega, by omega, nx _ (by omega) ((f1.wI rfl).wI rfl) (((hV.w hn (show x < n by omega)).w hn (show x < n by omega)).cg (fun i k _ hk => ?_))⟩
    rw [upG_at, upG_at]
    by_cases hkx : k = x
    · subst hkx
      rw [if_pos (Nat.lt_succ_self k)]
      unfold swp
      by_cases hir : i = r
      · rw [if_pos ⟨hir, rfl⟩, if_pos hir]
      · rw [if_neg (fun q => hir q.1), if_neg hir]
        by_cases his : i = s
        · rw [if_pos ⟨his, rfl⟩, if_pos his]
        · rw [if_neg (fun q => his q.1), if_neg his, if_neg (Nat.lt_irrefl _)]
    · rw [if_neg (fun q => hkx q.2), if_neg (fun q => hkx q.2)]
      by_cases hlt : k < x
      · rw [if_pos hlt, if_pos (by omega)]
      · rw [if_neg hlt, if_neg (by omega)]
/-- a row is taken from another -/
theorem c12_take {Q : Int32 → sm_M → Prop} {vs : List Value} {p r col i z : Nat} {x8 : Int32} {m0 : sm_M} {G : Nat → Nat → Int} (hly : ∀ S, L S → ly S) (hd : 5 ≤ d) (hn : n ≤ 80) (hr : r < 24) (hi : i < 24) (hir : i ≠ r) (hp1 : 2 ≤ p) (hp2 : p ≤ 13) (hz1 : 1 ≤ z) (hz2 : z < p) (v58 : m0.1 109 58 = iI (n : Nat)) (hGi : ∀ k, k < n → 0 ≤ G i k ∧ G i k < p) (hGr : ∀ k, k < n → 0 ≤ G r k ∧ G r k < p)
    (h : ∀ m', fr smP m0 m' → MV m' n (fun i' k => if i' = i then (G i k + ((p - z : Nat) : Int) * G r k) % (p : Int) else G i' k) → gX12_colours_372 E L d vs (iI (p : Nat)) (iI (r : Nat)) (iI (col : Nat)) x8 (iI ((i + 1 : Nat) : Int)) m' Q) :
    ∀ (t x : Nat) (m : sm_M), x + t = n → fr smP m0 m → MV m n (fun i' k => if i' = i ∧ k < x then (G i k + ((p - z : Nat) : Int) * G r k) % (p : Int) else G i' k) → gX12_colours_410 E L d vs (iI (p : Nat)) (iI (r : Nat)) (iI (col : Nat)) x8 (iI (i : Nat)) (iI (z : Nat)) (iI (x : Nat)) m Q := by
  intro t
  induction t with
  | zero =>
    intro x m hx f1 hV
    have hx2 : x = n := by omega
    subst hx2
    have w58 : m.1 109 58 = iI (x : Nat) := (f1.i (by unfold smP; omega)).trans v58
    refine vX12_colours_410 hly hd ?_
    simp (disch := omega) only [forall_eq, true_and, and_true, false_and, and_false, forall_const, true_implies, implies_true, not_true_eq_false, not_false_eq_true, false_implies, if_true, if_false, ↓reduceIte, Int.toNat_natCast, Int.reduceEq, Int.reduceNe, Int.reduceLT, Int.reduceLE, Int.reduceToNat, Int.reduceAdd, Int.reduceSub, Int.reduceMul, Int.reduceNeg, Nat.reduceAdd, Nat.reduceMul, Nat.reduceSub, iI_lit, jI_lit, iI_add, iI_sub, iI_mul, iI_neg, jI_add, jI_sub, jI_mul, jI_neg, nI_i, lN_j, iI_le, iI_lt, iI_eq, jI_le, jI_lt, jI_eq, iI_in, iI_cl, iI_j, jI_i, cN, inN, wI_eq, wI_ne, wJ_1, wJ_eq, wJ_ne, wI_2, wJ_3, iI_div, iI_rem, jI_div, jI_rem, true_or, or_true, false_or, or_false, eq_self, Nat.add_zero, w58, Int.le_refl]
    refine h m f1 (hV.cg (fun i' k _ hk => ?_))
    by_cases q : i' = i
    · rw [if_pos ⟨q, hk⟩, if_pos q]
    · rw [if_neg (fun q2 => q q2.1), if_neg q]
  | succ t ih =>
    intro x m hx f1 hV
    have nx := ih (x + 1)
    clear ih
    have w58 : m.1 109 58 = iI (n : Nat) := (f1.i (by unfold smP; omega)).trans v58
    have u : ¬ ((n : Int) ≤ (x : Int)) := by omega
    have u2 : ¬ ((z : Int) ≤ 0) := by omega
    have u3 : (p : Int) ≠ 0 := by omega
    have e1 : (80 * (i : Int) + (x : Int)).toNat = 80 * i + x := by omega
    have e2 : (p : Int) - (z : Int) = ((p - z : Nat) : Int) := by omega
    have b1 := hGi x (by omega)
    have b2 := hGr x (by omega)
    have b3 : 0 ≤ ((p - z : Nat) : Int) * G r x := Int.mul_nonneg (by omega) b2.1
    have b4 : ((p - z : Nat) : Int) * G r x ≤ 13 * 13 := Int.mul_le_mul (by omega) (by omega) b2.1 (by omega)
    have e3 : (G i x + ((p - z : Nat) : Int) * G r x).tmod (p : Int) = (G i x + ((p - z : Nat) : Int) * G r x) % (p : Int) := Int.tmod_eq_emod_of_nonneg (by omega)
    refine vX12_colours_410 hly hd ?_
    simp (disch := omega) only [forall_eq, true_and, and_true, false_and, and_false, forall_const, true_implies, implies_true, not_true_eq_false, not_false_eq_true, false_implies, if_true, if_false, ↓reduceIte, Int.toNat_natCast, Int.reduceEq, Int.reduceNe, Int.reduceLT, Int.reduceLE, Int.reduceToNat, Int.reduceAdd, Int.reduceSub, Int.reduceMul, Int.reduceNeg, Nat.reduceAdd, Nat.reduceMul, Nat.reduceSub, iI_lit, jI_lit, iI_add, iI_sub, iI_mul, iI_neg, jI_add, jI_sub, jI_mul, jI_neg, nI_i, lN_j, iI_le, iI_lt, iI_eq, jI_le, jI_lt, jI_eq, iI_in, iI_cl, iI_j, jI_i, cN, inN, wI_eq, wI_ne, wJ_1, wJ_eq, wJ_ne, wI_2, wJ_3, iI_div, iI_rem, jI_div, jI_rem, true_or, or_true, false_or, or_false, eq_self, Nat.add_zero, w58, u, u2, u3, e2]
    refine c12_at hly (by omega) hV hn hi (by omega) (c12_at hly (by omega) hV hn hr (by omega) ?_)
    rw [if_neg (fun q => Nat.lt_irrefl _ q.2), if_neg (fun q => hir q.1.symm)]
    simp (disch := omega) only [forall_eq, true_and, and_true, false_and, and_false, forall_const, true_implies, implies_true, not_true_eq_false, not_false_eq_true, false_implies, if_true, if_false, ↓reduceIte, Int.toNat_natCast, Int.reduceEq, Int.reduceNe, Int.reduceLT, Int.reduceLE, Int.reduceToNat, Int.reduceAdd, Int.reduceSub, Int.reduceMul, Int.reduceNeg, Nat.reduceAdd, Nat.reduceMul, Nat.reduceSub, iI_lit, jI_lit, iI_add, iI_sub, iI_mul, iI_neg, jI_add, jI_sub, jI_mul, jI_neg, nI_i, lN_j, iI_le, iI_lt, iI_eq, jI_le, jI_lt, jI_eq, iI_in, iI_cl, iI_j, jI_i, cN, inN, wI_eq, wI_ne, wJ_1, wJ_eq, wJ_ne, wI_2, wJ_3, iI_div, iI_rem, jI_div, jI_rem, true_or, or_true, false_or, or_false, eq_self, Nat.add_zero, e1, e3]
    refine ⟨by omega, nx _ (by omega) (f1.wI rfl) ((hV.w hn (show x < n by omega)).cg (fun i' k _ hk => ?_))⟩
    rw [upG_at]
    by_cases q : i' = i ∧ k = x
    · rw [if_pos q, if_pos ⟨q.1, by omega⟩, q.2]
    · rw [if_neg q]
      by_cases q2 : i' = i ∧ k < x
      · rw [if_pos q2, if_pos ⟨q2.1, by omega⟩]
      · rw [if_neg q2, if_neg (by omega)]
/-- all rows but the pivot's -/
theorem c12_elim {Q : Int32 → sm_M → Prop} {vs : List Value} {p r col y v : Nat} {H : Nat → Nat → Int} {m0 : sm_M} (hly : ∀ S, L S → ly S) (hd : 5 ≤ d) (hc : c ≤ 24) (hp1 : 2 ≤ p) (hp2 : p ≤ 13) (hn : n ≤ 80) (hcol : col < n) (hrc : r < c) (v45 : m0.1 109 45 = iI (c : Nat)) (v58 : m0.1 109 58 = iI (n : Nat)) (hv : H r col = (v : Int)) (hy2 : y < p) (hy : v * y % p = 1)
    (h : ∀ (m' : sm_M) (G' : Nat → Nat → Int) (f : Nat → Int), fr smP m0 m' → MV m' n G' → GbN c n p G' → f r = 0 → (∀ i j, i < c → j < n → md p (G' i j) (H i j + f i * H r j)) → (∀ i, r < i → i < c → md p (G' i col) 0) → gX12_colours_231 E L d vs (iI (p : Nat)) (iI ((r + 1 : Nat) : Int)) (iI ((col + 1 : Nat) : Int)) m' Q) :
    ∀ (t i : Nat) (m : sm_M) (G : Nat → Nat → Int) (f : Nat → Int), i + t = c → fr smP m0 m → MV m n G → GbN c n p G → f r = 0 → (∀ i' k, i' < c → k < n → md p (G i' k) (H i' k + f i' * H r k)) → (∀ i', i' ≠ r → i' < i → md p (G i' col) 0) → (∀ i' k, (i' = r ∨ i ≤ i') → k < n → G i' k = H i' k) → gX12_colours_372 E L d vs (iI (p : Nat)) (iI (r : Nat)) (iI (col : Nat)) (iI (y : Nat)) (iI (i : Nat)) m Q := by
  intro t
  induction t with
  | zero =>
    intro i m G f hi f1 g1 g2 f0 g3 g4 g5
    have hic : i = c := by omega
    subst hic
    have w45 : m.1 109 45 = iI (i : Nat) := (f1.i (by unfold smP; omega)).trans v45
    refine vX12_colours_372 hly hd ?_
    simp (disch := omega) only [forall_eq, true_and, and_true, false_and, and_false, forall_const, true_implies, implies_true, not_true_eq_false, not_false_eq_true, false_implies, if_true, if_false, ↓reduceIte, Int.toNat_natCast, Int.reduceEq, Int.reduceNe, Int.reduceLT, Int.reduceLE, Int.reduceToNat, Int.reduceAdd, Int.reduceSub, Int.reduceMul, Int.reduceNeg, Nat.reduceAdd, Nat.reduceMul, Nat.reduceSub, iI_lit, jI_lit, iI_add, iI_sub, iI_mul, iI_neg, jI_add, jI_sub, jI_mul, jI_neg, nI_i, lN_j, iI_le, iI_lt, iI_eq, jI_le, jI_lt, jI_eq, iI_in, iI_cl, iI_j, jI_i, cN, inN, wI_eq, wI_ne, wJ_1, wJ_eq, wJ_ne, wI_2, wJ_3, iI_div, iI_rem, jI_div, jI_rem, true_or, or_true, false_or, or_false, eq_self, Nat.add_zero, w45, Int.le_refl]
    exact h m G f f1 g1 g2 f0 g3 (fun i' h1 h2 => g4 i' (by omega) h2)
  | succ t ih =>
    intro i m G f hi f1 g1 g2 f0 g3 g4 g5
    have hic : i < c := by omega
    have nx := ih (i + 1)
    clear ih
    have w45 : m.1 109 45 = iI (c : Nat) := (f1.i (by unfold smP; omega)).trans v45
    have w58 : m.1 109 58 = iI (n : Nat) := (f1.i (by unfold smP; omega)).trans v58
    have u : ¬ ((c : Int) ≤ (i : Int)) := by omega
    have up : (p : Int) ≠ 0 := by omega
    have un : ¬ ((n : Int) ≤ 0) := by omega
    by_cases hir : i = r
    · subst hir
      refine vX12_colours_372 hly hd ?_
      simp (disch := omega) only [forall_eq, true_and, and_true, false_and, and_false, forall_const, true_implies, implies_true, not_true_eq_false, not_false_eq_true, false_implies, if_true, if_false, ↓reduceIte, Int.toNat_natCast, Int.reduceEq, Int.reduceNe, Int.reduceLT, Int.reduceLE, Int.reduceToNat, Int.reduceAdd, Int.reduceSub, Int.reduceMul, Int.reduceNeg, Nat.reduceAdd, Nat.reduceMul, Nat.reduceSub, iI_lit, jI_lit, iI_add, iI_sub, iI_mul, iI_neg, jI_add, jI_sub, jI_mul, jI_neg, nI_i, lN_j, iI_le, iI_lt, iI_eq, jI_le, jI_lt, jI_eq, iI_in, iI_cl, iI_j, jI_i, cN, inN, wI_eq, wI_ne, wJ_1, wJ_eq, wJ_ne, wI_2, wJ_3, iI_div, iI_rem, jI_div, jI_rem, true_or, or_true, false_or, or_false, eq_self, Nat.add_zero, w45, u]
      refine vX12_colours_410 hly hd ?_
      simp (disch := omega) only [forall_eq, true_and, and_true, false_and, and_false, forall_const, true_implies, implies_true, not_true_eq_false, not_false_eq_true, false_implies, if_true, if_false, ↓reduceIte, Int.toNat_natCast, Int.reduceEq, Int.reduceNe, Int.reduceLT, Int.reduceLE, Int.reduceToNat, Int.reduceAdd, Int.reduceSub, Int.reduceMul, Int.reduceNeg, Nat.reduceAdd, Nat.reduceMul, Nat.reduceSub, iI_lit, jI_lit, iI_add, iI_sub, iI_mul, iI_neg, jI_add, jI_sub, jI_mul, jI_neg, nI_i, lN_j, iI_le, iI_lt, iI_eq, jI_le, jI_lt, jI_eq, iI_in, iI_cl, iI_j, jI_i, cN, inN, wI_eq, wI_ne, wJ_1, wJ_eq, wJ_ne, wI_2, wJ_3, iI_div, iI_rem, jI_div, jI_rem, true_or, or_true, false_or, or_false, eq_self, Nat.add_zero, w58, un, Int.le_refl]
      refine nx m G f (by omega) f1 g1 g2 f0 g3 (fun i' h1 h2 => g4 i' h1 (by omega)) (fun i' k h1 h2 => g5 i' k (by omega) h2)
    have hb := g2 i col hic hcol
    have hm0 : 0 ≤ G i col * (y : Int) := Int.mul_nonneg hb.1 (by omega)
    have hm1 : G i col * (y : Int) ≤ 13 * 13 := Int.mul_le_mul (by omega) (by omega) (by omega) (by omega)
    obtain ⟨z, hz⟩ : ∃ z : Nat, (z : Int) = (G i col * (y : Int)) % (p : Int) := ⟨((G i col * (y : Int)) % (p : Int)).toNat, by have := Int.emod_nonneg (G i col * (y : Int)) up; omega⟩
    have hzp : z < p := by have := Int.emod_lt_of_pos (G i col * (y : Int)) (show (0 : Int) < p by omega); omega
    have e : (G i col * (y : Int)).tmod (p : Int) = (z : Int) := by rw [Int.tmod_eq_emod_of_nonneg hm0, hz]
    have hmz : md p (z : Int) (G i col * (y : Int)) := by rw [hz]; exact md_mod _ _
    have uir : ¬ ((i : Int) = (r : Int)) := by omega
    refine vX12_colours_372 hly hd ?_
    simp (disch := omega) only [forall_eq, true_and, and_true, false_and, and_false, forall_const, true_implies, implies_true, not_true_eq_false, not_false_eq_true, false_implies, if_true, if_false, ↓reduceIte, Int.toNat_natCast, Int.reduceEq, Int.reduceNe, Int.reduceLT, Int.reduceLE, Int.reduceToNat, Int.reduceAdd, Int.reduceSub, Int.reduceMul, Int.reduceNeg, Nat.reduceAdd, Nat.reduceMul, Nat.reduceSub, iI_lit, jI_lit, iI_add, iI_sub, iI_mul, iI_neg, jI_add, jI_sub, jI_mul, jI_neg, nI_i, lN_j, iI_le, iI_lt, iI_eq, jI_le, jI_lt, jI_eq, iI_in, iI_cl, iI_j, jI_i, cN, inN, wI_eq, wI_ne, wJ_1, wJ_eq, wJ_ne, wI_2, wJ_3, iI_div, iI_rem, jI_div, jI_rem, true_or, or_true, false_or, or_false, eq_self, Nat.add_zero, w45, u, uir, up]
    refine c12_at hly (by omega) g1 hn (by omega) hcol ?_
    simp (disch := omega) only [forall_eq, true_and, and_true, false_and, and_false, forall_const, true_implies, implies_true, not_true_eq_false, not_false_eq_true, false_implies, if_true, if_false, ↓reduceIte, Int.toNat_natCast, Int.reduceEq, Int.reduceNe, Int.reduceLT, Int.reduceLE, Int.reduceToNat, Int.reduceAdd, Int.reduceSub, Int.reduceMul, Int.reduceNeg, Nat.reduceAdd, Nat.reduceMul, Nat.reduceSub, iI_lit, jI_lit, iI_add, iI_sub, iI_mul, iI_neg, jI_add, jI_sub, jI_mul, jI_neg, nI_i, lN_j, iI_le, iI_lt, iI_eq, jI_le, jI_lt, jI_eq, iI_in, iI_cl, iI_j, jI_i, cN, inN, wI_eq, wI_ne, wJ_1, wJ_eq, wJ_ne, wI_2, wJ_3, iI_div, iI_rem, jI_div, jI_rem, true_or, or_true, false_or, or_false, eq_self, Nat.add_zero, e]
    by_cases hz0 : z = 0
    · subst hz0
      have z0 : ((0 : Nat) : Int) ≤ 0 := by omega
      refine vX12_colours_410 hly hd ?_
      simp (disch := omega) only [forall_eq, true_and, and_true, false_and, and_false, forall_const, true_implies, implies_true, not_true_eq_false, not_false_eq_true, false_implies, if_true, if_false, ↓reduceIte, Int.toNat_natCast, Int.reduceEq, Int.reduceNe, Int.reduceLT, Int.reduceLE, Int.reduceToNat, Int.reduceAdd, Int.reduceSub, Int.reduceMul, Int.reduceNeg, Nat.reduceAdd, Nat.reduceMul, Nat.reduceSub, iI_lit, jI_lit, iI_add, iI_sub, iI_mul, iI_neg, jI_add, jI_sub, jI_mul, jI_neg, nI_i, lN_j, iI_le, iI_lt, iI_eq, jI_le, jI_lt, jI_eq, iI_in, iI_cl, iI_j, jI_i, cN, inN, wI_eq, wI_ne, wJ_1, wJ_eq, wJ_ne, wI_2, wJ_3, iI_div, iI_rem, jI_div, jI_rem, true_or, or_true, false_or, or_false, eq_self, Nat.add_zero, w58, un, z0]
      refine nx m G f (by omega) f1 g1 g2 f0 g3 (fun i' h1 h2 => ?_) (fun i' k h1 h2 => g5 i' k (by omega) h2)
      by_cases hii : i' = i
      · subst hii
        have a1 := (inv_back (x := G i' col) hy).sy
        have a2 := hmz.sy.mulr (v : Int)
        rw [show ((0 : Nat) : Int) * (v : Int) = 0 from Int.zero_mul _] at a2
        exact a1.tr a2
      · exact g4 i' h1 (by omega)
    · have hGr : ∀ k, k < n → G r k = H r k := fun k hk => g5 r k (Or.inl rfl) hk
      have hGi : ∀ k, k < n → G i k = H i k := fun k hk => g5 i k (Or.inr (Nat.le_refl _)) hk
      refine c12_take (G := G) hly hd hn (by omega) (by omega) hir hp1 hp2 (by omega) hzp w58 (fun k hk => g2 i k hic hk) (fun k hk => g2 r k hrc hk) (fun m' f2 g6 => ?_) n 0 m (by omega) fr.rf (g1.cg (fun i' k _ _ => by rw [if_neg (fun q => Nat.not_lt_zero _ q.2)]))
      refine nx m' _ (fun i' => if i' = i then ((p - z : Nat) : Int) else f i') (by omega) (f1.tr f2) g6 (fun i' k h1 h2 => ?_) ?_ (fun i' k h1 h2 => ?_) (fun i' h1 h2 => ?_) (fun i' k h1 h2 => ?_)
      · by_cases hq : i' = i
        · simp only [if_pos hq]
          exact ⟨Int.emod_nonneg _ up, Int.emod_lt_of_pos _ (by omega)⟩
        · simp only [if_neg hq]
          exact g2 i' k h1 h2
      · show (if r = i then _ else f r) = 0
        rw [if_neg (fun q => hir q.symm)]
        exact f0
      · by_cases hii : i' = i
        · subst hii
          simp only [if_pos rfl]
          rw [← hGi k h2, ← hGr k h2]
          exact md_mod _ _
        · simp only [if_neg hii]
          exact g3 i' k h1 h2
      · by_cases hii : i' = i
        · subst hii
          simp only [if_pos rfl]
          refine (md_mod _ _).tr ?_
          rw [hGr col hcol, hv, show ((p - z : Nat) : Int) = (p : Int) - (z : Int) by omega, Int.sub_mul]
          have a1 := inv_back (x := G i' col) hy
          have a2 := (hmz.mulr (v : Int)).tr a1
          obtain ⟨w, hw⟩ := a2
          exact ⟨(v : Int) - w, by rw [Int.mul_sub, ← hw]; omega⟩
        · simp only [if_neg hii]
          exact g4 i' h1 (by omega)
      · simp only [if_neg (show ¬ (i' = i) by omega)]
        exact g5 i' k (by omega) h2
theorem c12_rank {Q : Int32 → sm_M → Prop} {vs : List Value} {p : Nat} {G0 : Nat → Nat → Int} {m0 : sm_M} (hly : ∀ S, L S → ly S) (hd : 5 ≤ d) (hc : c ≤ 24) (hp : isP p) (hn : n ≤ 80) (v45 : m0.1 109 45 = iI (c : Nat)) (v58 : m0.1 109 58 = iI (n : Nat)) (hV0 : MV m0 n G0) (hGb : GbN c n p G0)
    (h : ∀ m' G r col, fr smP m0 m' → EI p c n G0 G r col → (col = n ∨ r = c) → r ≤ c → Q (iI ((n : Int) - (r : Int))) m') : gX12_colours_231 E L d vs (iI (p : Nat)) (iI 0) (iI 0) m0 Q := by
  have hp2 : 2 ≤ p ∧ p ≤ 13 := by unfold isP at hp; omega
  have loop : ∀ (t col r : Nat) (m : sm_M) (G : Nat → Nat → Int), col + t = n → fr smP m0 m → MV m n G → GbN c n p G → EI p c n G0 G r col → gX12_colours_231 E L d vs (iI (p : Nat)) (iI (r : Nat)) (iI (col : Nat)) m Q := by
    intro t
    induction t with
    | zero =>
      intro col r m G hcol f1 g1 g2 hE
      have hcn : col = n := by omega
      subst hcn
      have hrc := hE.1
      have w58 : m.1 109 58 = iI (col : Nat) := (f1.i (by unfold smP; omega)).trans v58
      refine vX12_colours_231 hly hd ?_
      simp (disch := omega) only [forall_eq, true_and, and_true, false_and, and_false, forall_const, true_implies, implies_true, not_true_eq_false, not_false_eq_true, false_implies, if_true, if_false, ↓reduceIte, Int.toNat_natCast, Int.reduceEq, Int.reduceNe, Int.reduceLT, Int.reduceLE, Int.reduceToNat, Int.reduceAdd, Int.reduceSub, Int.reduceMul, Int.reduceNeg, Nat.reduceAdd, Nat.reduceMul, Nat.reduceSub, iI_lit, jI_lit, iI_add, iI_sub, iI_mul, iI_neg, jI_add, jI_sub, jI_mul, jI_neg, nI_i, lN_j, iI_le, iI_lt, iI_eq, jI_le, jI_lt, jI_eq, iI_in, iI_cl, iI_j, jI_i, cN, inN, wI_eq, wI_ne, wJ_1, wJ_eq, wJ_ne, wI_2, wJ_3, iI_div, iI_rem, jI_div, jI_rem, true_or, or_true, false_or, or_false, eq_self, Nat.add_zero, w58, Int.le_refl]
      exact h m G r col f1 hE (Or.inl rfl) hrc
    | succ t ih =>
      intro col r m G hcol f1 g1 g2 hE
      have nx := ih (col + 1)
      clear ih
      have hrc := hE.1
      have w45 : m.1 109 45 = iI (c : Nat) := (f1.i (by unfold smP; omega)).trans v45
      have w58 : m.1 109 58 = iI (n : Nat) := (f1.i (by unfold smP; omega)).trans v58
      have u : ¬ ((n : Int) ≤ (col : Int)) := by omega
      by_cases hrc2 : r = c
      · subst hrc2
        refine vX12_colours_231 hly hd ?_
        simp (disch := omega) only [forall_eq, true_and, and_true, false_and, and_false, forall_const, true_implies, implies_true, not_true_eq_false, not_false_eq_true, false_implies, if_true, if_false, ↓reduceIte, Int.toNat_natCast, Int.reduceEq, Int.reduceNe, Int.reduceLT, Int.reduceLE, Int.reduceToNat, Int.reduceAdd, Int.reduceSub, Int.reduceMul, Int.reduceNeg, Nat.reduceAdd, Nat.reduceMul, Nat.reduceSub, iI_lit, jI_lit, iI_add, iI_sub, iI_mul, iI_neg, jI_add, jI_sub, jI_mul, jI_neg, nI_i, lN_j, iI_le, iI_lt, iI_eq, jI_le, jI_lt, jI_eq, iI_in, iI_cl, iI_j, jI_i, cN, inN, wI_eq, wI_ne, wJ_1, wJ_eq, wJ_ne, wI_2, wJ_3, iI_div, iI_rem, jI_div, jI_rem, true_or, or_true, false_or, or_false, eq_self, Nat.add_zero, w58, w45, u, Int.le_refl]
        exact h m G r col f1 hE (Or.inr rfl) hrc
      have u2 : ¬ ((c : Int) ≤ (r : Int)) := by omega
      have find : ∀ (t2 s : Nat), s + t2 = c → r ≤ s → (∀ i, r ≤ i → i < s → G i col = 0) → gX12_colours_253 E L d vs (iI (p : Nat)) (iI (r : Nat)) (iI (col : Nat)) (iI (s : Nat)) m Q := by
        intro t2
        induction t2 with
        | zero =>
          intro s hs hrs hz
          have hsc : s = c := by omega
          subst hsc
          refine vX12_colours_253 hly hd ?_
          simp (disch := omega) only [forall_eq, true_and, and_true, false_and, and_false, forall_const, true_implies, implies_true, not_true_eq_false, not_false_eq_true, false_implies, if_true, if_false, ↓reduceIte, Int.toNat_natCast, Int.reduceEq, Int.reduceNe, Int.reduceLT, Int.reduceLE, Int.reduceToNat, Int.reduceAdd, Int.reduceSub, Int.reduceMul, Int.reduceNeg, Nat.reduceAdd, Nat.reduceMul, Nat.reduceSub, iI_lit, jI_lit, iI_add, iI_sub, iI_mul, iI_neg, jI_add, jI_sub, jI_mul, jI_neg, nI_i, lN_j, iI_le, iI_lt, iI_eq, jI_le, jI_lt, jI_eq, iI_in, iI_cl, iI_j, jI_i, cN, inN, wI_eq, wI_ne, wJ_1, wJ_eq, wJ_ne, wI_2, wJ_3, iI_div, iI_rem, jI_div, jI_rem, true_or, or_true, false_or, or_false, eq_self, Nat.add_zero, w45, Int.le_refl]
          exact nx r m G (by omega) f1 g1 g2 (EI_no hE (by omega) (fun i h1 h2 => by rw [hz i h1 h2]; exact md.rf))
        | succ t2 ih2 =>
          intro s hs hrs hz
          have u3 : ¬ ((c : Int) ≤ (s : Int)) := by omega
          have u4 : ¬ ((s : Int) = (c : Int)) := by omega
          have hb := g2 s col (by omega) (by omega)
          refine vX12_colours_253 hly hd ?_
          simp (disch := omega) only [forall_eq, true_and, and_true, false_and, and_false, forall_const, true_implies, implies_true, not_true_eq_false, not_false_eq_true, false_implies, if_true, if_false, ↓reduceIte, Int.toNat_natCast, Int.reduceEq, Int.reduceNe, Int.reduceLT, Int.reduceLE, Int.reduceToNat, Int.reduceAdd, Int.reduceSub, Int.reduceMul, Int.reduceNeg, Nat.reduceAdd, Nat.reduceMul, Nat.reduceSub, iI_lit, jI_lit, iI_add, iI_sub, iI_mul, iI_neg, jI_add, jI_sub, jI_mul, jI_neg, nI_i, lN_j, iI_le, iI_lt, iI_eq, jI_le, jI_lt, jI_eq, iI_in, iI_cl, iI_j, jI_i, cN, inN, wI_eq, wI_ne, wJ_1, wJ_eq, wJ_ne, wI_2, wJ_3, iI_div, iI_rem, jI_div, jI_rem, true_or, or_true, false_or, or_false, eq_self, Nat.add_zero, w45, u3]
          refine c12_at hly (by omega) g1 hn (by omega) (by omega) ?_
          simp (disch := omega) only [forall_eq, true_and, and_true, false_and, and_false, forall_const, true_implies, implies_true, not_true_eq_false, not_false_eq_true, false_implies, if_true, if_false, ↓reduceIte, Int.toNat_natCast, Int.reduceEq, Int.reduceNe, Int.reduceLT, Int.reduceLE, Int.reduceToNat, Int.reduceAdd, Int.reduceSub, Int.reduceMul, Int.reduceNeg, Nat.reduceAdd, Nat.reduceMul, Nat.reduceSub, iI_lit, jI_lit, iI_add, iI_sub, iI_mul, iI_neg, jI_add, jI_sub, jI_mul, jI_neg, nI_i, lN_j, iI_le, iI_lt, iI_eq, jI_le, jI_lt, jI_eq, iI_in, iI_cl, iI_j, jI_i, cN, inN, wI_eq, wI_ne, wJ_1, wJ_eq, wJ_ne, wI_2, wJ_3, iI_div, iI_rem, jI_div, jI_rem, true_or, or_true, false_or, or_false, eq_self, Nat.add_zero, w45, u4]
          refine ⟨fun q => ?_, fun q => ?_⟩
          · obtain ⟨v, hv⟩ : ∃ v : Nat, G s col = (v : Int) := ⟨(G s col).toNat, by omega⟩
            have sr : swp G r s r = G s := by unfold swp; rw [if_pos rfl]
            refine c12_swap (G := G) hly hd hn (by omega) (by omega) w58 g1 (fun m1 f2 h1 => ?_) n 0 m (by omega) fr.rf (g1.cg (fun i k _ _ => by rw [if_neg (Nat.not_lt_zero _)]))
            have x45 : m1.1 109 45 = iI (c : Nat) := (f2.i (by unfold smP; omega)).trans w45
            have x58 : m1.1 109 58 = iI (n : Nat) := (f2.i (by unfold smP; omega)).trans w58
            refine c12_at hly (by omega) h1 hn (by omega) (by omega) ?_
            rw [sr, hv]
            refine c12_turned (by omega) hp (by omega) (by omega) (fun y y1 y2 y3 => ?_)
            have gb : GbN c n p (swp G r s) := by
              intro i k h1 h2
              unfold swp
              by_cases a : i = r
              · rw [if_pos a]; exact g2 s k (by omega) h2
              · rw [if_neg a]
                by_cases b : i = s
                · rw [if_pos b]; exact g2 r k (by omega) h2
                · rw [if_neg b]; exact g2 i k h1 h2
            refine c12_elim (H := swp G r s) (v := v) hly hd hc hp2.1 hp2.2 hn (by omega) (by omega) x45 x58 (by rw [sr]; exact hv) y2 y3 (fun m' G' f f3 g3 g4 f0 g5 g6 => ?_) c 0 m1 (swp G r s) (fun _ => 0) (by omega) fr.rf h1 gb rfl (fun i' k h1 h2 => ?_) (fun i' h1 h2 => by omega) (fun i' k h1 h2 => rfl)
            · refine nx (r + 1) m' G' (by omega) (f1.tr (f2.tr f3)) g3 g4 (EI_yes hE (by omega) (by omega) hrs (by omega) ?_ f0 g5 g6)
              rw [hv]
              exact unt_inv y3
            · rw [Int.zero_mul, Int.add_zero]
              exact md.rf
          · refine ih2 (s + 1) (by omega) (by omega) (fun i h1 h2 => ?_)
            by_cases his : i = s
            · rw [his]; exact q
            · exact hz i h1 (by omega)
      refine vX12_colours_231 hly hd ?_
      simp (disch := omega) only [forall_eq, true_and, and_true, false_and, and_false, forall_const, true_implies, implies_true, not_true_eq_false, not_false_eq_true, false_implies, if_true, if_false, ↓reduceIte, Int.toNat_natCast, Int.reduceEq, Int.reduceNe, Int.reduceLT, Int.reduceLE, Int.reduceToNat, Int.reduceAdd, Int.reduceSub, Int.reduceMul, Int.reduceNeg, Nat.reduceAdd, Nat.reduceMul, Nat.reduceSub, iI_lit, jI_lit, iI_add, iI_sub, iI_mul, iI_neg, jI_add, jI_sub, jI_mul, jI_neg, nI_i, lN_j, iI_le, iI_lt, iI_eq, jI_le, jI_lt, jI_eq, iI_in, iI_cl, iI_j, jI_i, cN, inN, wI_eq, wI_ne, wJ_1, wJ_eq, wJ_ne, wI_2, wJ_3, iI_div, iI_rem, jI_div, jI_rem, true_or, or_true, false_or, or_false, eq_self, Nat.add_zero, w58, w45, u, u2]
      exact find (c - r) r (by omega) (Nat.le_refl _) (fun i h1 h2 => by omega)
  exact loop n 0 0 m0 G0 (by omega) fr.rf hV0 hGb EI_0
end MEL
