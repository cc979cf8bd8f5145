/-! the reference draws a tangle, whole -/
section LBA
variable {E : sm_E} {L : sm_S → Prop} {d : Nat}
theorem lvs_crs_mono (t : Nat → Int) (j : Nat) : ∀ q, lvs t j ≤ lvs t (j + q) ∧ crs t j ≤ crs t (j + q) := by
  intro q
  induction q with
  | zero => exact ⟨Nat.le_refl _, Nat.le_refl _⟩
  | succ q ihq =>
    have h2 : lvs t (j + q) ≤ lvs t (j + q + 1) := Nat.le_add_right _ _
    have h3 : crs t (j + q) ≤ crs t (j + q + 1) := Nat.le_add_right _ _
    exact ⟨Nat.le_trans ihq.1 h2, Nat.le_trans ihq.2 h3⟩
theorem mlay_loop {Q : sm_M → Prop} {vs : List Value} {i n side : Nat} {t : Nat → Int} (hly : ∀ S, L S → ly S) (hd : 3 ≤ d) (hi : i < 6) (hn : n ≤ 60) (hv : okT t n) (hlv : lvs t n ≤ 24) (hc : crs t n ≤ 24) (h1 : (ev t n).1 = 1) (hside : side = 0 ∨ side = 1) (m0 : sm_M) (hg : hl m0 i t n) (h : ∀ m', fr dMP m0 m' → dM m' (drEnd (dr t n) side) → Q m') :
    ∀ (r j : Nat) (m : sm_M), j + r = n → fr dMP m0 m → dM m (dr t j) → gX12_lay_15 E L d vs (iI (i : Nat)) (iI (side : Nat)) (iI ((dr t j).1 : Nat)) (iI (j : Nat)) m Q := by
  have hal := dI_all hv hlv hc
  intro r
  induction r with
  | zero =>
    intro j m hj hf hC
    have hjn : j = n := by omega
    subst hjn
    obtain ⟨g1, g2, g3, g4⟩ := hal j (Nat.le_refl _)
    rw [h1] at g2
    have q1 : m.1 112 i = iI (j : Nat) := (hf.i (by unfold dMP; omega)).trans hg.1
    have lt : ∀ k, k < 4 → (dr t j).2.2.2.1 k < 192 := fun k hk => dD_lt (g1.end_lt (by omega)) g1.1 g1.2.1
    have l0 := lt 0 (by omega)
    have l1 := lt 1 (by omega)
    have l2 := lt 2 (by omega)
    have l3 := lt 3 (by omega)
    obtain ⟨v0, v1, v2, v3⟩ := hC.2.2.1 0 (by omega)
    simp only [Nat.mul_zero, Nat.zero_add] at v0 v1 v2 v3
    have t3 : ∀ (f : Nat → Nat) (x y : Nat), x ≠ y → tieN f y x = tieN f x y := fun f x y hxy => funext fun p => by
      unfold tieN
      simp only [upN_at]
      by_cases a : p = x
      · subst a
        rw [if_pos rfl, if_neg hxy, if_pos rfl]
      · by_cases b : p = y
        · subst b
          rw [if_neg a, if_pos rfl, if_pos rfl]
        · rw [if_neg a, if_neg b, if_neg b, if_neg a]
    have ne : ∀ i j' , i < 4 → j' < 4 → i ≠ j' → (dr t j).2.2.2.1 i ≠ (dr t j).2.2.2.1 j' := fun i j' hi hj hn q => hn (g1.2.2.2.2.1 i j' (by omega) (by omega) q)
    have fin : ∀ x1 y1 x2 y2 : Nat, drEnd (dr t j) side = ((dr t j).1, (dr t j).2.1, (dr t j).2.2.1, (dr t j).2.2.2.1, (dr t j).2.2.2.2.1, tieN (tieN (dr t j).2.2.2.2.2.1 x1 y1) x2 y2, (dr t j).2.2.2.2.2.2) → Q (tieM (tieM m 128 x1 y1) 128 x2 y2) := by
      intro x1 y1 x2 y2 he
      refine h _ (tieM_fr (tieM_fr hf (fun k => Or.inr (by omega))) (fun k => Or.inr (by omega))) ?_
      rw [he]
      refine hC.tie (g := (dr t j).1) (x1 := x1) (y1 := y1) (x2 := x2) (y2 := y2) rfl (Nat.le_refl _) rfl rfl ?_ rfl rfl rfl (fun a _ _ _ _ => rfl)
      rw [tieM_oth (by decide), tieM_oth (by decide), tieM_oth (by decide), tieM_oth (by decide), tieM_oth (by decide), tieM_oth (by decide), tieM_oth (by decide), tieM_oth (by decide)]
      exact hC.2.2.1
    refine vX12_lay_15 hly hd ?_
    rcases hside with rfl | rfl
    · have e0 : iI ((0 : Nat) : Int) = iI 0 := rfl
      rw [e0]
      simp (disch := omega) only [forall_eq, true_and, and_true, false_and, and_false, forall_const, true_implies, implies_true, not_true_eq_false, not_false_eq_true, false_implies, if_true, if_false, ↓reduceIte, Int.toNat_natCast, Int.reduceEq, Int.reduceNe, Int.reduceLT, Int.reduceLE, Int.reduceToNat, Int.reduceAdd, Int.reduceSub, Int.reduceMul, Int.reduceNeg, Nat.reduceAdd, Nat.reduceMul, Nat.reduceSub, iI_lit, jI_lit, iI_add, iI_sub, iI_mul, iI_neg, jI_add, jI_sub, jI_mul, jI_neg, nI_i, lN_j, iI_le, iI_lt, iI_eq, jI_le, jI_lt, jI_eq, iI_in, iI_cl, iI_j, jI_i, cN, inN, wI_eq, wI_ne, wJ_1, wJ_eq, wJ_ne, wI_2, wJ_3, iI_div, iI_rem, jI_div, jI_rem, true_or, or_true, false_or, or_false, eq_self, Nat.add_zero, q1, v0, v1, v2, v3, Int.le_refl]
      refine ⟨by omega, vX12_lay_284 hly hd (c12_ties hly (by omega) l0 l1 ?_)⟩
      simp (disch := omega) only [forall_eq, true_and, and_true, false_and, and_false, forall_const, true_implies, implies_true, not_true_eq_false, not_false_eq_true, false_implies, if_true, if_false, ↓reduceIte, Int.toNat_natCast, Int.reduceEq, Int.reduceNe, Int.reduceLT, Int.reduceLE, Int.reduceToNat, Int.reduceAdd, Int.reduceSub, Int.reduceMul, Int.reduceNeg, Nat.reduceAdd, Nat.reduceMul, Nat.reduceSub, iI_lit, jI_lit, iI_add, iI_sub, iI_mul, iI_neg, jI_add, jI_sub, jI_mul, jI_neg, nI_i, lN_j, iI_le, iI_lt, iI_eq, jI_le, jI_lt, jI_eq, iI_in, iI_cl, iI_j, jI_i, cN, inN, wI_eq, wI_ne, wJ_1, wJ_eq, wJ_ne, wI_2, wJ_3, iI_div, iI_rem, jI_div, jI_rem, true_or, or_true, false_or, or_false, eq_self, Nat.add_zero, tieM_oth, v2, v3]
      refine c12_ties hly (by omega) l3 l2 ?_
      refine fin _ _ _ _ ?_
      rw [t3 _ _ _ (ne 2 3 (by omega) (by omega) (by omega))]
      rfl
    · have e0 : iI ((1 : Nat) : Int) = iI 1 := rfl
      rw [e0]
      simp (disch := omega) only [forall_eq, true_and, and_true, false_and, and_false, forall_const, true_implies, implies_true, not_true_eq_false, not_false_eq_true, false_implies, if_true, if_false, ↓reduceIte, Int.toNat_natCast, Int.reduceEq, Int.reduceNe, Int.reduceLT, Int.reduceLE, Int.reduceToNat, Int.reduceAdd, Int.reduceSub, Int.reduceMul, Int.reduceNeg, Nat.reduceAdd, Nat.reduceMul, Nat.reduceSub, iI_lit, jI_lit, iI_add, iI_sub, iI_mul, iI_neg, jI_add, jI_sub, jI_mul, jI_neg, nI_i, lN_j, iI_le, iI_lt, iI_eq, jI_le, jI_lt, jI_eq, iI_in, iI_cl, iI_j, jI_i, cN, inN, wI_eq, wI_ne, wJ_1, wJ_eq, wJ_ne, wI_2, wJ_3, iI_div, iI_rem, jI_div, jI_rem, true_or, or_true, false_or, or_false, eq_self, Nat.add_zero, q1, v0, v1, v2, v3, Int.le_refl]
      refine ⟨by omega, vX12_lay_284 hly hd (c12_ties hly (by omega) l0 l2 ?_)⟩
      simp (disch := omega) only [forall_eq, true_and, and_true, false_and, and_false, forall_const, true_implies, implies_true, not_true_eq_false, not_false_eq_true, false_implies, if_true, if_false, ↓reduceIte, Int.toNat_natCast, Int.reduceEq, Int.reduceNe, Int.reduceLT, Int.reduceLE, Int.reduceToNat, Int.reduceAdd, Int.reduceSub, Int.reduceMul, Int.reduceNeg, Nat.reduceAdd, Nat.reduceMul, Nat.reduceSub, iI_lit, jI_lit, iI_add, iI_sub, iI_mul, iI_neg, jI_add, jI_sub, jI_mul, jI_neg, nI_i, lN_j, iI_le, iI_lt, iI_eq, jI_le, jI_lt, jI_eq, iI_in, iI_cl, iI_j, jI_i, cN, inN, wI_eq, wI_ne, wJ_1, wJ_eq, wJ_ne, wI_2, wJ_3, iI_div, iI_rem, jI_div, jI_rem, true_or, or_true, false_or, or_false, eq_self, Nat.add_zero, tieM_oth, v1, v3]
      refine c12_ties hly (by omega) l3 l1 ?_
      refine fin _ _ _ _ ?_
      rw [t3 _ _ _ (ne 1 3 (by omega) (by omega) (by omega))]
      rfl
  | succ r ih =>
    intro j m hj hf hC
    obtain ⟨g1, g2, g3, g4⟩ := hal j (by omega)
    have hz := hv j (by omega)
    have q1 : m.1 112 i = iI (n : Nat) := (hf.i (by unfold dMP; omega)).trans hg.1
    have q2 : m.1 111 (60 * i + j) = iI (tc (t j)) := (hf.i (by unfold dMP; omega)).trans (hg.2 j (by omega))
    have u : ¬ ((n : Int) ≤ (j : Int)) := by omega
    have hl3 := lvs_crs_mono t (j + 1) r
    rw [show j + 1 + r = n by omega] at hl3
    have hev := ev_h t j
    have hstep : dr t (j + 1) = drStep (dr t j) (t j) := rfl
    have e60 : 60 * (i : Int) + (j : Int) = ((60 * i + j : Nat) : Int) := by omega
    have ej : (j : Int) + 1 = ((j + 1 : Nat) : Int) := by omega
    have K := fun m' (f1 : fr dMP m m') (C1 : dM m' (drStep (dr t j) (t j))) => ih (j + 1) m' (by omega) (hf.tr f1) C1
    rw [hstep] at K
    have htc : tc (t j) = if t j ≤ 10 then t j else t j + 9 := rfl
    have l1 : lvs t (j + 1) = lvs t j + (if t j ≤ 10 then 1 else 0) := rfl
    have c1 : crs t (j + 1) = crs t j + (if t j < 10 then (t j).natAbs else 0) := rfl
    have hhc := drStep_hc (dr t j) (t j)
    clear ih
    generalize dr t j = s at *
    generalize t j = z at *
    generalize ev t j = w at *
    refine vX12_lay_15 hly hd ?_
    by_cases z10 : z ≤ 10
    · rw [if_pos z10] at htc l1
      rw [htc] at q2
      have u2 : ¬ (10 < z) := by omega
      simp (disch := omega) only [forall_eq, true_and, and_true, false_and, and_false, forall_const, true_implies, implies_true, not_true_eq_false, not_false_eq_true, false_implies, if_true, if_false, ↓reduceIte, Int.toNat_natCast, Int.reduceEq, Int.reduceNe, Int.reduceLT, Int.reduceLE, Int.reduceToNat, Int.reduceAdd, Int.reduceSub, Int.reduceMul, Int.reduceNeg, Nat.reduceAdd, Nat.reduceMul, Nat.reduceSub, iI_lit, jI_lit, iI_add, iI_sub, iI_mul, iI_neg, jI_add, jI_sub, jI_mul, jI_neg, nI_i, lN_j, iI_le, iI_lt, iI_eq, jI_le, jI_lt, jI_eq, iI_in, iI_cl, iI_j, jI_i, cN, inN, wI_eq, wI_ne, wJ_1, wJ_eq, wJ_ne, wI_2, wJ_3, iI_div, iI_rem, jI_div, jI_rem, true_or, or_true, false_or, or_false, eq_self, Nat.add_zero, q1, e60, q2, u, u2]
      refine ⟨by omega, by omega, c12_layLeaf hly (by omega) hC hz.1 z10 (by omega) (by omega) (by rw [g3]; omega) (fun m' f1 C1 => ?_)⟩
      rw [← drStep_leaf z10] at C1
      obtain ⟨y1, y2, y3, y4⟩ := dI_leaf (z := z) g1 hz.1 z10 (by omega) (by omega) (by rw [g3]; omega)
      rw [← drStep_leaf z10] at y2
      have := K m' f1 C1
      rw [y2] at this
      simp (disch := omega) only [forall_eq, true_and, and_true, false_and, and_false, forall_const, true_implies, implies_true, not_true_eq_false, not_false_eq_true, false_implies, if_true, if_false, ↓reduceIte, Int.toNat_natCast, Int.reduceEq, Int.reduceNe, Int.reduceLT, Int.reduceLE, Int.reduceToNat, Int.reduceAdd, Int.reduceSub, Int.reduceMul, Int.reduceNeg, Nat.reduceAdd, Nat.reduceMul, Nat.reduceSub, iI_lit, jI_lit, iI_add, iI_sub, iI_mul, iI_neg, jI_add, jI_sub, jI_mul, jI_neg, nI_i, lN_j, iI_le, iI_lt, iI_eq, jI_le, jI_lt, jI_eq, iI_in, iI_cl, iI_j, jI_i, cN, inN, wI_eq, wI_ne, wJ_1, wJ_eq, wJ_ne, wI_2, wJ_3, iI_div, iI_rem, jI_div, jI_rem, true_or, or_true, false_or, or_false, eq_self, Nat.add_zero, ej]
      exact this
    · rw [if_neg z10] at htc
      rw [htc] at q2
      have u2 : 10 < z + 9 := by omega
      have hs1 := hz.2.2.1 (by omega)
      obtain ⟨h1', h2', h3'⟩ := hhc (by omega)
      obtain ⟨g, hgs⟩ : ∃ g, s.1 = g + 1 := ⟨s.1 - 1, by omega⟩
      have eg : ((g : Int) + 1) - 1 = (g : Int) := by omega
      have sg : iI (s.1 : Nat) = iI ((g : Int) + 1) := by rw [hgs]; rfl
      rw [sg]
      simp (disch := omega) only [forall_eq, true_and, and_true, false_and, and_false, forall_const, true_implies, implies_true, not_true_eq_false, not_false_eq_true, false_implies, if_true, if_false, ↓reduceIte, Int.toNat_natCast, Int.reduceEq, Int.reduceNe, Int.reduceLT, Int.reduceLE, Int.reduceToNat, Int.reduceAdd, Int.reduceSub, Int.reduceMul, Int.reduceNeg, Nat.reduceAdd, Nat.reduceMul, Nat.reduceSub, iI_lit, jI_lit, iI_add, iI_sub, iI_mul, iI_neg, jI_add, jI_sub, jI_mul, jI_neg, nI_i, lN_j, iI_le, iI_lt, iI_eq, jI_le, jI_lt, jI_eq, iI_in, iI_cl, iI_j, jI_i, cN, inN, wI_eq, wI_ne, wJ_1, wJ_eq, wJ_ne, wI_2, wJ_3, iI_div, iI_rem, jI_div, jI_rem, true_or, or_true, false_or, or_false, eq_self, Nat.add_zero, q1, e60, q2, u, u2]
      refine ⟨by omega, by omega, fun n22 => ⟨fun n23 => ?_, fun n23 => ?_⟩, fun n22 => ?_⟩
      · have hs2 := hz.2.2.2 (by omega) (by omega)
        obtain ⟨g', hgg⟩ : ∃ g', g = g' + 1 := ⟨g - 1, by omega⟩
        subst hgg
        rw [if_pos (by omega), hgs] at h1'
        have e1 : ((g' + 1 : Nat) : Int) + 1 + -1 = ((g' + 1 : Nat) : Int) := by omega
        have e2 : ((g' + 1 : Nat) : Int) + 1 + -1 - 1 = (g' : Int) := by omega
        have J := m_join (E := E) (L := L) (d := d) (vs := vs) (Q := Q) (m := m) (s := s) (g := g') (i := i) (j := j) (z := z) hly hd hgs g1 hC (by omega) hi (iI (side : Nat)) (fun m' f1 C1 => by
          have := K m' f1 C1
          rw [h1'] at this
          exact this)
        rw [e1]
        have e3 : ((g' + 1 : Nat) : Int) - 1 = (g' : Int) := by omega
        rw [e3]
        refine ⟨fun z20 => ⟨by omega, ?_⟩, fun z20 => ⟨by omega, ?_⟩⟩
        · rw [if_neg (by omega)] at J
          rw [Int.toNat_natCast]
          exact J
        · rw [if_pos (by omega)] at J
          rw [Int.toNat_natCast]
          exact J
      · have hz14 : z = 14 := by omega
        subst hz14
        have hst : drStep s 14 = drMir s := rfl
        obtain ⟨c1', c2', c3', c4', c5', c6', c7'⟩ := hC
        obtain ⟨a1, a2, a3, a4, a5, a6, a7, a8, a9⟩ := g1
        have v0 := c4' g (by omega)
        have hf6 := a6 g (by omega)
        rw [eg]
        refine ⟨by omega, ?_⟩
        rw [Int.toNat_natCast, v0]
        refine m_flip_loop (f := s.2.2.2.2.1 g) (c := s.2.1) (po := s.2.2.2.2.2.2.2) hly hd a1 a9 m (fun m' f1 f2 => ?_) (s.2.1 - s.2.2.2.2.1 g) _ m (by omega) (Nat.le_refl _) c1' fr.rf (fun b h1 h2 => absurd h1 (by omega)) (fun b h1 h2 => c7' b (by have := a9 b h2; omega))
        have hgg : s.1 - 1 = g := by omega
        have := K m' (f1.mono (fun a k hk => Or.inr (by omega))) (by
          rw [hst]
          refine ⟨?_, ?_, ?_, ?_, ?_, ?_, ?_⟩
          · rw [f1.i (by omega)]; exact c1'
          · rw [f1.i (by omega)]; exact c2'
          · intro k hk
            rw [f1.i (by omega), f1.i (by omega), f1.i (by omega), f1.i (by omega)]; exact c3' k hk
          · intro k hk
            rw [f1.i (by omega)]; exact c4' k hk
          · intro k hk
            rw [f1.i (by omega)]; exact c5' k hk
          · intro b q hq hb
            rw [f1.i (by omega)]; exact c6' b q hq hb
          · intro b hb
            have hb2 : (if s.2.2.2.2.1 (s.1 - 1) ≤ b ∧ b < s.2.1 then 1 - s.2.2.2.2.2.2.2 b else s.2.2.2.2.2.2.2 b) ≠ 9 := hb
            show m'.1 130 b = iI (2 * ((if s.2.2.2.2.1 (s.1 - 1) ≤ b ∧ b < s.2.1 then 1 - s.2.2.2.2.2.2.2 b else s.2.2.2.2.2.2.2 b : Nat) : Int) - 1)
            rw [hgg] at hb2 ⊢
            by_cases hcond : s.2.2.2.2.1 g ≤ b ∧ b < s.2.1
            · rw [if_pos hcond]
              exact f2 b hcond.1 hcond.2
            · rw [if_neg hcond] at hb2 ⊢
              rw [f1.i (by omega)]
              exact c7' b hb2)
        rw [hst] at this
        have hm1 : (drMir s).1 = s.1 := rfl
        rw [hm1, sg] at this
        rw [iI_lit, iI_add, ej]
        exact this
      · have hz13 : z = 13 := by omega
        subst hz13
        rw [eg]
        refine c12_turns hly (by omega) hgs g1 hC (fun m' f1 C1 => ?_)
        have := K m' f1 C1
        have hst : drStep s 13 = drTurn s := rfl
        rw [hst] at this
        have hm1 : (drTurn s).1 = s.1 := rfl
        rw [hm1, sg] at this
        simp (disch := omega) only [forall_eq, true_and, and_true, false_and, and_false, forall_const, true_implies, implies_true, not_true_eq_false, not_false_eq_true, false_implies, if_true, if_false, ↓reduceIte, Int.toNat_natCast, Int.reduceEq, Int.reduceNe, Int.reduceLT, Int.reduceLE, Int.reduceToNat, Int.reduceAdd, Int.reduceSub, Int.reduceMul, Int.reduceNeg, Nat.reduceAdd, Nat.reduceMul, Nat.reduceSub, iI_lit, jI_lit, iI_add, iI_sub, iI_mul, iI_neg, jI_add, jI_sub, jI_mul, jI_neg, nI_i, lN_j, iI_le, iI_lt, iI_eq, jI_le, jI_lt, jI_eq, iI_in, iI_cl, iI_j, jI_i, cN, inN, wI_eq, wI_ne, wJ_1, wJ_eq, wJ_ne, wI_2, wJ_3, iI_div, iI_rem, jI_div, jI_rem, true_or, or_true, false_or, or_false, eq_self, Nat.add_zero, ej]
        exact this
theorem c12_drawn {Q : sm_M → Prop} {m : sm_M} {i n side : Nat} {t : Nat → Int} (hly : ∀ S, L S → ly S) (hd : 3 ≤ d) (hi : i < 6) (hn : n ≤ 60) (hv : okT t n) (hlv : lvs t n ≤ 24) (hc : crs t n ≤ 24) (h1 : (ev t n).1 = 1) (hside : side = 0 ∨ side = 1) (hg : hl m i t n) (h : ∀ m', fr dMP m m' → dM m' (drEnd (dr t n) side) → Q m') : sm_callV E L mX12_lay d 0 0 [.ref (sm_B E + 109), .int (iI (i : Nat)), .int (iI (side : Nat))] m Q := by
  refine vX12_lay_0 hly hd ?_
  simp (disch := omega) only [forall_eq, true_and, and_true, false_and, and_false, forall_const, true_implies, implies_true, not_true_eq_false, not_false_eq_true, false_implies, if_true, if_false, ↓reduceIte, Int.toNat_natCast, Int.reduceEq, Int.reduceNe, Int.reduceLT, Int.reduceLE, Int.reduceToNat, Int.reduceAdd, Int.reduceSub, Int.reduceMul, Int.reduceNeg, Nat.reduceAdd, Nat.reduceMul, Nat.reduceSub, iI_lit, jI_lit, iI_add, iI_sub, iI_mul, iI_neg, jI_add, jI_sub, jI_mul, jI_neg, nI_i, lN_j, iI_le, iI_lt, iI_eq, jI_le, jI_lt, jI_eq, iI_in, iI_cl, iI_j, jI_i, cN, inN, wI_eq, wI_ne, wJ_1, wJ_eq, wJ_ne, wI_2, wJ_3, iI_div, iI_rem, jI_div, jI_rem, true_or, or_true, false_or, or_false, eq_self, Nat.add_zero]
  have f1 : fr dMP m (sm_wI (sm_wI m 109 45 (iI 0)) 109 46 (iI 0)) := (fr.rf.wI (Or.inl ⟨rfl, by decide⟩)).wI (Or.inl ⟨rfl, by decide⟩)
  refine mlay_loop hly hd hi hn hv hlv hc h1 hside m hg h n 0 _ (by omega) f1 ⟨?_, ?_, fun k hk => ?_, fun k hk => ?_, fun p hp => ?_, fun b q hq hb => ?_, fun b hb => ?_⟩
  · simp (disch := omega) only [forall_eq, true_and, and_true, false_and, and_false, forall_const, true_implies, implies_true, not_true_eq_false, not_false_eq_true, false_implies, if_true, if_false, ↓reduceIte, Int.toNat_natCast, Int.reduceEq, Int.reduceNe, Int.reduceLT, Int.reduceLE, Int.reduceToNat, Int.reduceAdd, Int.reduceSub, Int.reduceMul, Int.reduceNeg, Nat.reduceAdd, Nat.reduceMul, Nat.reduceSub, iI_lit, jI_lit, iI_add, iI_sub, iI_mul, iI_neg, jI_add, jI_sub, jI_mul, jI_neg, nI_i, lN_j, iI_le, iI_lt, iI_eq, jI_le, jI_lt, jI_eq, iI_in, iI_cl, iI_j, jI_i, cN, inN, wI_eq, wI_ne, wJ_1, wJ_eq, wJ_ne, wI_2, wJ_3, iI_div, iI_rem, jI_div, jI_rem, true_or, or_true, false_or, or_false, eq_self, Nat.add_zero]
    rfl
  · simp (disch := omega) only [forall_eq, true_and, and_true, false_and, and_false, forall_const, true_implies, implies_true, not_true_eq_false, not_false_eq_true, false_implies, if_true, if_false, ↓reduceIte, Int.toNat_natCast, Int.reduceEq, Int.reduceNe, Int.reduceLT, Int.reduceLE, Int.reduceToNat, Int.reduceAdd, Int.reduceSub, Int.reduceMul, Int.reduceNeg, Nat.reduceAdd, Nat.reduceMul, Nat.reduceSub, iI_lit, jI_lit, iI_add, iI_sub, iI_mul, iI_neg, jI_add, jI_sub, jI_mul, jI_neg, nI_i, lN_j, iI_le, iI_lt, iI_eq, jI_le, jI_lt, jI_eq, iI_in, iI_cl, iI_j, jI_i, cN, inN, wI_eq, wI_ne, wJ_1, wJ_eq, wJ_ne, wI_2, wJ_3, iI_div, iI_rem, jI_div, jI_rem, true_or, or_true, false_or, or_false, eq_self, Nat.add_zero]
    rfl
  · exact absurd hk (Nat.not_lt_zero _)
  · exact absurd hk (Nat.not_lt_zero _)
  · exact absurd rfl hp
  · exact absurd rfl hb
  · exact absurd rfl hb
end LBA
