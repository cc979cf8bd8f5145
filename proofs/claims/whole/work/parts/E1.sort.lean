/-! the class sorts -/
/-- g has the numbers of g0, each once -/
def prm (n : Nat) (g0 g : Nat → Nat) : Prop := (∀ i, i < n → ∃ k, k < n ∧ g i = g0 k) ∧ (∀ k, k < n → ∃ i, i < n ∧ g i = g0 k) ∧ ∀ i j, i < n → j < n → g i = g j → i = j
theorem prm.sw {n p q : Nat} {g0 G : Nat → Nat} (h : prm n g0 G) (hp : p < n) (hq : q < n) : prm n g0 (fun i => if i = p then G q else if i = q then G p else G i) := by
  obtain ⟨h1, h2, h3⟩ := h
  have at' : ∀ i, i < n → ∃ k, k < n ∧ (if i = p then G q else if i = q then G p else G i) = G k := fun i hi => by
    by_cases a : i = p
    · exact ⟨q, hq, by rw [if_pos a]⟩
    · by_cases b : i = q
      · exact ⟨p, hp, by rw [if_neg a, if_pos b]⟩
      · exact ⟨i, hi, by rw [if_neg a, if_neg b]⟩
  refine ⟨fun i hi => ?_, fun k hk => ?_, fun i j hi hj e => ?_⟩
  · obtain ⟨k, hk, e⟩ := at' i hi
    obtain ⟨k', hk', e'⟩ := h1 k hk
    exact ⟨k', hk', e.trans e'⟩
  · obtain ⟨i, hi, e⟩ := h2 k hk
    by_cases a : i = p
    · refine ⟨q, hq, ?_⟩
      show (if q = p then G q else if q = q then G p else G q) = g0 k
      by_cases b : q = p
      · rw [if_pos b, b, ← a]; exact e
      · rw [if_neg b, if_pos rfl, ← a]; exact e
    · by_cases b : i = q
      · exact ⟨p, hp, by show (if p = p then G q else _) = g0 k; rw [if_pos rfl, ← b]; exact e⟩
      · exact ⟨i, hi, by show (if i = p then G q else if i = q then G p else G i) = g0 k; rw [if_neg a, if_neg b]; exact e⟩
  · simp only at e
    by_cases a1 : i = p
    · by_cases b1 : j = p
      · omega
      · rw [if_pos a1, if_neg b1] at e
        by_cases b2 : j = q
        · rw [if_pos b2] at e
          have := h3 q p hq hp e
          omega
        · rw [if_neg b2] at e
          have := h3 q j hq hj e
          omega
    · rw [if_neg a1] at e
      by_cases a2 : i = q
      · rw [if_pos a2] at e
        by_cases b1 : j = p
        · rw [if_pos b1] at e
          have := h3 p q hp hq e
          omega
        · rw [if_neg b1] at e
          by_cases b2 : j = q
          · omega
          · rw [if_neg b2] at e
            have := h3 p j hp hj e
            omega
      · rw [if_neg a2] at e
        by_cases b1 : j = p
        · rw [if_pos b1] at e
          have := h3 i q hi hq e
          omega
        · rw [if_neg b1] at e
          by_cases b2 : j = q
          · rw [if_pos b2] at e
            have := h3 i p hi hp e
            omega
          · rw [if_neg b2] at e
            exact h3 i j hi hj e
theorem prm.cg {n : Nat} {g0 g g' : Nat → Nat} (h : prm n g0 g) (e : ∀ i, i < n → g' i = g i) : prm n g0 g' := by
  obtain ⟨h1, h2, h3⟩ := h
  refine ⟨fun i hi => ?_, fun k hk => ?_, fun i j hi hj q => h3 i j hi hj (by rw [← e i hi, ← e j hj]; exact q)⟩
  · rw [e i hi]; exact h1 i hi
  · obtain ⟨i, hi, q⟩ := h2 k hk
    exact ⟨i, hi, by rw [e i hi]; exact q⟩
section SRT
variable {E : sm_E} {L : sm_S → Prop} {d : Nat}
/-- the row a holds g -/
def rwI (m : sm_M) (a n : Nat) (g : Nat → Nat) : Prop := ∀ i, i < n → m.1 a i = iI (g i : Nat)
theorem rwI.w {m : sm_M} {a n j v : Nat} {g : Nat → Nat} (h : rwI m a n g) : rwI (sm_wI m a j (iI (v : Nat))) a n (upN g j v) := by
  intro i hi
  rw [upN_at]
  by_cases q : i = j
  · rw [if_pos q, wI_eq rfl q]
  · rw [if_neg q, wI_ne (Or.inr q)]
    exact h i hi
theorem c_insert {Q : sm_M → Prop} {vs : List Value} {a na n gap i num : Nat} {g0 : Nat → Nat} {m0 : sm_M} (hT : ∀ S, L S → sm_K S a = 11 ∧ sm_N S a = na) (hd : 1 ≤ d) (hn : n ≤ na) (hna : na ≤ 1024) (hg : 1 ≤ gap) (hgn : gap ≤ 1024) (hi : i < n) (hB : ∀ k, k < n → g0 k < 1000000)
    (h : ∀ m' g, fr (fun b _ => b = a) m0 m' → rwI m' a n g → prm n g0 g → (gap = 1 → ∀ x y, x < y → y < i + 1 → g x < g y) → gX5_sort_10 E L d vs a (iI (n : Nat)) (iI (gap : Nat)) (iI ((i + 1 : Nat) : Int)) m' Q) :
    ∀ (j : Nat) (m : sm_M) (g : Nat → Nat), j ≤ i → fr (fun b _ => b = a) m0 m → rwI m a n g → prm n g0 (upN g j num) → (gap = 1 → ∀ x y, x < y → y < i + 1 → y ≠ j → upN g j num x < upN g j num y) → gX5_sort_29 E L d vs a (iI (n : Nat)) (iI (gap : Nat)) (iI (i : Nat)) (iI (num : Nat)) (iI (j : Nat)) m Q := by
  intro j
  induction j using Nat.strongRecOn with
  | ind j ih =>
    intro m g hj f1 hr hp hs
    have hnum : num < 1000000 := by
      obtain ⟨k, hk, e⟩ := hp.1 j (by omega)
      rw [upN_eq] at e
      rw [e]
      exact hB k hk
    have stop : (gap = 1 → ∀ x, x < j → g x < num) → gX5_sort_10 E L d vs a (iI (n : Nat)) (iI (gap : Nat)) (iI ((i + 1 : Nat) : Int)) (sm_wI m a j (iI (num : Nat))) Q := by
      intro hst
      refine h _ (upN g j num) (f1.wI rfl) hr.w hp (fun g1 x y hxy hy => ?_)
      by_cases hyj : y = j
      · subst hyj
        rw [upN_eq, upN_ne (by omega)]
        exact hst g1 x hxy
      · exact hs g1 x y hxy hy hyj
    by_cases hjg : j < gap
    · have u : (j : Int) < (gap : Int) := by omega
      refine vX5_sort_29 hd hT ?_
      simp (disch := omega) only [forall_eq, true_and, and_true, false_and, and_false, forall_const, true_implies, implies_true, not_true_eq_false, not_false_eq_true, false_implies, if_true, if_false, ↓reduceIte, Int.toNat_natCast, Int.reduceEq, Int.reduceNe, Int.reduceLT, Int.reduceLE, Int.reduceToNat, Int.reduceAdd, Int.reduceSub, Int.reduceMul, Int.reduceNeg, Nat.reduceAdd, Nat.reduceMul, Nat.reduceSub, iI_lit, jI_lit, iI_add, iI_sub, iI_mul, iI_neg, jI_add, jI_sub, jI_mul, jI_neg, nI_i, lN_j, iI_le, iI_lt, iI_eq, jI_le, jI_lt, jI_eq, iI_in, iI_cl, iI_j, jI_i, cN, inN, wI_eq, wI_ne, wJ_1, wJ_eq, wJ_ne, wI_2, wJ_3, iI_div, iI_rem, jI_div, jI_rem, true_or, or_true, false_or, or_false, eq_self, Nat.add_zero, u]
      exact ⟨by omega, stop (fun g1 x hx => by omega)⟩
    · have u : ¬ ((j : Int) < (gap : Int)) := by omega
      obtain ⟨q, hq⟩ : ∃ q, q = j - gap := ⟨_, rfl⟩
      have e1 : (j : Int) - (gap : Int) = (q : Int) := by omega
      have v := hr q (by omega)
      have hgq : g q < 1000000 := by
        obtain ⟨k, hk, e⟩ := hp.1 q (by omega)
        rw [upN_ne (by omega)] at e
        rw [e]
        exact hB k hk
      refine vX5_sort_29 hd hT ?_
      simp (disch := omega) only [forall_eq, true_and, and_true, false_and, and_false, forall_const, true_implies, implies_true, not_true_eq_false, not_false_eq_true, false_implies, if_true, if_false, ↓reduceIte, Int.toNat_natCast, Int.reduceEq, Int.reduceNe, Int.reduceLT, Int.reduceLE, Int.reduceToNat, Int.reduceAdd, Int.reduceSub, Int.reduceMul, Int.reduceNeg, Nat.reduceAdd, Nat.reduceMul, Nat.reduceSub, iI_lit, jI_lit, iI_add, iI_sub, iI_mul, iI_neg, jI_add, jI_sub, jI_mul, jI_neg, nI_i, lN_j, iI_le, iI_lt, iI_eq, jI_le, jI_lt, jI_eq, iI_in, iI_cl, iI_j, jI_i, cN, inN, wI_eq, wI_ne, wJ_1, wJ_eq, wJ_ne, wI_2, wJ_3, iI_div, iI_rem, jI_div, jI_rem, true_or, or_true, false_or, or_false, eq_self, Nat.add_zero, u, e1, v]
      refine ⟨by omega, fun le => ⟨by omega, stop (fun g1 x hx => ?_)⟩, fun gt => ⟨by omega, by omega, ?_⟩⟩
      · have hne : g q ≠ num := fun z => by
          have := hp.2.2 q j (by omega) (by omega) (by rw [upN_eq, upN_ne (by omega)]; exact z)
          omega
        by_cases hxq : x = q
        · rw [hxq]; omega
        · have := hs g1 x q (by omega) (by omega) (by omega)
          rw [upN_ne (by omega), upN_ne (by omega)] at this
          omega
      · have esw : ∀ x, upN (upN g j (g q)) q num x = if x = q then upN g j num j else if x = j then upN g j num q else upN g j num x := by
          intro x
          rw [upN_at, upN_at, upN_eq, upN_ne (show q ≠ j by omega)]
          by_cases x1 : x = q
          · rw [if_pos x1, if_pos x1]
          · rw [if_neg x1, if_neg x1]
            by_cases x2 : x = j
            · rw [if_pos x2, if_pos x2]
            · rw [if_neg x2, if_neg x2, upN_ne x2]
        refine ih q (by omega) _ (upN g j (g q)) (by omega) (f1.wI rfl) hr.w ((hp.sw (p := q) (q := j) (by omega) (by omega)).cg (fun x _ => esw x)) (fun g1 x y hxy hy hyq => ?_)
        rw [esw, esw, if_neg hyq]
        have eN : upN g j num j = num := upN_eq
        have eQ : upN g j num q = g q := upN_ne (by omega)
        by_cases hyj : y = j
        · rw [if_pos hyj]
          by_cases hxq : x = q
          · rw [if_pos hxq, eN, eQ]
            omega
          · rw [if_neg hxq, if_neg (by omega)]
            exact hs g1 x q (by omega) (by omega) (by omega)
        · rw [if_neg hyj]
          by_cases hxq : x = q
          · rw [if_pos hxq]
            exact hs g1 j y (by omega) hy hyj
          · rw [if_neg hxq]
            by_cases hxj : x = j
            · rw [if_pos hxj]
              exact hs g1 q y (by omega) hy hyj
            · rw [if_neg hxj]
              exact hs g1 x y hxy hy hyj
theorem c_sort {Q : sm_M → Prop} {a na n : Nat} {g0 : Nat → Nat} {m0 : sm_M} (hT : ∀ S, L S → sm_K S a = 11 ∧ sm_N S a = na) (hd : 1 ≤ d) (hn : n ≤ na) (hna : na ≤ 1024) (hB : ∀ k, k < n → g0 k < 1000000) (hi : ∀ i j, i < n → j < n → g0 i = g0 j → i = j) (h0 : rwI m0 a n g0)
    (h : ∀ m' g, fr (fun b _ => b = a) m0 m' → rwI m' a n g → prm n g0 g → (∀ x y, x < y → y < n → g x < g y) → Q m') : sm_callV E L mX5_sort d 0 0 [.ref (sm_B E + a), .int (iI (n : Nat))] m0 Q := by
  have gaps : ∀ (gap : Nat) (m : sm_M) (g : Nat → Nat), gap ≤ n → fr (fun b _ => b = a) m0 m → rwI m a n g → prm n g0 g → (gap = 0 → ∀ x y, x < y → y < n → g x < g y) → gX5_sort_4 E L d [.ref (sm_B E + a), .int (iI (n : Nat))] a (iI (n : Nat)) (iI (gap : Nat)) m Q := by
    intro gap
    induction gap using Nat.strongRecOn with
    | ind gap ih =>
      intro m g hgn f1 hr hp hs
      by_cases hg0 : gap = 0
      · subst hg0
        have u : ((0 : Nat) : Int) ≤ 0 := by omega
        refine vX5_sort_4 hd hT ?_
        simp (disch := omega) only [forall_eq, true_and, and_true, false_and, and_false, forall_const, true_implies, implies_true, not_true_eq_false, not_false_eq_true, false_implies, if_true, if_false, ↓reduceIte, Int.toNat_natCast, Int.reduceEq, Int.reduceNe, Int.reduceLT, Int.reduceLE, Int.reduceToNat, Int.reduceAdd, Int.reduceSub, Int.reduceMul, Int.reduceNeg, Nat.reduceAdd, Nat.reduceMul, Nat.reduceSub, iI_lit, jI_lit, iI_add, iI_sub, iI_mul, iI_neg, jI_add, jI_sub, jI_mul, jI_neg, nI_i, lN_j, iI_le, iI_lt, iI_eq, jI_le, jI_lt, jI_eq, iI_in, iI_cl, iI_j, jI_i, cN, inN, wI_eq, wI_ne, wJ_1, wJ_eq, wJ_ne, wI_2, wJ_3, iI_div, iI_rem, jI_div, jI_rem, true_or, or_true, false_or, or_false, eq_self, Nat.add_zero, u]
        exact h m g f1 hr hp (hs rfl)
      · have u : ¬ ((gap : Int) ≤ 0) := by omega
        have ed : (gap : Int).tdiv 2 = ((gap / 2 : Nat) : Int) := by rw [Int.tdiv_eq_ediv_of_nonneg (by omega)]; rfl
        have pass : ∀ (r i : Nat) (m1 : sm_M) (g1 : Nat → Nat), i + r = n → fr (fun b _ => b = a) m0 m1 → rwI m1 a n g1 → prm n g0 g1 → (gap = 1 → ∀ x y, x < y → y < i → g1 x < g1 y) → gX5_sort_10 E L d [.ref (sm_B E + a), .int (iI (n : Nat))] a (iI (n : Nat)) (iI (gap : Nat)) (iI (i : Nat)) m1 Q := by
          intro r
          induction r with
          | zero =>
            intro i m1 g1 hi' f2 hr1 hp1 hs1
            have hin : i = n := by omega
            subst hin
            refine vX5_sort_10 hd hT ?_
            simp (disch := omega) only [forall_eq, true_and, and_true, false_and, and_false, forall_const, true_implies, implies_true, not_true_eq_false, not_false_eq_true, false_implies, if_true, if_false, ↓reduceIte, Int.toNat_natCast, Int.reduceEq, Int.reduceNe, Int.reduceLT, Int.reduceLE, Int.reduceToNat, Int.reduceAdd, Int.reduceSub, Int.reduceMul, Int.reduceNeg, Nat.reduceAdd, Nat.reduceMul, Nat.reduceSub, iI_lit, jI_lit, iI_add, iI_sub, iI_mul, iI_neg, jI_add, jI_sub, jI_mul, jI_neg, nI_i, lN_j, iI_le, iI_lt, iI_eq, jI_le, jI_lt, jI_eq, iI_in, iI_cl, iI_j, jI_i, cN, inN, wI_eq, wI_ne, wJ_1, wJ_eq, wJ_ne, wI_2, wJ_3, iI_div, iI_rem, jI_div, jI_rem, true_or, or_true, false_or, or_false, eq_self, Nat.add_zero, Int.le_refl, ed]
            exact ih (gap / 2) (by omega) m1 g1 (by omega) f2 hr1 hp1 (fun q => hs1 (by omega))
          | succ r ihr =>
            intro i m1 g1 hi' f2 hr1 hp1 hs1
            have nx := ihr (i + 1)
            clear ihr
            have u1 : ¬ ((n : Int) ≤ (i : Int)) := by omega
            have u2 : ¬ ((na : Int) ≤ (i : Int)) := by omega
            have v := hr1 i (by omega)
            refine vX5_sort_10 hd hT ?_
            simp (disch := omega) only [forall_eq, true_and, and_true, false_and, and_false, forall_const, true_implies, implies_true, not_true_eq_false, not_false_eq_true, false_implies, if_true, if_false, ↓reduceIte, Int.toNat_natCast, Int.reduceEq, Int.reduceNe, Int.reduceLT, Int.reduceLE, Int.reduceToNat, Int.reduceAdd, Int.reduceSub, Int.reduceMul, Int.reduceNeg, Nat.reduceAdd, Nat.reduceMul, Nat.reduceSub, iI_lit, jI_lit, iI_add, iI_sub, iI_mul, iI_neg, jI_add, jI_sub, jI_mul, jI_neg, nI_i, lN_j, iI_le, iI_lt, iI_eq, jI_le, jI_lt, jI_eq, iI_in, iI_cl, iI_j, jI_i, cN, inN, wI_eq, wI_ne, wJ_1, wJ_eq, wJ_ne, wI_2, wJ_3, iI_div, iI_rem, jI_div, jI_rem, true_or, or_true, false_or, or_false, eq_self, Nat.add_zero, u1, u2, v]
            refine ⟨by omega, c_insert (g0 := g0) hT hd hn hna (by omega) (by omega) (by omega) hB (fun m2 g2 f3 hr2 hp2 hs2 => nx m2 g2 (by omega) f3 hr2 hp2 hs2) i m1 g1 (Nat.le_refl _) f2 hr1 (hp1.cg (fun x _ => ?_)) (fun g1' x y hxy hy hyi => ?_)⟩
            · rw [upN_at]
              by_cases q : x = i
              · rw [if_pos q, q]
              · rw [if_neg q]
            · rw [upN_ne hyi, upN_ne (by omega)]
              exact hs1 g1' x y hxy (by omega)
        refine vX5_sort_4 hd hT ?_
        simp (disch := omega) only [forall_eq, true_and, and_true, false_and, and_false, forall_const, true_implies, implies_true, not_true_eq_false, not_false_eq_true, false_implies, if_true, if_false, ↓reduceIte, Int.toNat_natCast, Int.reduceEq, Int.reduceNe, Int.reduceLT, Int.reduceLE, Int.reduceToNat, Int.reduceAdd, Int.reduceSub, Int.reduceMul, Int.reduceNeg, Nat.reduceAdd, Nat.reduceMul, Nat.reduceSub, iI_lit, jI_lit, iI_add, iI_sub, iI_mul, iI_neg, jI_add, jI_sub, jI_mul, jI_neg, nI_i, lN_j, iI_le, iI_lt, iI_eq, jI_le, jI_lt, jI_eq, iI_in, iI_cl, iI_j, jI_i, cN, inN, wI_eq, wI_ne, wJ_1, wJ_eq, wJ_ne, wI_2, wJ_3, iI_div, iI_rem, jI_div, jI_rem, true_or, or_true, false_or, or_false, eq_self, Nat.add_zero, u]
        exact pass (n - gap) gap m g (by omega) f1 hr hp (fun q x y hxy hy => by omega)
  have ed : (n : Int).tdiv 2 = ((n / 2 : Nat) : Int) := by rw [Int.tdiv_eq_ediv_of_nonneg (by omega)]; rfl
  refine vX5_sort_0 hd hT ?_
  simp (disch := omega) only [forall_eq, true_and, and_true, false_and, and_false, forall_const, true_implies, implies_true, not_true_eq_false, not_false_eq_true, false_implies, if_true, if_false, ↓reduceIte, Int.toNat_natCast, Int.reduceEq, Int.reduceNe, Int.reduceLT, Int.reduceLE, Int.reduceToNat, Int.reduceAdd, Int.reduceSub, Int.reduceMul, Int.reduceNeg, Nat.reduceAdd, Nat.reduceMul, Nat.reduceSub, iI_lit, jI_lit, iI_add, iI_sub, iI_mul, iI_neg, jI_add, jI_sub, jI_mul, jI_neg, nI_i, lN_j, iI_le, iI_lt, iI_eq, jI_le, jI_lt, jI_eq, iI_in, iI_cl, iI_j, jI_i, cN, inN, wI_eq, wI_ne, wJ_1, wJ_eq, wJ_ne, wI_2, wJ_3, iI_div, iI_rem, jI_div, jI_rem, true_or, or_true, false_or, or_false, eq_self, Nat.add_zero, ed]
  exact gaps (n / 2) m0 g0 (by omega) fr.rf h0 ⟨fun i hi' => ⟨i, hi', rfl⟩, fun k hk => ⟨k, hk, rfl⟩, hi⟩ (fun q x y hxy hy => by omega)
end SRT
