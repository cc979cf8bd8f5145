/-! the rows of moves in their order -/
def rn (row : Nat) : Nat → Int × Int → Int × Int
  | 0, s => s
  | k + 1, s => rn row k (lSt s (row / 3 ^ k % 3))
def dg (row : Nat) : Nat → Int → Int
  | 0, c => c
  | k + 1, c => dg row k (c * 10 + ((row / 3 ^ k % 3 : Nat) : Int))
theorem dig_cut {a b k : Nat} (h : a % 3 ^ (k + 1) = b % 3 ^ (k + 1)) : a % 3 ^ k = b % 3 ^ k ∧ a / 3 ^ k % 3 = b / 3 ^ k % 3 := by
  rw [Nat.pow_succ] at h
  constructor
  · have h1 := congrArg (· % 3 ^ k) h
    simp only [Nat.mod_mul_right_mod] at h1
    exact h1
  · rw [← Nat.mod_mul_right_div_self a (3 ^ k) 3, ← Nat.mod_mul_right_div_self b (3 ^ k) 3, h]
theorem rn_mod {a b : Nat} : ∀ (k : Nat) (s : Int × Int), a % 3 ^ k = b % 3 ^ k → rn a k s = rn b k s := by
  intro k
  induction k with
  | zero => intro s _; rfl
  | succ k ih =>
    intro s h
    obtain ⟨h1, h2⟩ := dig_cut h
    rw [rn, rn, h2]
    exact ih _ h1
theorem dg_mod {a b : Nat} : ∀ (k : Nat) (c : Int), a % 3 ^ k = b % 3 ^ k → dg a k c = dg b k c := by
  intro k
  induction k with
  | zero => intro s _; rfl
  | succ k ih =>
    intro s h
    obtain ⟨h1, h2⟩ := dig_cut h
    rw [dg, dg, h2]
    exact ih _ h1
theorem dig_at {x r k : Nat} (hx : x ≤ 2) (hr : r < 3 ^ k) : (x * 3 ^ k + r) % 3 ^ k = r % 3 ^ k ∧ (x * 3 ^ k + r) / 3 ^ k % 3 = x := by
  constructor
  · rw [Nat.add_comm, Nat.add_mul_mod_self_right]
  · rw [Nat.add_comm, Nat.add_mul_div_right _ _ (by omega), Nat.div_eq_of_lt hr]
    omega
theorem rn_at {x r k : Nat} {s : Int × Int} (hx : x ≤ 2) (hr : r < 3 ^ k) : rn (x * 3 ^ k + r) (k + 1) s = rn r k (lSt s x) := by
  obtain ⟨h1, h2⟩ := dig_at hx hr
  rw [rn, h2]
  exact rn_mod k _ h1
theorem dg_at {x r k : Nat} {c : Int} (hx : x ≤ 2) (hr : r < 3 ^ k) : dg (x * 3 ^ k + r) (k + 1) c = dg r k (c * 10 + (x : Int)) := by
  obtain ⟨h1, h2⟩ := dig_at hx hr
  rw [dg, h2]
  exact dg_mod k _ h1
theorem rn_sol {g : Int × Int} {r : Nat} : ∀ (k : Nat) (s : Int × Int), rn r k s = g → sol g k s := by
  intro k
  induction k with
  | zero => intro s h; exact h
  | succ k ih =>
    intro s h
    rw [rn] at h
    have h1 := ih _ h
    rw [sol]
    rcases (show r / 3 ^ k % 3 = 0 ∨ r / 3 ^ k % 3 = 1 ∨ r / 3 ^ k % 3 = 2 by omega) with e | e | e
    · rw [e] at h1; exact Or.inl h1
    · rw [e] at h1; exact Or.inr (Or.inl h1)
    · rw [e] at h1; exact Or.inr (Or.inr h1)
theorem exr_row {g : Int × Int} : ∀ (l : Nat) (s : Int × Int) (c : Int), 1 ≤ c → sol g l s → ∃ R, R < 3 ^ l ∧ rn R l s = g ∧ (∀ r, r < R → rn r l s ≠ g) ∧ exr g l s c = dg R l c := by
  intro l
  induction l with
  | zero =>
    intro s c hc h
    have h' : s = g := h
    refine ⟨0, by decide, h', fun r hr => absurd hr (Nat.not_lt_zero _), ?_⟩
    rw [exr, if_pos h', dg]
  | succ l ih =>
    intro s c hc h
    have hp : 3 ^ (l + 1) = 3 * 3 ^ l := by rw [Nat.pow_succ, Nat.mul_comm]
    rw [sol] at h
    have fin : ∀ x : Nat, x ≤ 2 → sol g l (lSt s x) → (∀ y, y < x → ¬ sol g l (lSt s y)) → exr g (l + 1) s c = exr g l (lSt s x) (c * 10 + (x : Int)) → ∃ R, R < 3 ^ (l + 1) ∧ rn R (l + 1) s = g ∧ (∀ r, r < R → rn r (l + 1) s ≠ g) ∧ exr g (l + 1) s c = dg R (l + 1) c := by
      intro x hx hs hn he
      obtain ⟨R, r1, r2, r3, r4⟩ := ih (lSt s x) (c * 10 + (x : Int)) (by omega) hs
      have hxl : x * 3 ^ l ≤ 2 * 3 ^ l := Nat.mul_le_mul_right _ hx
      refine ⟨x * 3 ^ l + R, by omega, by rw [rn_at hx r1]; exact r2, fun r hr => ?_, by rw [he, r4, dg_at hx r1]⟩
      have hpos : 0 < 3 ^ l := Nat.pow_pos (by decide)
      have e := Nat.mod_add_div r (3 ^ l)
      have hm := Nat.mod_lt r hpos
      have hq : r / 3 ^ l ≤ x := by
        rcases Nat.lt_or_ge x (r / 3 ^ l) with h1 | h1
        · have h2 : (x + 1) * 3 ^ l ≤ (r / 3 ^ l) * 3 ^ l := Nat.mul_le_mul_right _ h1
          rw [Nat.add_mul, Nat.one_mul] at h2
          rw [Nat.mul_comm (3 ^ l)] at e
          omega
        · exact h1
      rw [show r = (r / 3 ^ l) * 3 ^ l + r % 3 ^ l by rw [Nat.mul_comm]; omega, rn_at (by omega) hm]
      rcases Nat.lt_or_eq_of_le hq with h1 | h1
      · exact fun q => hn _ h1 (rn_sol _ _ q)
      · rw [h1] at e ⊢
        rw [Nat.mul_comm (3 ^ l)] at e
        exact r3 _ (by omega)
    have s0 := exr_sol (g := g) l (lSt s 0) (c * 10 + 0) (by omega)
    have s1 := exr_sol (g := g) l (lSt s 1) (c * 10 + 1) (by omega)
    by_cases h0 : sol g l (lSt s 0)
    · refine fin 0 (by omega) h0 (fun y hy => absurd hy (Nat.not_lt_zero _)) ?_
      rw [exr, if_pos (s0.1.mpr h0)]
      rfl
    · have n0 : ¬ 0 < exr g l (lSt s 0) (c * 10 + 0) := fun q => h0 (s0.1.mp q)
      by_cases h1 : sol g l (lSt s 1)
      · refine fin 1 (by omega) h1 (fun y hy => by rw [show y = 0 by omega]; exact h0) ?_
        rw [exr, if_neg n0, if_pos (s1.1.mpr h1)]
        rfl
      · have n1 : ¬ 0 < exr g l (lSt s 1) (c * 10 + 1) := fun q => h1 (s1.1.mp q)
        have h2 := (h.resolve_left h0).resolve_left h1
        refine fin 2 (by omega) h2 (fun y hy => ?_) ?_
        · rcases (show y = 0 ∨ y = 1 by omega) with e | e
          · rw [e]; exact h0
          · rw [e]; exact h1
        · rw [exr, if_neg n0, if_neg n1]
          rfl
section LEB
variable {E : sm_E} {L : sm_S → Prop} {d : Nat} {m : sm_M}
theorem pow3 (k : Nat) (hk : k ≤ 8) : 3 ^ k ≤ 6561 := by
  have := Nat.pow_le_pow_right (n := 3) (by decide) hk
  exact Nat.le_trans this (by decide)
theorem dig_rem {row j : Nat} (hrow : row < 100000) (hj : j ≤ 8) : sm_rem (iI (row : Nat) / iI ((3 ^ j : Nat) : Int)) 3 = iI ((row / 3 ^ j % 3 : Nat) : Int) := by
  have hdl : row / 3 ^ j ≤ row := Nat.div_le_self _ _
  have hpos : 0 < 3 ^ j := Nat.pow_pos (by decide)
  have hp8 := pow3 j (by omega)
  have hD : ((row : Nat) : Int).tdiv ((3 ^ j : Nat) : Int) = ((row / 3 ^ j : Nat) : Int) := by
    rw [Int.tdiv_eq_ediv_of_nonneg (by omega)]
    rfl
  rw [iI_div (by omega) (by omega) (by omega) (by omega), hD]
  generalize row / 3 ^ j = D at hdl
  rw [iI_lit, iI_rem (by omega) (by omega) (by omega) (by omega)]
  congr 1
theorem c12_leads {Q : Int32 → sm_M → Prop} {g : Int × Int} {row K : Nat} {vs : List Value} (hg : (g.1.natAbs : Int) ≤ 33554432 ∧ (g.2.natAbs : Int) ≤ 33554432) (hd : 1 ≤ d) (hK : K ≤ 8) (hrow : row < 100000) : ∀ (j i : Nat) (s : Int × Int), i + j = K → lB 33554432 i s → Q (if rn row j s = g then 1 else 0) m → gX12_leads_13 E L d vs (iI (row : Nat)) (iI (K : Nat)) (jI g.1) (jI g.2) (jI s.1) (jI s.2) (iI ((3 ^ j / 3 : Nat) : Int)) (iI (i : Nat)) m Q := by
  intro j
  induction j with
  | zero =>
    intro i s hi hB hQ
    have hn := lB_num (by omega) hB
    obtain ⟨g1, g2⟩ := hg
    refine vX12_leads_13 hd ?_
    rw [rn] at hQ
    simp (disch := omega) only [forall_eq, true_and, and_true, false_and, and_false, forall_const, true_implies, implies_true, not_true_eq_false, not_false_eq_true, false_implies, if_true, if_false, ↓reduceIte, Int.toNat_natCast, Int.reduceEq, Int.reduceNe, Int.reduceLT, Int.reduceLE, Int.reduceToNat, Int.reduceAdd, Int.reduceSub, Int.reduceMul, Int.reduceNeg, Nat.reduceAdd, Nat.reduceMul, Nat.reduceSub, iI_lit, jI_lit, iI_add, iI_sub, iI_mul, iI_neg, jI_add, jI_sub, jI_mul, jI_neg, nI_i, lN_j, iI_le, iI_lt, iI_eq, jI_le, jI_lt, jI_eq, iI_in, iI_cl, iI_j, jI_i, cN, inN, wI_eq, wI_ne, wJ_1, wJ_eq, wJ_ne, wI_2, wJ_3, iI_div, iI_rem, jI_div, jI_rem, true_or, or_true, false_or, or_false, eq_self, Nat.add_zero]
    refine ⟨fun _ => ⟨fun z => ?_, fun z => ⟨fun z2 => ?_, fun z2 => ?_⟩⟩, fun z => by omega⟩
    · rw [if_neg (fun q => z (by rw [q]))] at hQ; exact hQ
    · rw [if_neg (fun q => z2 (by rw [q]))] at hQ; exact hQ
    · rw [if_pos (Prod.ext z z2)] at hQ; exact hQ
  | succ j ih =>
    intro i s hi hB hQ
    have hn := lB_num (by omega) hB
    have hp : 3 ^ (j + 1) / 3 = 3 ^ j := by rw [Nat.pow_succ]; exact Nat.mul_div_cancel _ (by decide)
    have hpos : 0 < 3 ^ j := Nat.pow_pos (by decide)
    have hp8 := pow3 j (by omega)
    rw [hp]
    rw [rn] at hQ
    generalize hx : row / 3 ^ j % 3 = x at hQ
    have hx2 : x ≤ 2 := by omega
    have ei : ((i : Nat) : Int) + 1 = ((i + 1 : Nat) : Int) := by omega
    have nx := ih (i + 1) (lSt s x) (by omega) (lB_st (by decide) hB x) hQ
    have hdg := dig_rem (row := row) (j := j) (by omega) (by omega)
    rw [hx] at hdg
    have hdv : iI ((3 ^ j : Nat) : Int) / 3 = iI ((3 ^ j / 3 : Nat) : Int) := by
      rw [iI_lit, iI_div (by omega) (by omega) (by omega) (by omega)]
      congr 1
    refine vX12_leads_13 hd ?_
    rw [hdg, hdv]
    have hp0 : ¬ (iI ((3 ^ j : Nat) : Int)) = 0 := by
      rw [iI_lit]
      exact fun q => by
        have := (iI_eq (by omega) (by omega) (by omega) (by omega)).mp q
        omega
    refine ⟨fun z => by simp (disch := omega) only [forall_eq, true_and, and_true, false_and, and_false, forall_const, true_implies, implies_true, not_true_eq_false, not_false_eq_true, false_implies, if_true, if_false, ↓reduceIte, Int.toNat_natCast, Int.reduceEq, Int.reduceNe, Int.reduceLT, Int.reduceLE, Int.reduceToNat, Int.reduceAdd, Int.reduceSub, Int.reduceMul, Int.reduceNeg, Nat.reduceAdd, Nat.reduceMul, Nat.reduceSub, iI_lit, jI_lit, iI_add, iI_sub, iI_mul, iI_neg, jI_add, jI_sub, jI_mul, jI_neg, nI_i, lN_j, iI_le, iI_lt, iI_eq, jI_le, jI_lt, jI_eq, iI_in, iI_cl, iI_j, jI_i, cN, inN, wI_eq, wI_ne, wJ_1, wJ_eq, wJ_ne, wI_2, wJ_3, iI_div, iI_rem, jI_div, jI_rem, true_or, or_true, false_or, or_false, eq_self, Nat.add_zero] at z; omega, fun _ => ⟨hp0, ?_⟩⟩
    intro x17 e17 x15 e15
    subst e17
    subst e15
    clear hdg hdv ih hB
    rcases (show x = 0 ∨ x = 1 ∨ x = 2 by omega) with rfl | rfl | rfl
    · have nx' : gX12_leads_13 E L d vs (iI (row : Nat)) (iI (K : Nat)) (jI g.1) (jI g.2) (jI (s.1 + s.2)) (jI s.2) (iI ((3 ^ j / 3 : Nat) : Int)) (iI ((i + 1 : Nat) : Int)) m Q := nx
      simp (disch := omega) only [forall_eq, true_and, and_true, false_and, and_false, forall_const, true_implies, implies_true, not_true_eq_false, not_false_eq_true, false_implies, if_true, if_false, ↓reduceIte, Int.toNat_natCast, Int.reduceEq, Int.reduceNe, Int.reduceLT, Int.reduceLE, Int.reduceToNat, Int.reduceAdd, Int.reduceSub, Int.reduceMul, Int.reduceNeg, Nat.reduceAdd, Nat.reduceMul, Nat.reduceSub, iI_lit, jI_lit, iI_add, iI_sub, iI_mul, iI_neg, jI_add, jI_sub, jI_mul, jI_neg, nI_i, lN_j, iI_le, iI_lt, iI_eq, jI_le, jI_lt, jI_eq, iI_in, iI_cl, iI_j, jI_i, cN, inN, wI_eq, wI_ne, wJ_1, wJ_eq, wJ_ne, wI_2, wJ_3, iI_div, iI_rem, jI_div, jI_rem, true_or, or_true, false_or, or_false, eq_self, Nat.add_zero]
      refine ⟨fun _ => ⟨fun z => absurd rfl z, fun _ => ?_⟩, fun z => by omega⟩
      rw [ei]
      exact nx'
    · have nx' : gX12_leads_13 E L d vs (iI (row : Nat)) (iI (K : Nat)) (jI g.1) (jI g.2) (jI (s.1 - s.2)) (jI s.2) (iI ((3 ^ j / 3 : Nat) : Int)) (iI ((i + 1 : Nat) : Int)) m Q := nx
      simp (disch := omega) only [forall_eq, true_and, and_true, false_and, and_false, forall_const, true_implies, implies_true, not_true_eq_false, not_false_eq_true, false_implies, if_true, if_false, ↓reduceIte, Int.toNat_natCast, Int.reduceEq, Int.reduceNe, Int.reduceLT, Int.reduceLE, Int.reduceToNat, Int.reduceAdd, Int.reduceSub, Int.reduceMul, Int.reduceNeg, Nat.reduceAdd, Nat.reduceMul, Nat.reduceSub, iI_lit, jI_lit, iI_add, iI_sub, iI_mul, iI_neg, jI_add, jI_sub, jI_mul, jI_neg, nI_i, lN_j, iI_le, iI_lt, iI_eq, jI_le, jI_lt, jI_eq, iI_in, iI_cl, iI_j, jI_i, cN, inN, wI_eq, wI_ne, wJ_1, wJ_eq, wJ_ne, wI_2, wJ_3, iI_div, iI_rem, jI_div, jI_rem, true_or, or_true, false_or, or_false, eq_self, Nat.add_zero]
      refine ⟨fun _ => ⟨fun _ => ?_, fun z => by omega⟩, fun z => by omega⟩
      rw [ei, ← Int.sub_eq_add_neg]
      exact nx'
    · have nx' : gX12_leads_13 E L d vs (iI (row : Nat)) (iI (K : Nat)) (jI g.1) (jI g.2) (jI (if s.1 = 0 then 1 else if s.1 < 0 then s.2 else -s.2)) (jI (s.1.natAbs : Int)) (iI ((3 ^ j / 3 : Nat) : Int)) (iI ((i + 1 : Nat) : Int)) m Q := nx
      simp (disch := omega) only [forall_eq, true_and, and_true, false_and, and_false, forall_const, true_implies, implies_true, not_true_eq_false, not_false_eq_true, false_implies, if_true, if_false, ↓reduceIte, Int.toNat_natCast, Int.reduceEq, Int.reduceNe, Int.reduceLT, Int.reduceLE, Int.reduceToNat, Int.reduceAdd, Int.reduceSub, Int.reduceMul, Int.reduceNeg, Nat.reduceAdd, Nat.reduceMul, Nat.reduceSub, iI_lit, jI_lit, iI_add, iI_sub, iI_mul, iI_neg, jI_add, jI_sub, jI_mul, jI_neg, nI_i, lN_j, iI_le, iI_lt, iI_eq, jI_le, jI_lt, jI_eq, iI_in, iI_cl, iI_j, jI_i, cN, inN, wI_eq, wI_ne, wJ_1, wJ_eq, wJ_ne, wI_2, wJ_3, iI_div, iI_rem, jI_div, jI_rem, true_or, or_true, false_or, or_false, eq_self, Nat.add_zero]
      refine ⟨fun z => absurd rfl z, fun _ => ⟨fun z => vX12_leads_68 hd ?_, fun z => ⟨fun z2 => ?_, fun z2 => vX12_leads_68 hd ?_⟩⟩⟩
      · rw [if_neg (by omega), if_pos z, show (s.1.natAbs : Int) = -s.1 by omega] at nx'
        simp (disch := omega) only [forall_eq, true_and, and_true, false_and, and_false, forall_const, true_implies, implies_true, not_true_eq_false, not_false_eq_true, false_implies, if_true, if_false, ↓reduceIte, Int.toNat_natCast, Int.reduceEq, Int.reduceNe, Int.reduceLT, Int.reduceLE, Int.reduceToNat, Int.reduceAdd, Int.reduceSub, Int.reduceMul, Int.reduceNeg, Nat.reduceAdd, Nat.reduceMul, Nat.reduceSub, iI_lit, jI_lit, iI_add, iI_sub, iI_mul, iI_neg, jI_add, jI_sub, jI_mul, jI_neg, nI_i, lN_j, iI_le, iI_lt, iI_eq, jI_le, jI_lt, jI_eq, iI_in, iI_cl, iI_j, jI_i, cN, inN, wI_eq, wI_ne, wJ_1, wJ_eq, wJ_ne, wI_2, wJ_3, iI_div, iI_rem, jI_div, jI_rem, true_or, or_true, false_or, or_false, eq_self, Nat.add_zero]
        refine ⟨fun _ => ?_, fun z3 => by omega⟩
        rw [ei, Int.neg_neg]
        exact nx'
      · rw [if_neg z2, if_neg z, show (s.1.natAbs : Int) = s.1 by omega] at nx'
        rw [ei]
        exact nx'
      · rw [if_pos z2, show (s.1.natAbs : Int) = 0 by omega] at nx'
        rw [z2]
        simp (disch := omega) only [forall_eq, true_and, and_true, false_and, and_false, forall_const, true_implies, implies_true, not_true_eq_false, not_false_eq_true, false_implies, if_true, if_false, ↓reduceIte, Int.toNat_natCast, Int.reduceEq, Int.reduceNe, Int.reduceLT, Int.reduceLE, Int.reduceToNat, Int.reduceAdd, Int.reduceSub, Int.reduceMul, Int.reduceNeg, Nat.reduceAdd, Nat.reduceMul, Nat.reduceSub, iI_lit, jI_lit, iI_add, iI_sub, iI_mul, iI_neg, jI_add, jI_sub, jI_mul, jI_neg, nI_i, lN_j, iI_le, iI_lt, iI_eq, jI_le, jI_lt, jI_eq, iI_in, iI_cl, iI_j, jI_i, cN, inN, wI_eq, wI_ne, wJ_1, wJ_eq, wJ_ne, wI_2, wJ_3, iI_div, iI_rem, jI_div, jI_rem, true_or, or_true, false_or, or_false, eq_self, Nat.add_zero]
        rw [ei]
        exact nx'
theorem c12_asDigits {Q : Int32 → sm_M → Prop} {row K : Nat} {vs : List Value} (hd : 1 ≤ d) (hK : K ≤ 8) (hrow : row < 100000) : ∀ (j i : Nat) (cd : Int), i + j = K → 1 ≤ cd → cd + 1 ≤ 2 * 10 ^ i → Q (iI (dg row j cd)) m → gX12_asDigits_8 E L d vs (iI (row : Nat)) (iI (K : Nat)) (iI cd) (iI ((3 ^ j / 3 : Nat) : Int)) (iI (i : Nat)) m Q := by
  intro j
  induction j with
  | zero =>
    intro i cd hi h1 h2 hQ
    refine vX12_asDigits_8 hd ?_
    simp (disch := omega) only [forall_eq, true_and, and_true, false_and, and_false, forall_const, true_implies, implies_true, not_true_eq_false, not_false_eq_true, false_implies, if_true, if_false, ↓reduceIte, Int.toNat_natCast, Int.reduceEq, Int.reduceNe, Int.reduceLT, Int.reduceLE, Int.reduceToNat, Int.reduceAdd, Int.reduceSub, Int.reduceMul, Int.reduceNeg, Nat.reduceAdd, Nat.reduceMul, Nat.reduceSub, iI_lit, jI_lit, iI_add, iI_sub, iI_mul, iI_neg, jI_add, jI_sub, jI_mul, jI_neg, nI_i, lN_j, iI_le, iI_lt, iI_eq, jI_le, jI_lt, jI_eq, iI_in, iI_cl, iI_j, jI_i, cN, inN, wI_eq, wI_ne, wJ_1, wJ_eq, wJ_ne, wI_2, wJ_3, iI_div, iI_rem, jI_div, jI_rem, true_or, or_true, false_or, or_false, eq_self, Nat.add_zero]
    exact ⟨fun _ => hQ, fun z => by omega⟩
  | succ j ih =>
    intro i cd hi h1 h2 hQ
    have p10 : (10 : Int) ^ i ≤ 10000000 ∧ (10 : Int) ^ (i + 1) = 10 * 10 ^ i := by
      refine ⟨?_, by rw [Int.pow_succ, Int.mul_comm]⟩
      have : (10 : Nat) ^ i ≤ 10 ^ 7 := Nat.pow_le_pow_right (by decide) (by omega)
      have h2 : ((10 ^ i : Nat) : Int) = (10 : Int) ^ i := by simp
      have h3 : (10 : Nat) ^ 7 = 10000000 := by decide
      omega
    have hp : 3 ^ (j + 1) / 3 = 3 ^ j := by rw [Nat.pow_succ]; exact Nat.mul_div_cancel _ (by decide)
    have hpos : 0 < 3 ^ j := Nat.pow_pos (by decide)
    have hp8 := pow3 j (by omega)
    rw [hp]
    rw [dg] at hQ
    generalize hx : row / 3 ^ j % 3 = x at hQ
    have hx2 : x ≤ 2 := by omega
    have ei : ((i : Nat) : Int) + 1 = ((i + 1 : Nat) : Int) := by omega
    have nx := ih (i + 1) (cd * 10 + (x : Int)) (by omega) (by omega) (by omega) hQ
    have hdg := dig_rem (row := row) (j := j) (by omega) (by omega)
    have hdv : iI ((3 ^ j : Nat) : Int) / 3 = iI ((3 ^ j / 3 : Nat) : Int) := by
      rw [iI_lit, iI_div (by omega) (by omega) (by omega) (by omega)]
      congr 1
    rw [hx] at hdg
    have hp0 : ¬ (iI ((3 ^ j : Nat) : Int)) = 0 := by
      rw [iI_lit]
      exact fun q => by
        have := (iI_eq (by omega) (by omega) (by omega) (by omega)).mp q
        omega
    refine vX12_asDigits_8 hd ?_
    rw [hdg, hdv]
    refine ⟨fun z => by simp (disch := omega) only [forall_eq, true_and, and_true, false_and, and_false, forall_const, true_implies, implies_true, not_true_eq_false, not_false_eq_true, false_implies, if_true, if_false, ↓reduceIte, Int.toNat_natCast, Int.reduceEq, Int.reduceNe, Int.reduceLT, Int.reduceLE, Int.reduceToNat, Int.reduceAdd, Int.reduceSub, Int.reduceMul, Int.reduceNeg, Nat.reduceAdd, Nat.reduceMul, Nat.reduceSub, iI_lit, jI_lit, iI_add, iI_sub, iI_mul, iI_neg, jI_add, jI_sub, jI_mul, jI_neg, nI_i, lN_j, iI_le, iI_lt, iI_eq, jI_le, jI_lt, jI_eq, iI_in, iI_cl, iI_j, jI_i, cN, inN, wI_eq, wI_ne, wJ_1, wJ_eq, wJ_ne, wI_2, wJ_3, iI_div, iI_rem, jI_div, jI_rem, true_or, or_true, false_or, or_false, eq_self, Nat.add_zero] at z; omega, fun _ => ⟨hp0, ?_⟩⟩
    intro x3 e3 x4 e4 x5 e5
    subst e4
    rw [iI_lit, iI_add, ei] at e5
    subst e5
    rw [iI_lit, iI_mul, iI_add, show (10 : Int) * cd = cd * 10 by omega] at e3
    subst e3
    exact nx
end LEB
