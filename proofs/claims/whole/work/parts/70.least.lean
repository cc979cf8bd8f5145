/-! the least row of moves from one fraction to another -/
def lSt (s : Int × Int) (x : Nat) : Int × Int := if x = 0 then (s.1 + s.2, s.2) else if x = 1 then (s.1 - s.2, s.2) else (if s.1 = 0 then 1 else if s.1 < 0 then s.2 else -s.2, (s.1.natAbs : Int))
def sol (g : Int × Int) : Nat → Int × Int → Prop
  | 0, s => s = g
  | l + 1, s => sol g l (lSt s 0) ∨ sol g l (lSt s 1) ∨ sol g l (lSt s 2)
def exr (g : Int × Int) : Nat → Int × Int → Int → Int
  | 0, s, c => if s = g then c else -1
  | l + 1, s, c => if 0 < exr g l (lSt s 0) (c * 10 + 0) then exr g l (lSt s 0) (c * 10 + 0) else if 0 < exr g l (lSt s 1) (c * 10 + 1) then exr g l (lSt s 1) (c * 10 + 1) else exr g l (lSt s 2) (c * 10 + 2)
theorem exr_sol {g : Int × Int} : ∀ (l : Nat) (s : Int × Int) (c : Int), 1 ≤ c → (0 < exr g l s c ↔ sol g l s) ∧ (¬ sol g l s → exr g l s c = -1) := by
  intro l
  induction l with
  | zero =>
    intro s c hc
    rw [exr, sol]
    by_cases h : s = g
    · rw [if_pos h]
      exact ⟨⟨fun _ => h, fun _ => by omega⟩, fun q => absurd h q⟩
    · rw [if_neg h]
      exact ⟨⟨fun q => by omega, fun q => absurd q h⟩, fun _ => rfl⟩
  | succ l ih =>
    intro s c hc
    obtain ⟨a0, b0⟩ := ih (lSt s 0) (c * 10 + 0) (by omega)
    obtain ⟨a1, b1⟩ := ih (lSt s 1) (c * 10 + 1) (by omega)
    obtain ⟨a2, b2⟩ := ih (lSt s 2) (c * 10 + 2) (by omega)
    rw [exr, sol]
    by_cases h0 : 0 < exr g l (lSt s 0) (c * 10 + 0)
    · rw [if_pos h0]
      exact ⟨⟨fun _ => Or.inl (a0.mp h0), fun _ => h0⟩, fun q => absurd (Or.inl (a0.mp h0)) q⟩
    · rw [if_neg h0]
      have n0 : ¬ sol g l (lSt s 0) := fun q => h0 (a0.mpr q)
      by_cases h1 : 0 < exr g l (lSt s 1) (c * 10 + 1)
      · rw [if_pos h1]
        exact ⟨⟨fun _ => Or.inr (Or.inl (a1.mp h1)), fun _ => h1⟩, fun q => absurd (Or.inr (Or.inl (a1.mp h1))) q⟩
      · rw [if_neg h1]
        have n1 : ¬ sol g l (lSt s 1) := fun q => h1 (a1.mpr q)
        refine ⟨⟨fun q => Or.inr (Or.inr (a2.mp q)), fun q => ?_⟩, fun q => b2 (fun q2 => q (Or.inr (Or.inr q2)))⟩
        rcases q with q | q | q
        · exact absurd q n0
        · exact absurd q n1
        · exact a2.mpr q
/-- a fraction as it is written -/
def nf (s : Int × Int) : Prop := cop s.1 s.2 ∧ (0 < s.2 ∨ (s.1 = 1 ∧ s.2 = 0))
theorem nf_zero {s : Int × Int} (h : nf s) (h0 : s.1 = 0) : s.2 = 1 := by
  obtain ⟨⟨x, y, e⟩, h2⟩ := h
  rw [h0, Int.mul_zero, Int.zero_add] at e
  have h3 : 0 < s.2 := by omega
  have h4 : s.2 ∣ 1 := ⟨y, by rw [Int.mul_comm]; exact e.symm⟩
  have := Int.le_of_dvd (by decide) h4
  omega
theorem nf_st {s : Int × Int} (h : nf s) (x : Nat) : nf (lSt s x) := by
  have hz := nf_zero h
  obtain ⟨⟨u, v, e⟩, h2⟩ := h
  unfold lSt
  by_cases h0 : x = 0
  · rw [if_pos h0]
    refine ⟨⟨u, v - u, by grind⟩, ?_⟩
    show 0 < s.2 ∨ (s.1 + s.2 = 1 ∧ s.2 = 0)
    omega
  · rw [if_neg h0]
    by_cases h1 : x = 1
    · rw [if_pos h1]
      refine ⟨⟨u, v + u, by grind⟩, ?_⟩
      show 0 < s.2 ∨ (s.1 - s.2 = 1 ∧ s.2 = 0)
      omega
    · rw [if_neg h1]
      by_cases h3 : s.1 = 0
      · rw [if_pos h3, h3]
        exact ⟨⟨1, 0, rfl⟩, Or.inr ⟨rfl, rfl⟩⟩
      · rw [if_neg h3]
        by_cases h4 : s.1 < 0
        · rw [if_pos h4, show (s.1.natAbs : Int) = -s.1 by omega]
          exact ⟨⟨v, -u, by grind⟩, Or.inl (by show 0 < -s.1; omega)⟩
        · rw [if_neg h4, show (s.1.natAbs : Int) = s.1 by omega]
          exact ⟨⟨-v, u, by grind⟩, Or.inl (by show 0 < s.1; omega)⟩
theorem undo {s : Int × Int} (h : nf s) {x y : Nat} (hx : x ≤ 2) (hy : y ≤ 2) (hu : (x = 2 ∧ y = 2) ∨ (x ≠ 2 ∧ x + y = 1)) : lSt (lSt s x) y = s := by
  have hz := nf_zero h
  obtain ⟨-, h2⟩ := h
  rcases (show (x = 0 ∧ y = 1) ∨ (x = 1 ∧ y = 0) ∨ (x = 2 ∧ y = 2) by omega) with ⟨rfl, rfl⟩ | ⟨rfl, rfl⟩ | ⟨rfl, rfl⟩
  · show (s.1 + s.2 - s.2, s.2) = s
    rw [show s.1 + s.2 - s.2 = s.1 by omega]
  · show (s.1 - s.2 + s.2, s.2) = s
    rw [show s.1 - s.2 + s.2 = s.1 by omega]
  · obtain ⟨a, b⟩ := s
    simp only at hz h2
    show ((if (if a = 0 then (1 : Int) else if a < 0 then b else -b) = 0 then (1 : Int) else if (if a = 0 then (1 : Int) else if a < 0 then b else -b) < 0 then (a.natAbs : Int) else -(a.natAbs : Int)), ((if a = 0 then (1 : Int) else if a < 0 then b else -b).natAbs : Int)) = (a, b)
    by_cases h3 : a = 0
    · have := hz h3
      subst h3
      subst this
      rfl
    · rw [if_neg h3]
      by_cases h4 : a < 0
      · rw [if_pos h4, if_neg (by omega), if_neg (by omega)]
        congr 1 <;> omega
      · rw [if_neg h4]
        by_cases h5 : b = 0
        · rw [if_pos (by omega)]
          congr 1 <;> omega
        · rw [if_neg (by omega), if_pos (by omega)]
          congr 1 <;> omega
/-- bounds on the way -/
def lB (S : Int) (k : Nat) (s : Int × Int) : Prop := (s.1.natAbs : Int) + s.2.natAbs ≤ fib k * S ∧ (s.1.natAbs : Int) + 2 * s.2.natAbs ≤ fib (k + 1) * S ∧ 2 * (s.1.natAbs : Int) + s.2.natAbs ≤ fib (k + 1) * S
theorem lB_st {S : Int} {k : Nat} {s : Int × Int} (hS : 1 ≤ S) (h : lB S k s) (x : Nat) : lB S (k + 1) (lSt s x) := by
  obtain ⟨h1, h2, h3⟩ := h
  have hf : (fib (k + 1 + 1) : Int) * S = fib (k + 1) * S + fib k * S := by
    show ((fib (k + 1) + fib k : Nat) : Int) * S = _
    rw [Int.natCast_add, Int.add_mul]
  have hk : (fib k : Int) * S ≤ fib (k + 1) * S := by
    apply Int.mul_le_mul_of_nonneg_right _ (by omega)
    cases k with
    | zero => decide
    | succ k =>
      show (fib (k + 1) : Int) ≤ ((fib (k + 1) + fib k : Nat) : Int)
      omega
  have hk1 : (1 : Int) ≤ fib (k + 1) * S := by
    have : (1 : Int) * 1 ≤ fib (k + 1) * S := Int.mul_le_mul (by
      have : ∀ n, 1 ≤ fib n := by
        intro n
        induction n using Nat.strongRecOn with
        | ind n ih =>
          match n with
          | 0 => decide
          | 1 => decide
          | n + 2 =>
            have := ih (n + 1) (by omega)
            show 1 ≤ fib (n + 1) + fib n
            omega
      have := this (k + 1)
      omega) hS (by decide) (by omega)
    omega
  unfold lB
  rw [hf]
  unfold lSt
  split
  · show ((s.1 + s.2).natAbs : Int) + s.2.natAbs ≤ _ ∧ ((s.1 + s.2).natAbs : Int) + 2 * s.2.natAbs ≤ _ ∧ 2 * ((s.1 + s.2).natAbs : Int) + s.2.natAbs ≤ _
    omega
  · split
    · show ((s.1 - s.2).natAbs : Int) + s.2.natAbs ≤ _ ∧ ((s.1 - s.2).natAbs : Int) + 2 * s.2.natAbs ≤ _ ∧ 2 * ((s.1 - s.2).natAbs : Int) + s.2.natAbs ≤ _
      omega
    · by_cases h3 : s.1 = 0
      · rw [if_pos h3, h3]
        show ((1 : Int).natAbs : Int) + ((0 : Int).natAbs : Int).natAbs ≤ _ ∧ ((1 : Int).natAbs : Int) + 2 * ((0 : Int).natAbs : Int).natAbs ≤ _ ∧ 2 * ((1 : Int).natAbs : Int) + ((0 : Int).natAbs : Int).natAbs ≤ _
        have : (1 : Int) ≤ fib k * S := by
          have : ∀ n, 1 ≤ fib n := by
            intro n
            induction n using Nat.strongRecOn with
            | ind n ih =>
              match n with
              | 0 => decide
              | 1 => decide
              | n + 2 =>
                have := ih (n + 1) (by omega)
                show 1 ≤ fib (n + 1) + fib n
                omega
          have h9 := this k
          have : (1 : Int) * 1 ≤ fib k * S := Int.mul_le_mul (by omega) hS (by decide) (by omega)
          omega
        simp
        omega
      · rw [if_neg h3]
        split
        · show (s.2.natAbs : Int) + ((s.1.natAbs : Int)).natAbs ≤ _ ∧ (s.2.natAbs : Int) + 2 * ((s.1.natAbs : Int)).natAbs ≤ _ ∧ 2 * (s.2.natAbs : Int) + ((s.1.natAbs : Int)).natAbs ≤ _
          omega
        · show ((-s.2).natAbs : Int) + ((s.1.natAbs : Int)).natAbs ≤ _ ∧ ((-s.2).natAbs : Int) + 2 * ((s.1.natAbs : Int)).natAbs ≤ _ ∧ 2 * ((-s.2).natAbs : Int) + ((s.1.natAbs : Int)).natAbs ≤ _
          omega
theorem fib_le (k : Nat) (hk : k ≤ 8) : (fib k : Int) ≤ 55 := by
  rcases (show k = 0 ∨ k = 1 ∨ k = 2 ∨ k = 3 ∨ k = 4 ∨ k = 5 ∨ k = 6 ∨ k = 7 ∨ k = 8 by omega) with rfl | rfl | rfl | rfl | rfl | rfl | rfl | rfl | rfl <;> decide
theorem lB_num {k : Nat} {s : Int × Int} (hk : k ≤ 8) (h : lB 33554432 k s) : (s.1.natAbs : Int) + s.2.natAbs ≤ 1845493760 := by
  have := fib_le k hk
  have h1 := h.1
  omega
section LEA
variable {E : sm_E} {L : sm_S → Prop} {m : sm_M} {c : Nat}
theorem c_path {g : Int × Int} (hg : (g.1.natAbs : Int) ≤ 33554432 ∧ (g.2.natAbs : Int) ≤ 33554432) : ∀ (l k d : Nat) (s : Int × Int) (cd : Int) (Q : Int32 → sm_M → Prop), k + l ≤ 8 → 4 + l ≤ d → nf s → lB 33554432 k s → 1 ≤ cd → cd + 1 ≤ 2 * 10 ^ k → (2 ≤ l → ¬ sol g (l - 2) s) → (cd = 1 ∨ (∃ (sp : Int × Int) (x : Nat), nf sp ∧ s = lSt sp x ∧ x ≤ 2 ∧ cd % 10 = x ∧ 1 < cd ∧ (1 ≤ l → ¬ sol g (l - 1) sp))) → Q (iI (exr g l s cd)) m → sm_callI E L mX3_path d 0 0 [.int (iI s.1), .int (iI s.2), .int (iI g.1), .int (iI g.2), .int (iI (l : Nat)), .int (iI cd)] m Q := by
  intro l
  induction l with
  | zero =>
    intro k d s cd Q hkl hd hs hB hc1 hc2 hM hP hQ
    have hn := lB_num (by omega) hB
    have p10 : (10 : Int) ^ k ≤ 100000000 := by
      have : (10 : Nat) ^ k ≤ 10 ^ 8 := Nat.pow_le_pow_right (by decide) (by omega)
      have h2 : ((10 ^ k : Nat) : Int) = (10 : Int) ^ k := by simp
      have h3 : (10 : Nat) ^ 8 = 100000000 := by decide
      omega
    refine vX3_path_0 (dr := d - 1) (by omega) (by omega) ?_
    simp (disch := omega) only [forall_eq, true_and, and_true, false_and, and_false, forall_const, true_implies, implies_true, not_true_eq_false, not_false_eq_true, false_implies, if_true, if_false, ↓reduceIte, Int.toNat_natCast, Int.reduceEq, Int.reduceNe, Int.reduceLT, Int.reduceLE, Int.reduceToNat, Int.reduceAdd, Int.reduceSub, Int.reduceMul, Int.reduceNeg, Nat.reduceAdd, Nat.reduceMul, Nat.reduceSub, iI_lit, jI_lit, iI_add, iI_sub, iI_mul, iI_neg, jI_add, jI_sub, jI_mul, jI_neg, nI_i, lN_j, iI_le, iI_lt, iI_eq, jI_le, jI_lt, jI_eq, iI_in, iI_cl, iI_j, jI_i, cN, inN, wI_eq, wI_ne, wJ_1, wJ_eq, wJ_ne, wI_2, wJ_3, iI_div, iI_rem, jI_div, jI_rem, true_or, or_true, false_or, or_false, eq_self, Nat.add_zero]
    rw [exr] at hQ
    refine ⟨fun z => by omega, fun _ => ⟨fun z => ?_, fun z => ⟨fun z2 => ?_, fun z2 => ?_⟩⟩⟩
    · rw [if_neg (fun q => z (by rw [q]))] at hQ; exact hQ
    · rw [if_neg (fun q => z2 (by rw [q]))] at hQ; exact hQ
    · have b1 := hg.1
      have b2 := hg.2
      clear hP hM
      have z' : s.1 = g.1 := (iI_eq (by omega) (by omega) (by omega) (by omega)).mp z
      have z2' : s.2 = g.2 := (iI_eq (by omega) (by omega) (by omega) (by omega)).mp z2
      rw [if_pos (Prod.ext z' z2')] at hQ; exact hQ
  | succ l ih =>
    intro k d s cd Q hkl hd hs hB hc1 hc2 hM hP hQ
    have hn := lB_num (by omega) hB
    have p10 : (10 : Int) ^ k ≤ 100000000 ∧ (10 : Int) ^ (k + 1) = 10 * 10 ^ k := by
      refine ⟨?_, by rw [Int.pow_succ, Int.mul_comm]⟩
      have : (10 : Nat) ^ k ≤ 10 ^ 8 := Nat.pow_le_pow_right (by decide) (by omega)
      have h2 : ((10 ^ k : Nat) : Int) = (10 : Int) ^ k := by simp
      have h3 : (10 : Nat) ^ 8 = 100000000 := by decide
      omega
    have hl8 : l ≤ 8 := by omega
    obtain ⟨vs, hvs⟩ : ∃ vs : List Value, vs = [.int (iI s.1), .int (iI s.2), .int (iI g.1), .int (iI g.2), .int (iI ((l + 1 : Nat) : Int)), .int (iI cd)] := ⟨_, rfl⟩
    have el : ((l + 1 : Nat) : Int) - 1 = ((l : Nat) : Int) := by omega
    -- one move tried
    have one : ∀ x : Nat, x ≤ 2 → (0 < exr g l (lSt s x) (cd * 10 + x) → Q (iI (exr g l (lSt s x) (cd * 10 + x))) m) → (¬ 0 < exr g l (lSt s x) (cd * 10 + x) → gX3_path_25 E L d vs (iI s.1) (iI s.2) (iI g.1) (iI g.2) (iI ((l + 1 : Nat) : Int)) (iI cd) (iI ((x + 1 : Nat) : Int)) m Q) → gX3_path_25 E L d vs (iI s.1) (iI s.2) (iI g.1) (iI g.2) (iI ((l + 1 : Nat) : Int)) (iI cd) (iI (x : Nat)) m Q := by
      intro x hx h1 h0
      have ex1 : ((x : Nat) : Int) + 1 = ((x + 1 : Nat) : Int) := by omega
      have g97 : gX3_path_97 E L d vs (iI s.1) (iI s.2) (iI g.1) (iI g.2) (iI ((l + 1 : Nat) : Int)) (iI cd) (iI (x : Nat)) (iI (lSt s x).1) (iI (lSt s x).2) m Q := by
        refine vX3_path_97 (dr := d - 1) (by omega) (by omega) ?_
        simp (disch := omega) only [forall_eq, true_and, and_true, false_and, and_false, forall_const, true_implies, implies_true, not_true_eq_false, not_false_eq_true, false_implies, if_true, if_false, ↓reduceIte, Int.toNat_natCast, Int.reduceEq, Int.reduceNe, Int.reduceLT, Int.reduceLE, Int.reduceToNat, Int.reduceAdd, Int.reduceSub, Int.reduceMul, Int.reduceNeg, Nat.reduceAdd, Nat.reduceMul, Nat.reduceSub, iI_lit, jI_lit, iI_add, iI_sub, iI_mul, iI_neg, jI_add, jI_sub, jI_mul, jI_neg, nI_i, lN_j, iI_le, iI_lt, iI_eq, jI_le, jI_lt, jI_eq, iI_in, iI_cl, iI_j, jI_i, cN, inN, wI_eq, wI_ne, wJ_1, wJ_eq, wJ_ne, wI_2, wJ_3, iI_div, iI_rem, jI_div, jI_rem, true_or, or_true, false_or, or_false, eq_self, Nat.add_zero, el]
        have hcx : 1 ≤ cd * 10 + (x : Int) := by omega
        have hs1 := exr_sol (g := g) l (lSt s x) (cd * 10 + x) hcx
        have hb : exr g l (lSt s x) (cd * 10 + x) ≤ 2000000000 ∧ -1 ≤ exr g l (lSt s x) (cd * 10 + x) := by
          have : ∀ (l k : Nat) (s : Int × Int) (c : Int), k + l ≤ 8 → 1 ≤ c → c + 1 ≤ 2 * 10 ^ k → exr g l s c ≤ 2000000000 ∧ -1 ≤ exr g l s c := by
            intro l
            induction l with
            | zero =>
              intro k s c h1 h2 h3
              have : (10 : Nat) ^ k ≤ 10 ^ 8 := Nat.pow_le_pow_right (by decide) (by omega)
              have h2' : ((10 ^ k : Nat) : Int) = (10 : Int) ^ k := by simp
              have h3' : (10 : Nat) ^ 8 = 100000000 := by decide
              rw [exr]
              split <;> omega
            | succ l ih2 =>
              intro k s c h1 h2 h3
              have hp : (10 : Int) ^ (k + 1) = 10 * 10 ^ k := by rw [Int.pow_succ, Int.mul_comm]
              have q0 := ih2 (k + 1) (lSt s 0) (c * 10 + 0) (by omega) (by omega) (by omega)
              have q1 := ih2 (k + 1) (lSt s 1) (c * 10 + 1) (by omega) (by omega) (by omega)
              have q2 := ih2 (k + 1) (lSt s 2) (c * 10 + 2) (by omega) (by omega) (by omega)
              rw [exr]
              split
              · exact q0
              · split
                · exact q1
                · exact q2
          exact this l (k + 1) _ _ (by omega) (by omega) (by omega)
        refine ih (k + 1) (d - 1) (lSt s x) (cd * 10 + x) _ (by omega) (by omega) (nf_st hs x) (lB_st (by decide) hB x) hcx (by omega) (fun hl2 q => ?_) (Or.inr ⟨s, x, hs, rfl, hx, by omega, by omega, fun hl1 q => ?_⟩) ?_
        · refine hM (by omega) ?_
          rw [show l + 1 - 2 = (l - 2) + 1 by omega, sol]
          rcases (show x = 0 ∨ x = 1 ∨ x = 2 by omega) with rfl | rfl | rfl
          · exact Or.inl q
          · exact Or.inr (Or.inl q)
          · exact Or.inr (Or.inr q)
        · refine hM (by omega) ?_
          rw [show l + 1 - 2 = l - 1 by omega]
          exact q
        · simp (disch := omega) only [forall_eq, true_and, and_true, false_and, and_false, forall_const, true_implies, implies_true, not_true_eq_false, not_false_eq_true, false_implies, if_true, if_false, ↓reduceIte, Int.toNat_natCast, Int.reduceEq, Int.reduceNe, Int.reduceLT, Int.reduceLE, Int.reduceToNat, Int.reduceAdd, Int.reduceSub, Int.reduceMul, Int.reduceNeg, Nat.reduceAdd, Nat.reduceMul, Nat.reduceSub, iI_lit, jI_lit, iI_add, iI_sub, iI_mul, iI_neg, jI_add, jI_sub, jI_mul, jI_neg, nI_i, lN_j, iI_le, iI_lt, iI_eq, jI_le, jI_lt, jI_eq, iI_in, iI_cl, iI_j, jI_i, cN, inN, wI_eq, wI_ne, wJ_1, wJ_eq, wJ_ne, wI_2, wJ_3, iI_div, iI_rem, jI_div, jI_rem, true_or, or_true, false_or, or_false, eq_self, Nat.add_zero, ex1]
          exact ⟨fun z => h0 (by omega), fun z => h1 (by omega)⟩
      have g53 : gX3_path_53 E L d vs (iI s.1) (iI s.2) (iI g.1) (iI g.2) (iI ((l + 1 : Nat) : Int)) (iI cd) (iI (x : Nat)) m Q := by
        refine vX3_path_53 (dr := d - 1) (by omega) (by omega) ?_
        rcases (show x = 0 ∨ x = 1 ∨ x = 2 by omega) with rfl | rfl | rfl
        · refine ⟨fun _ => ⟨fun z => absurd rfl z, fun _ => ?_⟩, fun z => absurd z (by decide)⟩
          intro x7 e7
          rw [iI_add] at e7
          subst e7
          exact ⟨fun _ => g97, fun z => absurd z (by decide)⟩
        · refine ⟨fun _ => ⟨fun _ => ?_, fun z => absurd z (by decide)⟩, fun z => absurd z (by decide)⟩
          intro x7 e7
          rw [iI_sub] at e7
          subst e7
          exact ⟨fun _ => g97, fun z => absurd z (by decide)⟩
        · refine ⟨fun z => absurd rfl z, fun _ => c_turnedTop (by omega) (by omega) (by omega) ⟨fun z => absurd rfl z, fun _ => c_abs (by omega) (by omega) (by omega) g97⟩⟩
      refine vX3_path_25 (dr := d - 1) (by omega) (by omega) ?_
      refine ⟨fun z => ?_, fun _ => ⟨fun z => g53, fun z => ?_⟩⟩
      · simp (disch := omega) only [forall_eq, true_and, and_true, false_and, and_false, forall_const, true_implies, implies_true, not_true_eq_false, not_false_eq_true, false_implies, if_true, if_false, ↓reduceIte, Int.toNat_natCast, Int.reduceEq, Int.reduceNe, Int.reduceLT, Int.reduceLE, Int.reduceToNat, Int.reduceAdd, Int.reduceSub, Int.reduceMul, Int.reduceNeg, Nat.reduceAdd, Nat.reduceMul, Nat.reduceSub, iI_lit, jI_lit, iI_add, iI_sub, iI_mul, iI_neg, jI_add, jI_sub, jI_mul, jI_neg, nI_i, lN_j, iI_le, iI_lt, iI_eq, jI_le, jI_lt, jI_eq, iI_in, iI_cl, iI_j, jI_i, cN, inN, wI_eq, wI_ne, wJ_1, wJ_eq, wJ_ne, wI_2, wJ_3, iI_div, iI_rem, jI_div, jI_rem, true_or, or_true, false_or, or_false, eq_self, Nat.add_zero] at z
        omega
      · simp (disch := omega) only [forall_eq, true_and, and_true, false_and, and_false, forall_const, true_implies, implies_true, not_true_eq_false, not_false_eq_true, false_implies, if_true, if_false, ↓reduceIte, Int.toNat_natCast, Int.reduceEq, Int.reduceNe, Int.reduceLT, Int.reduceLE, Int.reduceToNat, Int.reduceAdd, Int.reduceSub, Int.reduceMul, Int.reduceNeg, Nat.reduceAdd, Nat.reduceMul, Nat.reduceSub, iI_lit, jI_lit, iI_add, iI_sub, iI_mul, iI_neg, jI_add, jI_sub, jI_mul, jI_neg, nI_i, lN_j, iI_le, iI_lt, iI_eq, jI_le, jI_lt, jI_eq, iI_in, iI_cl, iI_j, jI_i, cN, inN, wI_eq, wI_ne, wJ_1, wJ_eq, wJ_ne, wI_2, wJ_3, iI_div, iI_rem, jI_div, jI_rem, true_or, or_true, false_or, or_false, eq_self, Nat.add_zero] at z
        obtain ⟨sp, y, hy1, hy2, hy3, hy4, hy5, hy6⟩ := hP.resolve_left (by omega)
        have hrem : sm_rem (iI cd) 10 = iI (y : Nat) := by
          rw [iI_lit, iI_rem (by omega) (by omega) (by omega) (by omega)]
          congr 1
          show cd.tmod 10 = _
          rw [Int.tmod_eq_emod_of_nonneg (by omega), hy4]
        rw [hrem]
        refine c_undoes (by omega) (by omega) (by omega) (by omega) (by omega) ?_
        by_cases hu : (((y : Nat) : Int) = 2 ∧ ((x : Nat) : Int) = 2) ∨ (((y : Nat) : Int) ≠ 2 ∧ ((y : Nat) : Int) + ((x : Nat) : Int) = 1)
        · rw [if_pos hu]
          refine ⟨fun z => absurd z (by decide), fun _ x6 e6 => ?_⟩
          rw [iI_lit, iI_add] at e6
          subst e6
          have hun := undo hy1 hy3 hx (by omega)
          have := h0 (fun q => by
            have q2 := (exr_sol (g := g) l (lSt s x) (cd * 10 + x) (by omega)).1.mp q
            rw [hy2, hun] at q2
            exact hy6 (by omega) (by rw [show l + 1 - 1 = l by omega]; exact q2))
          rw [← ex1] at this
          exact this
        · rw [if_neg hu]
          exact ⟨fun _ => g53, fun z => absurd rfl z⟩
    refine vX3_path_0 (dr := d - 1) (by omega) (by omega) ?_
    rw [exr] at hQ
    change Q (iI (if 0 < exr g l (lSt s 0) (cd * 10 + ((0 : Nat) : Int)) then exr g l (lSt s 0) (cd * 10 + ((0 : Nat) : Int)) else if 0 < exr g l (lSt s 1) (cd * 10 + ((1 : Nat) : Int)) then exr g l (lSt s 1) (cd * 10 + ((1 : Nat) : Int)) else exr g l (lSt s 2) (cd * 10 + ((2 : Nat) : Int)))) m at hQ
    rw [← hvs]
    refine ⟨fun _ => one 0 (by omega) (fun h => ?_) (fun h => one 1 (by omega) (fun h1 => ?_) (fun h1 => one 2 (by omega) (fun h2 => ?_) (fun h2 => ?_))), fun z => ?_⟩
    · rw [if_pos h] at hQ; exact hQ
    · rw [if_neg h, if_pos h1] at hQ; exact hQ
    · rw [if_neg h, if_neg h1] at hQ; exact hQ
    · rw [if_neg h, if_neg h1] at hQ
      have h9 := (exr_sol (g := g) l (lSt s 2) (cd * 10 + ((2 : Nat) : Int)) (by omega)).2 (fun q => h2 ((exr_sol (g := g) l (lSt s 2) (cd * 10 + ((2 : Nat) : Int)) (by omega)).1.mpr q))
      rw [h9] at hQ
      exact vX3_path_25 (dr := d - 1) (by omega) (by omega) ⟨fun _ => hQ, fun z => absurd (by decide) z⟩
    · simp (disch := omega) only [forall_eq, true_and, and_true, false_and, and_false, forall_const, true_implies, implies_true, not_true_eq_false, not_false_eq_true, false_implies, if_true, if_false, ↓reduceIte, Int.toNat_natCast, Int.reduceEq, Int.reduceNe, Int.reduceLT, Int.reduceLE, Int.reduceToNat, Int.reduceAdd, Int.reduceSub, Int.reduceMul, Int.reduceNeg, Nat.reduceAdd, Nat.reduceMul, Nat.reduceSub, iI_lit, jI_lit, iI_add, iI_sub, iI_mul, iI_neg, jI_add, jI_sub, jI_mul, jI_neg, nI_i, lN_j, iI_le, iI_lt, iI_eq, jI_le, jI_lt, jI_eq, iI_in, iI_cl, iI_j, jI_i, cN, inN, wI_eq, wI_ne, wJ_1, wJ_eq, wJ_ne, wI_2, wJ_3, iI_div, iI_rem, jI_div, jI_rem, true_or, or_true, false_or, or_false, eq_self, Nat.add_zero] at z
      omega
end LEA
