/-! fractions, small methods of both programs -/
section FRA
variable {E : sm_E} {L : sm_S → Prop} {d : Nat} {m : sm_M}
theorem c_max {Q : Int32 → sm_M → Prop} {a b : Int} (h1 : -2147483648 ≤ a) (h2 : a ≤ 2147483647) (h3 : -2147483648 ≤ b) (h4 : b ≤ 2147483647) (hd : 1 ≤ d) (h : Q (iI (max a b)) m) : sm_callI E L mJ9_max_7cf53 d 0 0 [.int (iI a), .int (iI b)] m Q := by
  refine vJ9_max_7cf53_0 hd ⟨fun hc => ?_, fun hc => ?_⟩
  · simp (disch := omega) only [iI_lit, jI_lit, iI_add, iI_sub, iI_mul, iI_neg, jI_add, jI_sub, jI_mul, jI_neg, nI_i, lN_j, iI_le, iI_lt, iI_eq, jI_le, jI_lt, jI_eq, iI_in, iI_cl, iI_j, jI_i, wI_1, wI_2, wJ_1, wJ_2, wJ_3, wIs_1, wIs_2, wJs_1, wJs_2, wJs_3] at hc
    rw [show max a b = b by omega] at h
    exact h
  · simp (disch := omega) only [iI_lit, jI_lit, iI_add, iI_sub, iI_mul, iI_neg, jI_add, jI_sub, jI_mul, jI_neg, nI_i, lN_j, iI_le, iI_lt, iI_eq, jI_le, jI_lt, jI_eq, iI_in, iI_cl, iI_j, jI_i, wI_1, wI_2, wJ_1, wJ_2, wJ_3, wIs_1, wIs_2, wJs_1, wJs_2, wJs_3] at hc
    rw [show max a b = a by omega] at h
    exact h
theorem c_min {Q : Int32 → sm_M → Prop} {a b : Int} (h1 : -2147483648 ≤ a) (h2 : a ≤ 2147483647) (h3 : -2147483648 ≤ b) (h4 : b ≤ 2147483647) (hd : 1 ≤ d) (h : Q (iI (min a b)) m) : sm_callI E L mJ9_min_7cf53 d 0 0 [.int (iI a), .int (iI b)] m Q := by
  refine vJ9_min_7cf53_0 hd ⟨fun hc => ?_, fun hc => ?_⟩
  · simp (disch := omega) only [iI_lit, jI_lit, iI_add, iI_sub, iI_mul, iI_neg, jI_add, jI_sub, jI_mul, jI_neg, nI_i, lN_j, iI_le, iI_lt, iI_eq, jI_le, jI_lt, jI_eq, iI_in, iI_cl, iI_j, jI_i, wI_1, wI_2, wJ_1, wJ_2, wJ_3, wIs_1, wIs_2, wJs_1, wJs_2, wJs_3] at hc
    rw [show min a b = b by omega] at h
    exact h
  · simp (disch := omega) only [iI_lit, jI_lit, iI_add, iI_sub, iI_mul, iI_neg, jI_add, jI_sub, jI_mul, jI_neg, nI_i, lN_j, iI_le, iI_lt, iI_eq, jI_le, jI_lt, jI_eq, iI_in, iI_cl, iI_j, jI_i, wI_1, wI_2, wJ_1, wJ_2, wJ_3, wIs_1, wIs_2, wJs_1, wJs_2, wJs_3] at hc
    rw [show min a b = a by omega] at h
    exact h
theorem tmod_nat (p q : Nat) : (p : Int).tmod (q : Int) = ((p % q : Nat) : Int) := by
  rw [Int.tmod_eq_emod_of_nonneg (by omega)]
  exact (Int.natCast_emod p q).symm
theorem euclid_half {p q k : Nat} (h1 : q ≤ p) (h0 : q ≠ 0) (h : p * q < 2 ^ (k + 1)) : q * (p % q) < 2 ^ k := by
  have h2 : p % q < q := Nat.mod_lt _ (by omega)
  have h3 : q * (p / q) + p % q = p := Nat.div_add_mod p q
  have h4 : 1 ≤ p / q := (Nat.one_le_div_iff (by omega)).mpr h1
  have h5 : q * 1 ≤ q * (p / q) := Nat.mul_le_mul_left q h4
  have h6 : 2 * (p % q) ≤ p := by omega
  have h7 : q * (2 * (p % q)) ≤ q * p := Nat.mul_le_mul_left q h6
  rw [Nat.mul_left_comm, Nat.mul_comm q p] at h7
  rw [Nat.pow_succ] at h
  omega
theorem c_divisor_loop {Q : Int32 → sm_M → Prop} {vs : List Value} (hd : 2 ≤ d) : ∀ (k p q t : Nat), q ≤ p → p * q < 2 ^ k → p ≤ 2147483647 → t + k < 1000000 → Q (iI (Nat.gcd p q : Nat)) m → gX3_divisorOf_13 E L d vs (iI p) (iI q) (iI t) m Q := by
  intro k
  induction k with
  | zero =>
    intro p q t h1 h2 h3 h4 h
    have hq : q = 0 := by
      rcases Nat.eq_zero_or_pos q with h5 | h5
      · exact h5
      · have := Nat.mul_le_mul (show 1 ≤ p by omega) (show 1 ≤ q by omega)
        omega
    subst hq
    rw [Nat.gcd_zero_right] at h
    exact vX3_divisorOf_13 hd ⟨fun _ => h, fun _ => ⟨fun _ => h, fun h0 => absurd rfl h0⟩⟩
  | succ k ih =>
    intro p q t h1 h2 h3 h4 h
    refine vX3_divisorOf_13 hd ⟨fun hc => ?_, fun _ => ⟨fun h0 => ?_, fun h0 => ⟨h0, fun x5 e5 x4 e4 => ?_⟩⟩⟩
    · simp (disch := omega) only [iI_lit, jI_lit, iI_add, iI_sub, iI_mul, iI_neg, jI_add, jI_sub, jI_mul, jI_neg, nI_i, lN_j, iI_le, iI_lt, iI_eq, jI_le, jI_lt, jI_eq, iI_in, iI_cl, iI_j, jI_i, wI_1, wI_2, wJ_1, wJ_2, wJ_3, wIs_1, wIs_2, wJs_1, wJs_2, wJs_3] at hc
      omega
    · simp (disch := omega) only [iI_lit, jI_lit, iI_add, iI_sub, iI_mul, iI_neg, jI_add, jI_sub, jI_mul, jI_neg, nI_i, lN_j, iI_le, iI_lt, iI_eq, jI_le, jI_lt, jI_eq, iI_in, iI_cl, iI_j, jI_i, wI_1, wI_2, wJ_1, wJ_2, wJ_3, wIs_1, wIs_2, wJs_1, wJs_2, wJs_3] at h0
      have hq : q = 0 := by omega
      subst hq
      rw [Nat.gcd_zero_right] at h
      exact h
    · have hq : q ≠ 0 := fun q0 => h0 (by rw [q0]; rfl)
      rw [iI_rem (by omega) (by omega) (by omega) (by omega), tmod_nat] at e5
      rw [iI_lit, iI_add] at e4
      subst e5
      subst e4
      have hlt : p % q < q := Nat.mod_lt _ (by omega)
      have := ih q (p % q) (t + 1) (by omega) (euclid_half h1 hq h2) (by omega) (by omega) (by
        rw [Nat.gcd_comm q, ← Nat.gcd_rec, Nat.gcd_comm]
        exact h)
      exact this
theorem c_divisorOf {Q : Int32 → sm_M → Prop} {a b : Int} (h1 : -1073741824 ≤ a) (h2 : a ≤ 1073741824) (h3 : -1073741824 ≤ b) (h4 : b ≤ 1073741824) (hd : 2 ≤ d) (h : Q (iI (Int.gcd a b : Nat)) m) : sm_callI E L mX3_divisorOf d 0 0 [.int (iI a), .int (iI b)] m Q := by
  refine vX3_divisorOf_0 hd (c_abs (by omega) (by omega) (by omega) (c_abs (by omega) (by omega) (by omega) ?_))
  have hg : Int.gcd a b = Nat.gcd a.natAbs b.natAbs := rfl
  rw [hg] at h
  have hA : a.natAbs ≤ 1073741824 := by omega
  have hB : b.natAbs ≤ 1073741824 := by omega
  generalize a.natAbs = p at *
  generalize b.natAbs = q at *
  by_cases hpq : q ≤ p
  · have hm : p * q < 2 ^ 61 := Nat.lt_of_le_of_lt (Nat.mul_le_mul hA hB) (by decide)
    exact c_divisor_loop hd 61 p q 0 hpq hm (by omega) (by omega) h
  · refine vX3_divisorOf_13 hd ⟨fun hc => ?_, fun _ => ⟨fun h0 => ?_, fun h0 => ⟨h0, fun x5 e5 x4 e4 => ?_⟩⟩⟩
    · exact absurd hc (by decide)
    · simp (disch := omega) only [iI_lit, jI_lit, iI_add, iI_sub, iI_mul, iI_neg, jI_add, jI_sub, jI_mul, jI_neg, nI_i, lN_j, iI_le, iI_lt, iI_eq, jI_le, jI_lt, jI_eq, iI_in, iI_cl, iI_j, jI_i, wI_1, wI_2, wJ_1, wJ_2, wJ_3, wIs_1, wIs_2, wJs_1, wJs_2, wJs_3] at h0
      omega
    · rw [iI_rem (by omega) (by omega) (by omega) (by omega), tmod_nat, Nat.mod_eq_of_lt (by omega)] at e5
      subst e5
      subst e4
      have hm : q * p < 2 ^ 61 := Nat.lt_of_le_of_lt (Nat.mul_le_mul hB hA) (by decide)
      exact c_divisor_loop hd 61 q p 1 (by omega) hm (by omega) (by omega) (by rw [Nat.gcd_comm]; exact h)
theorem c_turnedTop {Q : Int32 → sm_M → Prop} {a b : Int} (h1 : -2147483648 ≤ a) (h2 : a ≤ 2147483647) (hd : 1 ≤ d) (h : Q (iI (if a = 0 then 1 else if a < 0 then b else -b)) m) : sm_callI E L mX3_turnedTop d 0 0 [.int (iI a), .int (iI b)] m Q := by
  refine vX3_turnedTop_0 hd ⟨fun hc => ⟨fun hc2 => ?_, fun hc2 => ?_⟩, fun hc => ?_⟩
  · simp (disch := omega) only [iI_lit, jI_lit, iI_add, iI_sub, iI_mul, iI_neg, jI_add, jI_sub, jI_mul, jI_neg, nI_i, lN_j, iI_le, iI_lt, iI_eq, jI_le, jI_lt, jI_eq, iI_in, iI_cl, iI_j, jI_i, wI_1, wI_2, wJ_1, wJ_2, wJ_3, wIs_1, wIs_2, wJs_1, wJs_2, wJs_3] at hc hc2
    rw [if_neg hc, if_pos (by omega)] at h
    exact h
  · simp (disch := omega) only [iI_lit, jI_lit, iI_add, iI_sub, iI_mul, iI_neg, jI_add, jI_sub, jI_mul, jI_neg, nI_i, lN_j, iI_le, iI_lt, iI_eq, jI_le, jI_lt, jI_eq, iI_in, iI_cl, iI_j, jI_i, wI_1, wI_2, wJ_1, wJ_2, wJ_3, wIs_1, wIs_2, wJs_1, wJs_2, wJs_3] at hc hc2
    rw [if_neg hc, if_neg (by omega)] at h
    rw [iI_neg]
    exact h
  · simp (disch := omega) only [iI_lit, jI_lit, iI_add, iI_sub, iI_mul, iI_neg, jI_add, jI_sub, jI_mul, jI_neg, nI_i, lN_j, iI_le, iI_lt, iI_eq, jI_le, jI_lt, jI_eq, iI_in, iI_cl, iI_j, jI_i, wI_1, wI_2, wJ_1, wJ_2, wJ_3, wIs_1, wIs_2, wJs_1, wJs_2, wJs_3] at hc
    rw [if_pos hc] at h
    exact h
theorem c_undoes {Q : Int32 → sm_M → Prop} {a b : Int} (h1 : -1000000000 ≤ a) (h2 : a ≤ 1000000000) (h3 : -1000000000 ≤ b) (h4 : b ≤ 1000000000) (hd : 1 ≤ d) (h : Q (if (a = 2 ∧ b = 2) ∨ (a ≠ 2 ∧ a + b = 1) then 1 else 0) m) : sm_callI E L mX3_undoes d 0 0 [.int (iI a), .int (iI b)] m Q := by
  refine vX3_undoes_0 hd ⟨fun hc => ⟨fun hc2 => ?_, fun hc2 => ?_⟩, fun hc => ⟨fun hc2 => ?_, fun hc2 => ?_⟩⟩
  · rw [iI_add, iI_lit, iI_eq (by omega) (by omega) (by omega) (by omega)] at hc2
    rw [iI_lit, iI_eq (by omega) (by omega) (by omega) (by omega)] at hc
    have q1 : ¬ a = 2 := hc
    have q2 : ¬ a + b = 1 := hc2
    rw [if_neg (fun q => q.elim (fun q => q1 q.1) (fun q => q2 q.2))] at h
    exact h
  · rw [iI_add, iI_lit, iI_eq (by omega) (by omega) (by omega) (by omega)] at hc2
    rw [iI_lit, iI_eq (by omega) (by omega) (by omega) (by omega)] at hc
    have q1 : ¬ a = 2 := hc
    have q2 : a + b = 1 := hc2
    rw [if_pos (Or.inr ⟨q1, q2⟩)] at h
    exact h
  · simp (disch := omega) only [iI_lit, jI_lit, iI_add, iI_sub, iI_mul, iI_neg, jI_add, jI_sub, jI_mul, jI_neg, nI_i, lN_j, iI_le, iI_lt, iI_eq, jI_le, jI_lt, jI_eq, iI_in, iI_cl, iI_j, jI_i, wI_1, wI_2, wJ_1, wJ_2, wJ_3, wIs_1, wIs_2, wJs_1, wJs_2, wJs_3] at hc hc2
    rw [if_neg (by omega)] at h
    exact h
  · simp (disch := omega) only [iI_lit, jI_lit, iI_add, iI_sub, iI_mul, iI_neg, jI_add, jI_sub, jI_mul, jI_neg, nI_i, lN_j, iI_le, iI_lt, iI_eq, jI_le, jI_lt, jI_eq, iI_in, iI_cl, iI_j, jI_i, wI_1, wI_2, wJ_1, wJ_2, wJ_3, wIs_1, wIs_2, wJs_1, wJs_2, wJs_3] at hc hc2
    rw [if_pos (by omega)] at h
    exact h
end FRA
