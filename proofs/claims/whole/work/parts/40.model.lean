/-! small methods of the reference, and the errors of both -/
section MDL
variable {E : sm_E} {L : sm_S → Prop} {d : Nat} {m : sm_M}
theorem c12_isIn {Q : Int32 → sm_M → Prop} {x a b : Int} (h1 : -9223372036854775808 ≤ x) (h2 : x ≤ 9223372036854775807) (h3 : -9223372036854775808 ≤ a) (h4 : a ≤ 9223372036854775807) (h5 : -9223372036854775808 ≤ b) (h6 : b ≤ 9223372036854775807) (hd : 1 ≤ d) (h : Q (if a ≤ x ∧ x ≤ b then 1 else 0) m) : sm_callI E L mX12_isIn d 0 0 [.long (jI x), .long (jI a), .long (jI b)] m Q := by
  refine vX12_isIn_0 hd ⟨fun hc => ?_, fun hc => ⟨fun hc2 => ?_, fun hc2 => ?_⟩⟩
  · simp (disch := omega) only [iI_lit, jI_lit, iI_add, iI_sub, iI_mul, iI_neg, jI_add, jI_sub, jI_mul, jI_neg, nI_i, lN_j, iI_le, iI_lt, iI_eq, jI_le, jI_lt, jI_eq, iI_in, iI_cl, iI_j, jI_i, wI_1, wI_2, wJ_1, wJ_2, wJ_3, wIs_1, wIs_2, wJs_1, wJs_2, wJs_3] at hc
    rw [if_neg (by omega)] at h
    exact h
  · simp (disch := omega) only [iI_lit, jI_lit, iI_add, iI_sub, iI_mul, iI_neg, jI_add, jI_sub, jI_mul, jI_neg, nI_i, lN_j, iI_le, iI_lt, iI_eq, jI_le, jI_lt, jI_eq, iI_in, iI_cl, iI_j, jI_i, wI_1, wI_2, wJ_1, wJ_2, wJ_3, wIs_1, wIs_2, wJs_1, wJs_2, wJs_3] at hc hc2
    rw [if_neg (by omega)] at h
    exact h
  · simp (disch := omega) only [iI_lit, jI_lit, iI_add, iI_sub, iI_mul, iI_neg, jI_add, jI_sub, jI_mul, jI_neg, nI_i, lN_j, iI_le, iI_lt, iI_eq, jI_le, jI_lt, jI_eq, iI_in, iI_cl, iI_j, jI_i, wI_1, wI_2, wJ_1, wJ_2, wJ_3, wIs_1, wIs_2, wJs_1, wJs_2, wJs_3] at hc hc2
    rw [if_pos (by omega)] at h
    exact h
theorem c12_isSlot {Q : Int32 → sm_M → Prop} {z : Int} (h1 : -2147483648 ≤ z) (h2 : z ≤ 2147483647) (hd : 1 ≤ d) (h : Q (if 0 ≤ z ∧ z < 6 then 1 else 0) m) : sm_callI E L mX12_isSlot d 0 0 [.int (iI z)] m Q := by
  refine vX12_isSlot_0 hd ?_
  simp (disch := omega) only [iI_lit, jI_lit, iI_add, iI_sub, iI_mul, iI_neg, jI_add, jI_sub, jI_mul, jI_neg, nI_i, lN_j, iI_le, iI_lt, iI_eq, jI_le, jI_lt, jI_eq, iI_in, iI_cl, iI_j, jI_i, wI_1, wI_2, wJ_1, wJ_2, wJ_3, wIs_1, wIs_2, wJs_1, wJs_2, wJs_3]
  refine ⟨fun hc => ?_, fun hc => ⟨fun hc2 => ?_, fun hc2 => ?_⟩⟩
  · rw [if_neg (by omega)] at h; exact h
  · rw [if_neg (by omega)] at h; exact h
  · rw [if_pos (by omega)] at h; exact h
theorem c12_isSheet {Q : Int32 → sm_M → Prop} {z : Int} (h1 : -2147483648 ≤ z) (h2 : z ≤ 2147483647) (hd : 1 ≤ d) (h : Q (if 0 ≤ z ∧ z < 4 then 1 else 0) m) : sm_callI E L mX12_isSheet d 0 0 [.int (iI z)] m Q := by
  refine vX12_isSheet_0 hd ?_
  simp (disch := omega) only [iI_lit, jI_lit, iI_add, iI_sub, iI_mul, iI_neg, jI_add, jI_sub, jI_mul, jI_neg, nI_i, lN_j, iI_le, iI_lt, iI_eq, jI_le, jI_lt, jI_eq, iI_in, iI_cl, iI_j, jI_i, wI_1, wI_2, wJ_1, wJ_2, wJ_3, wIs_1, wIs_2, wJs_1, wJs_2, wJs_3]
  refine ⟨fun hc => ?_, fun hc => ⟨fun hc2 => ?_, fun hc2 => ?_⟩⟩
  · rw [if_neg (by omega)] at h; exact h
  · rw [if_neg (by omega)] at h; exact h
  · rw [if_pos (by omega)] at h; exact h
theorem c12_isPart {Q : Int32 → sm_M → Prop} {z : Int} (h1 : -2147483648 ≤ z) (h2 : z ≤ 2147483647) (hd : 1 ≤ d) (h : Q (if z = 0 ∨ z = 1 then 1 else 0) m) : sm_callI E L mX12_isPart d 0 0 [.int (iI z)] m Q := by
  refine vX12_isPart_0 hd ⟨fun hc => ?_, fun hc => ⟨fun hc2 => ?_, fun hc2 => ?_⟩⟩
  · simp (disch := omega) only [iI_lit, jI_lit, iI_add, iI_sub, iI_mul, iI_neg, jI_add, jI_sub, jI_mul, jI_neg, nI_i, lN_j, iI_le, iI_lt, iI_eq, jI_le, jI_lt, jI_eq, iI_in, iI_cl, iI_j, jI_i, wI_1, wI_2, wJ_1, wJ_2, wJ_3, wIs_1, wIs_2, wJs_1, wJs_2, wJs_3] at hc
    rw [if_pos (by omega)] at h; exact h
  · simp (disch := omega) only [iI_lit, jI_lit, iI_add, iI_sub, iI_mul, iI_neg, jI_add, jI_sub, jI_mul, jI_neg, nI_i, lN_j, iI_le, iI_lt, iI_eq, jI_le, jI_lt, jI_eq, iI_in, iI_cl, iI_j, jI_i, wI_1, wI_2, wJ_1, wJ_2, wJ_3, wIs_1, wIs_2, wJs_1, wJs_2, wJs_3] at hc hc2
    rw [if_neg (by omega)] at h; exact h
  · simp (disch := omega) only [iI_lit, jI_lit, iI_add, iI_sub, iI_mul, iI_neg, jI_add, jI_sub, jI_mul, jI_neg, nI_i, lN_j, iI_le, iI_lt, iI_eq, jI_le, jI_lt, jI_eq, iI_in, iI_cl, iI_j, jI_i, wI_1, wI_2, wJ_1, wJ_2, wJ_3, wIs_1, wIs_2, wJs_1, wJs_2, wJs_3] at hc hc2
    rw [if_pos (by omega)] at h; exact h
theorem c12_isUnit {Q : Int32 → sm_M → Prop} {z : Int} (h1 : -9223372036854775808 ≤ z) (h2 : z ≤ 9223372036854775807) (hd : 1 ≤ d) (h : Q (if z = 1 ∨ z = -1 then 1 else 0) m) : sm_callI E L mX12_isUnit d 0 0 [.long (jI z)] m Q := by
  refine vX12_isUnit_0 hd ⟨fun hc => ?_, fun hc => ⟨fun hc2 => ?_, fun hc2 => ?_⟩⟩
  · simp (disch := omega) only [iI_lit, jI_lit, iI_add, iI_sub, iI_mul, iI_neg, jI_add, jI_sub, jI_mul, jI_neg, nI_i, lN_j, iI_le, iI_lt, iI_eq, jI_le, jI_lt, jI_eq, iI_in, iI_cl, iI_j, jI_i, wI_1, wI_2, wJ_1, wJ_2, wJ_3, wIs_1, wIs_2, wJs_1, wJs_2, wJs_3] at hc
    rw [if_pos (by omega)] at h; exact h
  · simp (disch := omega) only [iI_lit, jI_lit, iI_add, iI_sub, iI_mul, iI_neg, jI_add, jI_sub, jI_mul, jI_neg, nI_i, lN_j, iI_le, iI_lt, iI_eq, jI_le, jI_lt, jI_eq, iI_in, iI_cl, iI_j, jI_i, wI_1, wI_2, wJ_1, wJ_2, wJ_3, wIs_1, wIs_2, wJs_1, wJs_2, wJs_3] at hc hc2
    rw [if_neg (by omega)] at h; exact h
  · simp (disch := omega) only [iI_lit, jI_lit, iI_add, iI_sub, iI_mul, iI_neg, jI_add, jI_sub, jI_mul, jI_neg, nI_i, lN_j, iI_le, iI_lt, iI_eq, jI_le, jI_lt, jI_eq, iI_in, iI_cl, iI_j, jI_i, wI_1, wI_2, wJ_1, wJ_2, wJ_3, wIs_1, wIs_2, wJs_1, wJs_2, wJs_3] at hc hc2
    rw [if_pos (by omega)] at h; exact h
/-- one more of the error e -/
theorem c12_finds {Q : Int32 → sm_M → Prop} {e : Nat} (hly : ∀ S, L S → ly S) (he : e < 7) (hd : 1 ≤ d) (h : Q (iI (-1000000000 - e)) (sm_wI m 110 e (m.1 110 e + 1))) : sm_callI E L mX12_finds d 0 0 [.ref (sm_B E + 109), .int (iI (e : Nat))] m Q := by
  have htn : (iI (e : Nat)).toNatClampNeg = e := by rw [iI_cl (by omega) (by omega)]; omega
  have hin : vp_in (iI (e : Nat)) 7 := by rw [iI_in (by omega) (by omega)]; omega
  refine vX12_finds_0 hly hd ⟨hin, hin, fun m2 e2 => ?_⟩
  subst e2
  rw [htn, show (-1000000000 : Int32) = iI (-1000000000) by decide, iI_sub]
  exact h
theorem c12_findsFar {Q : Int64 → sm_M → Prop} {e : Nat} (hly : ∀ S, L S → ly S) (he : e < 7) (hd : 1 ≤ d) (h : Q (jI (-9000000000000000000 - e)) (sm_wI m 110 e (m.1 110 e + 1))) : sm_callJ E L mX12_findsFar d 0 0 [.ref (sm_B E + 109), .int (iI (e : Nat))] m Q := by
  have htn : (iI (e : Nat)).toNatClampNeg = e := by rw [iI_cl (by omega) (by omega)]; omega
  have hin : vp_in (iI (e : Nat)) 7 := by rw [iI_in (by omega) (by omega)]; omega
  refine vX12_findsFar_0 hly hd ⟨hin, hin, fun m2 e2 => ?_⟩
  subst e2
  rw [htn, show (-9000000000000000000 : Int64) = jI (-9000000000000000000) by decide, iI_j (by omega) (by omega), jI_sub]
  exact h
theorem c_error {Q : Int32 → sm_M → Prop} {e : Nat} (hly : ∀ S, L S → ly S) (he : e < 7) (hd : 1 ≤ d) (h : Q (iI (-1000000000 - e)) (sm_wI m 76 e (m.1 76 e + 1))) : sm_callI E L mX11_error d 0 0 [.ref (sm_B E + 0), .int (iI (e : Nat))] m Q := by
  have htn : (iI (e : Nat)).toNatClampNeg = e := by rw [iI_cl (by omega) (by omega)]; omega
  have hin : vp_in (iI (e : Nat)) 7 := by rw [iI_in (by omega) (by omega)]; omega
  refine vX11_error_0 hly hd ⟨hin, hin, fun m2 e2 => ?_⟩
  subst e2
  rw [htn, show (-1000000000 : Int32) = iI (-1000000000) by decide, iI_sub]
  exact h
theorem c12_divisor_loop {Q : Int64 → sm_M → Prop} {vs : List Value} (hd : 1 ≤ d) : ∀ (n q p : Nat), q ≤ n → p ≤ 9223372036854775807 → q ≤ 9223372036854775807 → Q (jI (Nat.gcd p q : Nat)) m → gX12_divisor_28 E L d vs (jI p) (jI q) m Q := by
  intro n
  induction n with
  | zero =>
    intro q p h1 h2 h3 h
    have hq : q = 0 := by omega
    subst hq
    rw [Nat.gcd_zero_right] at h
    exact vX12_divisor_28 hd ⟨fun _ => h, fun h0 => absurd rfl h0⟩
  | succ n ih =>
    intro q p h1 h2 h3 h
    refine vX12_divisor_28 hd ⟨fun h0 => ?_, fun h0 => ⟨h0, fun x8 e8 => ?_⟩⟩
    · rw [jI_lit, jI_eq (by omega) (by omega) (by omega) (by omega)] at h0
      have hq : q = 0 := by
        have h5 : (q : Int) = 0 := h0
        omega
      subst hq
      rw [Nat.gcd_zero_right] at h
      exact h
    · have hq : q ≠ 0 := fun q0 => h0 (by rw [q0]; rfl)
      rw [jI_rem (by omega) (by omega) (by omega) (by omega), tmod_nat] at e8
      subst e8
      have hlt : p % q < q := Nat.mod_lt _ (by omega)
      refine ih (p % q) q (by omega) h3 (by omega) ?_
      rw [Nat.gcd_comm q, ← Nat.gcd_rec, Nat.gcd_comm]
      exact h
theorem c12_divisor {Q : Int64 → sm_M → Prop} {a b : Int} (h1 : -9223372036854775807 ≤ a) (h2 : a ≤ 9223372036854775807) (h3 : -9223372036854775807 ≤ b) (h4 : b ≤ 9223372036854775807) (hd : 1 ≤ d) (h : Q (jI (Int.gcd a b : Nat)) m) : sm_callJ E L mX12_divisor d 0 0 [.long (jI a), .long (jI b)] m Q := by
  have hg : Int.gcd a b = Nat.gcd a.natAbs b.natAbs := rfl
  rw [hg] at h
  have key : ∀ vs : List Value, gX12_divisor_12 E L d vs (jI b) (jI (a.natAbs : Int)) m Q := fun vs => by
    refine vX12_divisor_12 hd ⟨fun hc => ?_, fun hc x6 e6 => ?_⟩
    · rw [jI_lit, jI_le (by omega) (by omega) (by omega) (by omega)] at hc
      have hc2 : (0 : Int) ≤ b := hc
      rw [show jI b = jI (b.natAbs : Int) by rw [show (b.natAbs : Int) = b by omega]]
      exact c12_divisor_loop hd b.natAbs b.natAbs a.natAbs (by omega) (by omega) (by omega) h
    · rw [jI_lit, jI_le (by omega) (by omega) (by omega) (by omega)] at hc
      have hc2 : ¬ (0 : Int) ≤ b := hc
      rw [jI_neg, show -b = (b.natAbs : Int) by omega] at e6
      subst e6
      exact c12_divisor_loop hd b.natAbs b.natAbs a.natAbs (by omega) (by omega) (by omega) h
  refine vX12_divisor_0 hd ⟨fun hc => ?_, fun hc => ?_⟩
  · rw [jI_lit, jI_le (by omega) (by omega) (by omega) (by omega)] at hc
    have hc2 : (0 : Int) ≤ a := hc
    have h9 := key [.long (jI a), .long (jI b)]
    rw [show (a.natAbs : Int) = a by omega] at h9
    exact h9
  · rw [jI_lit, jI_le (by omega) (by omega) (by omega) (by omega)] at hc
    have hc2 : ¬ (0 : Int) ≤ a := hc
    have h9 := key [.long (jI a), .long (jI b)]
    rw [show (a.natAbs : Int) = -a by omega, ← jI_neg] at h9
    exact h9
theorem c12_left {Q : Int64 → sm_M → Prop} {a b : Int} (h1 : -9223372036854775808 ≤ a) (h2 : a ≤ 9223372036854775807) (h3 : 0 < b) (h4 : b ≤ 9223372036854775807) (hd : 1 ≤ d) (h : Q (jI (a % b)) m) : sm_callJ E L mX12_left d 0 0 [.long (jI a), .long (jI b)] m Q := by
  have hb1 := Int.emod_nonneg a (show b ≠ 0 by omega)
  have hb2 := Int.emod_lt_of_pos a h3
  have ht : a.tmod b = if 0 ≤ a ∨ b ∣ a then a % b else a % b - b := by
    rw [Int.tmod_eq_emod]
    split
    · omega
    · omega
  refine vX12_left_0 hd ⟨fun hc => ?_, fun x4 e4 => ?_⟩
  · rw [jI_lit, jI_eq (by omega) (by omega) (by omega) (by omega)] at hc
    have : b = 0 := hc
    omega
  · rw [jI_rem (by omega) (by omega) (by omega) (by omega)] at e4
    subst e4
    by_cases hz : 0 ≤ a ∨ b ∣ a
    · rw [ht, if_pos hz]
      refine ⟨fun _ => h, fun hc => ?_⟩
      rw [jI_lit, jI_le (by omega) (by omega) (by omega) (by omega)] at hc
      exact absurd hb1 hc
    · rw [ht, if_neg hz]
      refine ⟨fun hc => ?_, fun _ => ?_⟩
      · rw [jI_lit, jI_le (by omega) (by omega) (by omega) (by omega)] at hc
        have : (0 : Int) ≤ a % b - b := hc
        omega
      · rw [jI_add, Int.sub_add_cancel]
        exact h
end MDL
