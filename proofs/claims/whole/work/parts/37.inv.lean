/-! the inverse of q, modulo p -/
section INV
variable {E : sm_E} {L : sm_S → Prop} {d : Nat} {m : sm_M}
theorem le_mul_of_pos {a b : Int} (ha : 0 ≤ a) (hb : 1 ≤ b) : a ≤ a * b := by
  have h := Int.mul_le_mul_of_nonneg_left hb ha
  rw [Int.mul_one] at h
  exact h
theorem c_inverse_end {Q : Int32 → sm_M → Prop} {vs : List Value} {p q x : Int} (hp : 2 ≤ p) (hp2 : p ≤ 2147483647) (hd : 1 ≤ d) (hx1 : -p ≤ x) (hx2 : x ≤ p) (hc : ∃ c, x * q = 1 + c * p) (h : ∀ r, 0 ≤ r → r < p → (∃ c, r * q = 1 + c * p) → Q (iI r) m) : gX6_inverseOf_76 E L d vs (iI p) (jI x) m Q := by
  obtain ⟨c, hc⟩ := hc
  have hne : ∀ k : Int, x ≠ k * p := by
    intro k hk
    rw [hk] at hc
    have h1 : p * (k * q - c) = 1 := by
      rw [Int.mul_sub, Int.mul_comm p c, ← Int.mul_assoc, Int.mul_comm p k]
      omega
    have h2 : p ∣ 1 := ⟨_, h1.symm⟩
    have := Int.le_of_dvd (by decide) h2
    omega
  have h1 := hne 1
  have h2 := hne (-1)
  refine vX6_inverseOf_76 hd ⟨fun h0 => ?_, fun h0 => ?_⟩
  · rw [jI_lit, jI_le (by omega) (by omega) (by omega) (by omega)] at h0
    rw [jI_i]
    exact h x h0 (by omega) ⟨c, hc⟩
  · rw [jI_lit, jI_le (by omega) (by omega) (by omega) (by omega)] at h0
    rw [iI_j (by omega) (by omega), jI_add, jI_i]
    refine h (x + p) (by omega) (by omega) ⟨c + q, ?_⟩
    rw [Int.add_mul, Int.add_mul, hc, Int.mul_comm p q]
    omega
theorem c_inverse_loop {Q : Int32 → sm_M → Prop} {vs : List Value} {p q : Int} (hp : 2 ≤ p) (hp2 : p ≤ 2147483647) (hd : 1 ≤ d) (h : ∀ r, 0 ≤ r → r < p → (∃ c, r * q = 1 + c * p) → Q (iI r) m) :
    ∀ (k : Nat) (a b u v s : Int) (t : Nat), (s = 1 ∨ s = -1) → 0 ≤ b → b < a → 0 ≤ u → u ≤ v → u * b + v * a = p → a * b < 2 ^ k → t + k < 1000000 → (∃ c, (-s * u) * q = a + c * p) → (∃ c, (s * v) * q = b + c * p) → Int.gcd a b = 1 → gX6_inverseOf_16 E L d vs (iI p) (jI a) (jI b) (jI (-s * u)) (jI (s * v)) (iI t) m Q := by
  intro k
  induction k with
  | zero =>
    intro a b u v s t hs hb hba hu huv he hk ht hA hB hg
    have hv : 0 ≤ v := by omega
    have hua : 0 ≤ u * b := Int.mul_nonneg hu hb
    have hva : v ≤ v * a := le_mul_of_pos hv (by omega)
    have hb0 : b = 0 := by
      apply Classical.byContradiction
      intro hb0
      have := le_mul_of_pos (show 0 ≤ a by omega) (show 1 ≤ b by omega)
      have h2 : ((2 : Int) ^ 0) = 1 := rfl
      omega
    subst hb0
    have ha1 : a = 1 := by
      rw [Int.gcd_zero] at hg
      omega
    subst ha1
    refine vX6_inverseOf_16 hd ⟨fun _ => ?_, fun _ => ⟨fun _ => ?_, fun h0 => absurd rfl h0⟩⟩
    · exact c_inverse_end hp hp2 hd (by rcases hs with rfl | rfl <;> omega) (by rcases hs with rfl | rfl <;> omega) hA h
    · exact c_inverse_end hp hp2 hd (by rcases hs with rfl | rfl <;> omega) (by rcases hs with rfl | rfl <;> omega) hA h
  | succ k ih =>
    intro a b u v s t hs hb hba hu huv he hk ht hA hB hg
    have hv : 0 ≤ v := by omega
    have hua : 0 ≤ u * b := Int.mul_nonneg hu hb
    have hva : v ≤ v * a := le_mul_of_pos hv (by omega)
    have hap : a ≤ p := by
      apply Classical.byContradiction
      intro hap
      have hv0 : v = 0 := by
        apply Classical.byContradiction
        intro hv0
        have := le_mul_of_pos (show 0 ≤ a by omega) (show 1 ≤ v by omega)
        rw [Int.mul_comm a v] at this
        omega
      subst hv0
      have hu0 : u = 0 := by omega
      subst hu0
      omega
    refine vX6_inverseOf_16 hd ⟨fun hc => ?_, fun _ => ⟨fun h0 => ?_, fun h0 => ⟨h0, fun x11 e11 x13 e13 x15 e15 x10 e10 => ?_⟩⟩⟩
    · simp (disch := omega) only [iI_lit, jI_lit, iI_add, iI_sub, iI_mul, iI_neg, jI_add, jI_sub, jI_mul, jI_neg, nI_i, lN_j, iI_le, iI_lt, iI_eq, jI_le, jI_lt, jI_eq, iI_in, iI_cl, iI_j, jI_i, wI_1, wI_2, wJ_1, wJ_2, wJ_3, wIs_1, wIs_2, wJs_1, wJs_2, wJs_3] at hc
      omega
    · rw [jI_lit, jI_eq (by omega) (by omega) (by omega) (by omega)] at h0
      have hb0 : b = 0 := h0
      subst hb0
      have ha1 : a = 1 := by
        rw [Int.gcd_zero] at hg
        omega
      subst ha1
      exact c_inverse_end hp hp2 hd (by rcases hs with rfl | rfl <;> omega) (by rcases hs with rfl | rfl <;> omega) hA h
    · have hb0 : b ≠ 0 := fun q0 => h0 (by rw [q0]; rfl)
      have hbp : 0 < b := by omega
      rw [jI_div (by omega) (by omega) (by omega) (by omega), Int.tdiv_eq_ediv_of_nonneg (by omega)] at e11
      have hw : b * (a / b) + a % b = a := Int.mul_ediv_add_emod a b
      have hr1 := Int.emod_nonneg a hb0
      have hr2 := Int.emod_lt_of_pos a hbp
      have hw1 : 1 ≤ a / b := by
        apply Classical.byContradiction
        intro hw1
        have : b * (a / b) ≤ b * 0 := Int.mul_le_mul_of_nonneg_left (by omega) (by omega)
        omega
      generalize a / b = w at *
      generalize a % b = r at *
      subst e11
      rw [jI_mul, jI_sub] at e13
      rw [jI_mul, jI_sub] at e15
      rw [iI_lit, iI_add] at e10
      have er : a - w * b = r := by rw [Int.mul_comm w b]; omega
      rw [er] at e13
      have ev : -s * u - w * (s * v) = -s * (u + w * v) := by
        rw [Int.mul_add, Int.neg_mul s (w * v), Int.mul_left_comm w s v]
        omega
      rw [ev] at e15
      have eu : s * v = -(-s) * v := by rw [Int.neg_neg]
      rw [eu]
      have ev2 : -s * (u + w * v) = (-s) * (u + w * v) := rfl
      subst e13
      subst e15
      subst e10
      have hwv : v ≤ v * w := le_mul_of_pos hv hw1
      rw [Int.mul_comm v w] at hwv
      refine ih b r v (u + w * v) (-s) (t + 1) (by omega) hr1 hr2 hv (by omega) ?_ ?_ (by omega) ?_ ?_ ?_
      · rw [← er, ← he, Int.add_mul, Int.mul_sub, Int.mul_assoc w v b, Int.mul_comm v (w * b), Int.mul_assoc w b v, Int.mul_comm b v]
        omega
      · have h6 : 2 * r ≤ a := by
          have : b * 1 ≤ b * w := Int.mul_le_mul_of_nonneg_left hw1 hb
          omega
        have h7 : b * (2 * r) ≤ b * a := Int.mul_le_mul_of_nonneg_left h6 hb
        rw [Int.mul_left_comm, Int.mul_comm b a] at h7
        rw [Int.pow_succ] at hk
        omega
      · obtain ⟨c, hB⟩ := hB
        exact ⟨c, by rw [← hB, ← eu]⟩
      · obtain ⟨c, hA⟩ := hA
        obtain ⟨c2, hB⟩ := hB
        refine ⟨c - w * c2, ?_⟩
        rw [← ev, Int.sub_mul, hA, Int.mul_assoc w, hB, Int.mul_add, Int.sub_mul, Int.mul_assoc w c2 p]
        omega
      · rw [← er, Int.gcd_sub_mul_right_right, Int.gcd_comm]
        exact hg
theorem c_inverseOf {Q : Int32 → sm_M → Prop} {p q : Int} (hp : 2 ≤ p) (hp2 : p ≤ 2147483647) (hq : 0 ≤ q) (hqp : q < p) (hg : Int.gcd p q = 1) (hd : 1 ≤ d) (h : ∀ r, 0 ≤ r → r < p → (∃ c, r * q = 1 + c * p) → Q (iI r) m) : sm_callI E L mX6_inverseOf d 0 0 [.int (iI q), .int (iI p)] m Q := by
  refine vX6_inverseOf_0 hd (fun x2 e2 x4 e4 => ?_)
  rw [iI_j (by omega) (by omega)] at e2 e4
  subst e2
  subst e4
  have hpq : p * q < 2 ^ 62 := by
    have h1 : p * q ≤ p * p := Int.mul_le_mul_of_nonneg_left (by omega) (by omega)
    have h2 : p * p ≤ 2147483647 * p := Int.mul_le_mul_of_nonneg_right hp2 (by omega)
    have h3 : ((2 : Int) ^ 62) = 4611686018427387904 := rfl
    omega
  exact c_inverse_loop hp hp2 hd h 62 p q 0 1 1 0 (Or.inl rfl) hq hqp (by omega) (by omega) (by omega) hpq (by omega) ⟨-1, by omega⟩ ⟨0, by omega⟩ hg
end INV
