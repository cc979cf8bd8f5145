/-! the sum of Euclid's quotients -/
theorem lsz_fuel : ∀ f g a b, b < f → b < g → lsz f a b = lsz g a b := by
  intro f
  induction f with
  | zero => intro g a b h; exact absurd h (Nat.not_lt_zero _)
  | succ f ih =>
    intro g a b h1 h2
    obtain ⟨g', rfl⟩ : ∃ g', g = g' + 1 := ⟨g - 1, by omega⟩
    show (if b = 0 then 0 else a / b + lsz f b (a % b)) = (if b = 0 then 0 else a / b + lsz g' b (a % b))
    by_cases hb : b = 0
    · rw [if_pos hb, if_pos hb]
    · rw [if_neg hb, if_neg hb]
      have := Nat.mod_lt a (show 0 < b by omega)
      rw [ih g' b (a % b) (by omega) (by omega)]
def eS (a b : Nat) : Nat := lsz (b + 1) a b
theorem eS_0 (a : Nat) : eS a 0 = 0 := rfl
theorem eS_st {a b : Nat} (hb : 0 < b) : eS a b = a / b + eS b (a % b) := by
  have := Nat.mod_lt a hb
  show (if b = 0 then 0 else a / b + lsz b b (a % b)) = a / b + lsz (a % b + 1) b (a % b)
  rw [if_neg (by omega), lsz_fuel b (a % b + 1) b (a % b) (by omega) (by omega)]
theorem eS_add {a b : Nat} (hb : 0 < b) : eS (a + b) b = eS a b + 1 := by
  rw [eS_st hb, eS_st (a := a) hb, Nat.add_mod_right, Nat.add_div_right _ hb]
  omega
theorem eS_lt {a b : Nat} (h : a < b) : eS a b = eS b a := by
  rw [eS_st (by omega), Nat.div_eq_of_lt h, Nat.mod_eq_of_lt h, Nat.zero_add]
theorem eS_sw (a b : Nat) : eS a b = eS b a := by
  by_cases h : a < b
  · exact eS_lt h
  · by_cases h2 : b < a
    · exact (eS_lt h2).symm
    · rw [show a = b by omega]
theorem eS_co {a b : Nat} (h1 : 0 < a) (h2 : a < b) : eS b (b - a) = eS b a := by
  have e1 : eS b (b - a) = eS a (b - a) + 1 := by
    have := eS_add (a := a) (b := b - a) (by omega)
    rw [show a + (b - a) = b by omega] at this
    exact this
  have e2 : eS b a = eS (b - a) a + 1 := by
    have := eS_add (a := b - a) (b := a) h1
    rw [show b - a + a = b by omega] at this
    exact this
  rw [e1, e2, eS_sw]
theorem eS_one (a : Nat) : eS a 1 = a := by
  rw [eS_st (by omega), Nat.mod_one, eS_0, Nat.div_one, Nat.add_zero]
theorem eS_up {x y : Int} : eS (x + y).natAbs y.natAbs ≤ eS x.natAbs y.natAbs + 1 := by
  by_cases hy : y = 0
  · subst hy
    rw [Int.add_zero]
    omega
  · have key : ∀ (x : Int) (b : Nat), 0 < b → eS (x + b).natAbs b ≤ eS x.natAbs b + 1 := by
      intro x b hb
      by_cases hx : 0 ≤ x
      · rw [show (x + b).natAbs = x.natAbs + b by omega, eS_add hb]
        exact Nat.le_refl _
      · by_cases hx2 : x.natAbs < b
        · rw [show (x + b).natAbs = b - x.natAbs by omega, eS_sw, eS_co (by omega) hx2, eS_sw]
          omega
        · have := eS_add (a := (x + b).natAbs) (b := b) hb
          rw [show (x + b).natAbs + b = x.natAbs by omega] at this
          omega
    by_cases hy2 : 0 < y
    · have := key x y.natAbs (by omega)
      rw [show ((y.natAbs : Nat) : Int) = y by omega] at this
      exact this
    · have := key (-x) y.natAbs (by omega)
      rw [show ((y.natAbs : Nat) : Int) = -y by omega, show -x + -y = -(x + y) by omega, Int.natAbs_neg, Int.natAbs_neg] at this
      exact this
theorem eS_upn {x y : Int} : ∀ n : Nat, eS (x + n * y).natAbs y.natAbs ≤ eS x.natAbs y.natAbs + n ∧ eS (x - n * y).natAbs y.natAbs ≤ eS x.natAbs y.natAbs + n := by
  intro n
  induction n with
  | zero =>
    rw [show ((0 : Nat) : Int) * y = 0 by simp, Int.add_zero, Int.sub_zero]
    exact ⟨Nat.le_refl _, Nat.le_refl _⟩
  | succ n ih =>
    have e : ((n + 1 : Nat) : Int) * y = n * y + y := by
      rw [Int.natCast_add, Int.add_mul]
      simp
    rw [e]
    constructor
    · have := eS_up (x := x + n * y) (y := y)
      rw [show x + (n * y + y) = x + n * y + y by omega]
      omega
    · have := eS_up (x := x - n * y) (y := -y)
      rw [Int.natAbs_neg] at this
      rw [show x - (n * y + y) = x - n * y + -y by omega]
      omega
theorem eS_upk {x y k : Int} : eS (x + k * y).natAbs y.natAbs ≤ eS x.natAbs y.natAbs + k.natAbs := by
  by_cases h : 0 ≤ k
  · have := (eS_upn (x := x) (y := y) k.natAbs).1
    rw [show ((k.natAbs : Nat) : Int) = k by omega] at this
    exact this
  · have := (eS_upn (x := x) (y := y) k.natAbs).2
    rw [show ((k.natAbs : Nat) : Int) = -k by omega, Int.neg_mul, Int.sub_neg] at this
    exact this
/-- a matrix that is made of so many letters -/
def Rch : Nat → Nat → Nat → Nat → Nat → Prop
  | 0, a, b, c, d => a = 1 ∧ b = 0 ∧ c = 0 ∧ d = 1
  | n + 1, a, b, c, d => ∃ a' b' c' d', Rch n a' b' c' d' ∧ ((a = a' + c' ∧ b = b' + d' ∧ c = c' ∧ d = d') ∨ (a = a' ∧ b = b' ∧ c = a' + c' ∧ d = b' + d'))
theorem Rch_r : ∀ n a b c d, Rch n a b c d → Rch (n + 1) (a + b) b (c + d) d ∧ Rch (n + 1) a (a + b) c (c + d) := by
  intro n
  induction n with
  | zero =>
    intro a b c d h
    obtain ⟨rfl, rfl, rfl, rfl⟩ := h
    exact ⟨⟨1, 0, 0, 1, ⟨rfl, rfl, rfl, rfl⟩, Or.inr ⟨rfl, rfl, rfl, rfl⟩⟩, ⟨1, 0, 0, 1, ⟨rfl, rfl, rfl, rfl⟩, Or.inl ⟨rfl, rfl, rfl, rfl⟩⟩⟩
  | succ n ih =>
    intro a b c d h
    obtain ⟨a', b', c', d', h1, h2⟩ := h
    obtain ⟨k1, k2⟩ := ih a' b' c' d' h1
    refine ⟨⟨_, _, _, _, k1, ?_⟩, ⟨_, _, _, _, k2, ?_⟩⟩
    · rcases h2 with ⟨rfl, rfl, rfl, rfl⟩ | ⟨rfl, rfl, rfl, rfl⟩
      · exact Or.inl ⟨by omega, rfl, rfl, rfl⟩
      · exact Or.inr ⟨rfl, rfl, by omega, rfl⟩
    · rcases h2 with ⟨rfl, rfl, rfl, rfl⟩ | ⟨rfl, rfl, rfl, rfl⟩
      · exact Or.inl ⟨rfl, by omega, rfl, rfl⟩
      · exact Or.inr ⟨rfl, rfl, rfl, by omega⟩
theorem Rch_t : ∀ n a b c d, Rch n a b c d → Rch n a c b d := by
  intro n
  induction n with
  | zero =>
    intro a b c d h
    obtain ⟨rfl, rfl, rfl, rfl⟩ := h
    exact ⟨rfl, rfl, rfl, rfl⟩
  | succ n ih =>
    intro a b c d h
    obtain ⟨a', b', c', d', h1, h2⟩ := h
    have h3 := Rch_r n _ _ _ _ (ih _ _ _ _ h1)
    rcases h2 with ⟨rfl, rfl, rfl, rfl⟩ | ⟨rfl, rfl, rfl, rfl⟩
    · exact h3.1
    · exact h3.2
theorem Rch_S : ∀ n a b c d, Rch n a b c d → eS a c ≤ n := by
  intro n
  induction n with
  | zero =>
    intro a b c d h
    obtain ⟨rfl, rfl, rfl, rfl⟩ := h
    exact Nat.le_refl _
  | succ n ih =>
    intro a b c d h
    obtain ⟨a', b', c', d', h1, h2⟩ := h
    have h3 := ih _ _ _ _ h1
    rcases h2 with ⟨rfl, rfl, rfl, rfl⟩ | ⟨rfl, rfl, rfl, rfl⟩
    · by_cases hc : c = 0
      · subst hc
        rw [eS_0]
        omega
      · rw [eS_add (by omega)]
        omega
    · by_cases ha : a = 0
      · subst ha
        rw [eS_sw, eS_0]
        omega
      · rw [eS_sw, Nat.add_comm, eS_add (by omega), eS_sw]
        omega
theorem Rch_det : ∀ n a b c d, Rch n a b c d → a * d = c * b + 1 := by
  intro n
  induction n with
  | zero =>
    intro a b c d h
    obtain ⟨rfl, rfl, rfl, rfl⟩ := h
    rfl
  | succ n ih =>
    intro a b c d h
    obtain ⟨a', b', c', d', h1, h2⟩ := h
    have h3 := ih _ _ _ _ h1
    rcases h2 with ⟨rfl, rfl, rfl, rfl⟩ | ⟨rfl, rfl, rfl, rfl⟩
    · rw [Nat.add_mul, Nat.mul_add, h3]
      omega
    · rw [Nat.mul_add, Nat.add_mul, h3]
      omega
theorem Rch_ex : ∀ N a c, a + c ≤ N → 1 ≤ a → Nat.gcd a c = 1 → ∃ b d, Rch (eS a c) a b c d ∧ b < a ∧ (c = 0 → b = 0 ∧ d = 1) ∧ (1 ≤ c → d ≤ c) := by
  intro N
  induction N with
  | zero =>
    intro a c h1 h2
    have h3 : a + c ≤ 0 := h1
    omega
  | succ N ih =>
    intro a c h1 h2 hg
    by_cases hc : c = 0
    · subst hc
      rw [Nat.gcd_zero_right] at hg
      subst hg
      exact ⟨0, 1, ⟨rfl, rfl, rfl, rfl⟩, by omega, fun _ => ⟨rfl, rfl⟩, fun h => by omega⟩
    · by_cases hac : c < a
      · have hg2 : Nat.gcd (a - c) c = 1 := by
          have := Nat.gcd_sub_self_left (show c ≤ a by omega)
          rw [this]; exact hg
        obtain ⟨b, d, k1, k2, k3, k4⟩ := ih (a - c) c (by omega) (by omega) hg2
        have e : eS a c = eS (a - c) c + 1 := by
          have := eS_add (a := a - c) (b := c) (by omega)
          rw [show a - c + c = a by omega] at this
          exact this
        have := k4 (by omega)
        refine ⟨b + d, d, ?_, by omega, fun h => absurd h hc, fun _ => k4 (by omega)⟩
        rw [e]
        exact ⟨a - c, b, c, d, k1, Or.inl ⟨by omega, rfl, rfl, rfl⟩⟩
      · have hg2 : Nat.gcd a (c - a) = 1 := by
          have := Nat.gcd_sub_self_right (show a ≤ c by omega)
          rw [this]; exact hg
        obtain ⟨b, d, k1, k2, k3, k4⟩ := ih a (c - a) (by omega) (by omega) hg2
        have e : eS a c = eS a (c - a) + 1 := by
          have := eS_add (a := c - a) (b := a) (by omega)
          rw [show c - a + a = c by omega, eS_sw] at this
          rw [this, eS_sw]
        refine ⟨b, b + d, ?_, k2, fun h => absurd h hc, fun _ => ?_⟩
        · rw [e]
          exact ⟨a, b, c - a, d, k1, Or.inr ⟨rfl, rfl, by omega, rfl⟩⟩
        · by_cases h0 : c - a = 0
          · have := k3 h0
            omega
          · have := k4 (by omega)
            omega
/-- the inverse is of no greater size -/
theorem eS_inv {P r i : Nat} (h3 : i < P) {c : Nat} (h : i * r = 1 + c * P) : eS P i ≤ eS P r := by
  have hg : Nat.gcd P r = 1 := by
    have d1 : Nat.gcd P r ∣ i * r := Nat.dvd_trans (Nat.gcd_dvd_right P r) ⟨i, Nat.mul_comm _ _⟩
    have d2 : Nat.gcd P r ∣ c * P := Nat.dvd_trans (Nat.gcd_dvd_left P r) ⟨c, Nat.mul_comm _ _⟩
    rw [h] at d1
    have d3 := (Nat.dvd_add_iff_left d2 (m := 1)).mpr d1
    exact Nat.eq_one_of_dvd_one d3
  obtain ⟨b, d, k1, k2, k3, k4⟩ := Rch_ex (P + r) P r (Nat.le_refl _) (by omega) hg
  have hd := Rch_det _ _ _ _ _ k1
  have hb := Rch_S _ _ _ _ _ (Rch_t _ _ _ _ _ k1)
  have hdv : P ∣ r * (b + i) := ⟨c + d, by rw [Nat.mul_add, Nat.mul_comm r i, h, Nat.mul_add, hd, Nat.mul_comm P c]; omega⟩
  have hdv2 : P ∣ b + i := Nat.Coprime.dvd_of_dvd_mul_left hg hdv
  obtain ⟨k, hk⟩ := hdv2
  have hi0 : i ≠ 0 := fun q => by subst q; omega
  have hk1 : k = 1 := by
    apply Classical.byContradiction
    intro hn
    by_cases hk0 : k = 0
    · subst hk0
      omega
    · have : P * 2 ≤ P * k := Nat.mul_le_mul_left P (by omega)
      omega
  subst hk1
  have hi : i = P - b := by omega
  have hb0 : 0 < b := by omega
  rw [hi, eS_co hb0 k2]
  exact hb
