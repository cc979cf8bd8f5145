/-! pairs without a common divisor; names -/
def cop (a b : Int) : Prop := ∃ x y : Int, x * a + y * b = 1
theorem cop_gcd {a b : Int} (h : cop a b) : Int.gcd a b = 1 := by
  obtain ⟨x, y, h⟩ := h
  have d : (Int.gcd a b : Int) ∣ 1 := by
    rw [← h]
    exact Int.dvd_add (Int.dvd_trans (Int.gcd_dvd_left ..) ⟨x, Int.mul_comm _ _⟩) (Int.dvd_trans (Int.gcd_dvd_right ..) ⟨y, Int.mul_comm _ _⟩)
  have := Int.eq_one_of_dvd_one (by omega) d
  omega
theorem bez_nat (b : Nat) : ∀ a : Nat, ∃ x y : Int, x * a + y * b = (Nat.gcd a b : Nat) := by
  induction b using Nat.strongRecOn with
  | ind b ih =>
    intro a
    by_cases hb : b = 0
    · subst hb
      exact ⟨1, 0, by rw [Nat.gcd_zero_right]; simp⟩
    · obtain ⟨x, y, h⟩ := ih (a % b) (Nat.mod_lt _ (by omega)) b
      have e : Nat.gcd a b = Nat.gcd b (a % b) := by rw [Nat.gcd_comm b, ← Nat.gcd_rec, Nat.gcd_comm]
      refine ⟨y, x - y * ((a / b : Nat) : Int), ?_⟩
      rw [e, ← h]
      have h2 : ((a % b : Nat) : Int) = (a : Int) - (b : Int) * ((a / b : Nat) : Int) := by
        have := Nat.div_add_mod a b
        have h3 : ((b * (a / b) : Nat) : Int) + ((a % b : Nat) : Int) = (a : Int) := by omega
        rw [Int.natCast_mul] at h3
        omega
      rw [h2]
      grind
theorem gcd_cop {a b : Int} (h : Int.gcd a b = 1) : cop a b := by
  obtain ⟨x, y, e⟩ := bez_nat b.natAbs a.natAbs
  have h1 : Nat.gcd a.natAbs b.natAbs = 1 := h
  rw [h1] at e
  have ha : (a.natAbs : Int) = a ∨ (a.natAbs : Int) = -a := by omega
  have hb : (b.natAbs : Int) = b ∨ (b.natAbs : Int) = -b := by omega
  rcases ha with ha | ha <;> rcases hb with hb | hb <;> rw [ha, hb] at e
  · exact ⟨x, y, by omega⟩
  · exact ⟨x, -y, by grind⟩
  · exact ⟨-x, y, by grind⟩
  · exact ⟨-x, -y, by grind⟩
theorem cop_sum {a b c d : Int} (h1 : cop a b) (h2 : cop c d) (h : isU b ∨ isU d) : cop (a * d + c * b) (b * d) := by
  obtain ⟨u, v, e⟩ := h1
  obtain ⟨u', v', e'⟩ := h2
  rcases h with (h | h) | (h | h) <;> subst h
  · exact ⟨u', v' - u' * a, by grind⟩
  · exact ⟨-u', -(v' + u' * a), by grind⟩
  · exact ⟨u, v - u * c, by grind⟩
  · exact ⟨-u, -(v + u * c), by grind⟩
theorem cop_stk {a b c d : Int} (h1 : cop a b) (h2 : cop c d) (h : isU a ∨ isU c) : cop (a * c) (a * d + c * b) := by
  obtain ⟨u, v, e⟩ := h1
  obtain ⟨u', v', e'⟩ := h2
  rcases h with (h | h) | (h | h) <;> subst h
  · exact ⟨u' - v' * b, v', by grind⟩
  · exact ⟨-(u' + v' * b), -v', by grind⟩
  · exact ⟨u - v * d, v, by grind⟩
  · exact ⟨-(u + v * d), -v, by grind⟩
theorem rat_step {s : evS} {z : Int} (hz1 : 10 < z → 1 ≤ s.1) (hz2 : 10 < z → z < 13 → 2 ≤ s.1) (h : ∀ k, k < s.1 → s.2.2.2.1 k = 1 → cop (s.2.1 k) (s.2.2.1 k)) : ∀ k, k < (evStep s z).1 → (evStep s z).2.2.2.1 k = 1 → cop ((evStep s z).2.1 k) ((evStep s z).2.2.1 k) := by
  intro k hk hr
  rw [evStep_h] at hk
  unfold evStep at hr ⊢
  by_cases h1 : z ≤ 10
  · rw [if_pos h1] at hr hk ⊢
    by_cases hks : k = s.1
    · subst hks
      simp only [evPush, upI_eq]
      by_cases hz : z = 10
      · rw [if_pos hz, if_pos hz]
        exact ⟨1, 0, rfl⟩
      · rw [if_neg hz, if_neg hz]
        exact ⟨0, 1, by omega⟩
    · simp only [evPush, upI_ne hks] at hr ⊢
      exact h k (by omega) hr
  · rw [if_neg h1] at hr hk ⊢
    by_cases h2 : z = 11
    · have hs := hz2 (by omega) (by omega)
      rw [if_pos (Or.inl h2)] at hk
      rw [if_pos h2] at hr ⊢
      by_cases hks : k = s.1 - 2
      · subst hks
        simp only [evSum, upI_eq] at hr ⊢
        by_cases hc : s.2.2.2.1 (s.1 - 2) = 1 ∧ s.2.2.2.1 (s.1 - 1) = 1 ∧ (isU (s.2.2.1 (s.1 - 2)) ∨ isU (s.2.2.1 (s.1 - 1)))
        · exact cop_sum (h _ (by omega) hc.1) (h _ (by omega) hc.2.1) hc.2.2
        · rw [if_neg hc] at hr
          exact absurd hr (by decide)
      · simp only [evSum, upI_ne hks] at hr ⊢
        exact h k (by omega) hr
    · rw [if_neg h2] at hr ⊢
      by_cases h3 : z = 12
      · have hs := hz2 (by omega) (by omega)
        rw [if_pos (Or.inr h3)] at hk
        rw [if_pos h3] at hr ⊢
        by_cases hks : k = s.1 - 2
        · subst hks
          simp only [evStk, upI_eq] at hr ⊢
          by_cases hc : s.2.2.2.1 (s.1 - 2) = 1 ∧ s.2.2.2.1 (s.1 - 1) = 1 ∧ (isU (s.2.1 (s.1 - 2)) ∨ isU (s.2.1 (s.1 - 1)))
          · exact cop_stk (h _ (by omega) hc.1) (h _ (by omega) hc.2.1) hc.2.2
          · rw [if_neg hc] at hr
            exact absurd hr (by decide)
        · simp only [evStk, upI_ne hks] at hr ⊢
          exact h k (by omega) hr
      · rw [if_neg (by omega)] at hk
        rw [if_neg h3] at hr ⊢
        by_cases h4 : z = 13
        · rw [if_pos h4] at hr ⊢
          by_cases hks : k = s.1 - 1
          · subst hks
            simp only [evTurn, upI_eq] at hr ⊢
            obtain ⟨x, y, e⟩ := h _ (by omega) hr
            exact ⟨-y, x, by grind⟩
          · simp only [evTurn, upI_ne hks] at hr ⊢
            exact h k (by omega) hr
        · rw [if_neg h4] at hr ⊢
          by_cases hks : k = s.1 - 1
          · subst hks
            simp only [evMir, upI_eq] at hr ⊢
            obtain ⟨x, y, e⟩ := h _ (by omega) hr
            exact ⟨-x, y, by grind⟩
          · simp only [evMir, upI_ne hks] at hr ⊢
            exact h k (by omega) hr
theorem rat_cop {t : Nat → Int} {n : Nat} (hok : okT t n) : ∀ k, k < (ev t n).1 → (ev t n).2.2.2.1 k = 1 → cop ((ev t n).2.1 k) ((ev t n).2.2.1 k) := by
  induction n with
  | zero => exact fun k hk => absurd hk (Nat.not_lt_zero _)
  | succ n ih =>
    have h1 := hok n (by omega)
    exact rat_step h1.2.2.1 h1.2.2.2 (ih (hok.le (by omega)))
theorem vT.rat {t : Nat → Int} {n : Nat} (h : vT t n) (hr : Tr t n = 1) : Int.gcd (Tt t n) (Tb t n) = 1 := cop_gcd (rat_cop h.1 0 (by rw [h.2.1]; decide) hr)
theorem f_one {a b : Int} (h : Int.gcd a b = 1) : (fP a b = a ∧ fQ a b = b) ∨ (fP a b = -a ∧ fQ a b = -b) := by
  unfold fP fQ fby
  rw [h]
  split
  · refine Or.inr ⟨?_, ?_⟩
    · rw [show -((1 : Nat) : Int) = -1 from rfl, Int.tdiv_neg, Int.tdiv_one]
    · rw [show -((1 : Nat) : Int) = -1 from rfl, Int.tdiv_neg, Int.tdiv_one]
  · exact Or.inl ⟨Int.tdiv_one _, Int.tdiv_one _⟩
theorem nm_neg (a b : Int) : nm (-a) (-b) = nm a b := by
  unfold nm
  by_cases h0 : a = 0
  · rw [if_pos h0, if_pos (by omega)]
  · rw [if_neg h0, if_neg (by omega), Int.natAbs_neg]
    by_cases h1 : a.natAbs = 1
    · rw [if_pos h1, if_pos h1]
    · rw [if_neg h1, if_neg h1]
      by_cases h2 : 0 ≤ a
      · rw [if_pos h2, if_neg (by omega), Int.neg_neg]
      · rw [if_neg h2, if_pos (by omega)]
theorem nm_f {a b : Int} (h : Int.gcd a b = 1) : nm (fP a b) (fQ a b) = nm a b ∧ nm (-(fQ a b)) (fP a b) = nm (-b) a := by
  rcases f_one h with ⟨h1, h2⟩ | ⟨h1, h2⟩
  · rw [h1, h2]
    exact ⟨rfl, rfl⟩
  · rw [h1, h2]
    refine ⟨nm_neg a b, ?_⟩
    have := nm_neg (-b) a
    rw [← this]
theorem isInv.symm {p q r : Int} (hq1 : 0 ≤ q) (hq2 : q < p) (h : isInv p q r) : isInv p r q := by
  obtain ⟨h1, h2, c, h3⟩ := h
  exact ⟨hq1, hq2, c, by rw [Int.mul_comm]; exact h3⟩
theorem inv_ex {p q : Int} (hp : 2 ≤ p) (h : cop p q) : ∃ r, isInv p (q % p) r := by
  obtain ⟨x, y, e⟩ := h
  refine ⟨y % p, Int.emod_nonneg _ (by omega), Int.emod_lt_of_pos _ (by omega), -x - y * (q / p) - (y / p) * q + p * (y / p) * (q / p), ?_⟩
  rw [Int.emod_def, Int.emod_def]
  grind
theorem inv_pos {p q r : Int} (hp : 2 ≤ p) (hq : 0 ≤ q) (h : isInv p q r) : 0 < q ∧ 0 < r := by
  obtain ⟨h1, h2, c, h3⟩ := h
  have key : ∀ c : Int, 0 ≠ 1 + c * p := by
    intro c hc
    have h4 : c * p = -1 := by omega
    have h5 : p ∣ -1 := ⟨c, by rw [← h4, Int.mul_comm]⟩
    have := Int.le_of_dvd (by decide) (Int.dvd_neg.mp h5)
    omega
  constructor
  · rcases Int.lt_or_eq_of_le hq with h0 | h0
    · exact h0
    · rw [← h0, Int.mul_zero] at h3
      exact absurd h3 (key c)
  · rcases Int.lt_or_eq_of_le h1 with h0 | h0
    · exact h0
    · rw [← h0, Int.zero_mul] at h3
      exact absurd h3 (key c)
/-- what a name is -/
def isNm (P Q : Int) : Prop := (P = 0 ∧ Q = 1) ∨ (P = 1 ∧ Q = 0) ∨ (2 ≤ P ∧ 0 < Q ∧ Q < P ∧ ∃ R, isInv P Q R ∧ Q ≤ R)
theorem nmB_is {p q : Int} (hp : 2 ≤ p) (h : cop p q) : isNm p (nmB p q) := by
  obtain ⟨r, hr⟩ := inv_ex hp h
  have q1 := Int.emod_nonneg q (show p ≠ 0 by omega)
  have q2 := Int.emod_lt_of_pos q (show 0 < p by omega)
  have hpos := inv_pos hp q1 hr
  rw [nmB_of hr]
  have hlt := hr.2.1
  rcases Int.le_total (q % p) r with hle | hle
  · rw [show min (q % p) r = q % p by omega]
    exact Or.inr (Or.inr ⟨hp, hpos.1, q2, r, hr, hle⟩)
  · rw [show min (q % p) r = r by omega]
    exact Or.inr (Or.inr ⟨hp, hpos.2, hlt, q % p, hr.symm q1 q2, hle⟩)
theorem nm_is {a b : Int} (h : Int.gcd a b = 1) : isNm (nm a b).1 (nm a b).2 := by
  obtain ⟨x, y, e⟩ := gcd_cop h
  unfold nm
  by_cases h0 : a = 0
  · rw [if_pos h0]
    exact Or.inl ⟨rfl, rfl⟩
  · rw [if_neg h0]
    by_cases h1 : a.natAbs = 1
    · rw [if_pos h1]
      exact Or.inr (Or.inl ⟨rfl, rfl⟩)
    · rw [if_neg h1]
      refine nmB_is (by omega) ?_
      by_cases h2 : 0 ≤ a
      · rw [if_pos h2, show (a.natAbs : Int) = a by omega]
        exact ⟨x, y, e⟩
      · rw [if_neg h2, show (a.natAbs : Int) = -a by omega]
        exact ⟨-x, -y, by grind⟩
theorem isNm.cop {P Q : Int} (h : isNm P Q) : cop P Q := by
  rcases h with ⟨rfl, rfl⟩ | ⟨rfl, rfl⟩ | ⟨h1, h2, h3, R, ⟨h4, h5, c, h6⟩, h7⟩
  · exact ⟨0, 1, rfl⟩
  · exact ⟨1, 0, rfl⟩
  · exact ⟨-c, R, by grind⟩
/-- the looking glass of a name -/
noncomputable def gl (P Q : Int) : Int × Int := if P ≤ 1 then (P, Q) else (P, nmB P (P - Q))
theorem gl_inv {P Q R : Int} (h1 : 2 ≤ P) (h2 : 0 < Q) (h3 : Q < P) (hR : isInv P Q R) (h7 : Q ≤ R) : nmB P (P - Q) = P - R := by
  obtain ⟨h4, h5, c, h6⟩ := hR
  have hm : (P - Q) % P = P - Q := Int.emod_eq_of_lt (by omega) (by omega)
  have hi : isInv P ((P - Q) % P) (P - R) := by
    rw [hm]
    have := inv_pos h1 (by omega) ⟨h4, h5, c, h6⟩
    exact ⟨by omega, by omega, P - Q - R + c, by grind⟩
  rw [nmB_of hi, hm]
  omega
theorem gl_is {P Q : Int} (h : isNm P Q) : isNm (gl P Q).1 (gl P Q).2 := by
  unfold gl
  by_cases hp : P ≤ 1
  · rw [if_pos hp]
    exact h
  · rw [if_neg hp]
    refine nmB_is (by omega) ?_
    obtain ⟨x, y, e⟩ := h.cop
    exact ⟨x + y, -y, by grind⟩
theorem gl_gl {P Q : Int} (h : isNm P Q) : gl (gl P Q).1 (gl P Q).2 = (P, Q) := by
  by_cases hp : P ≤ 1
  · unfold gl
    rw [if_pos hp, if_pos hp]
  · rcases h with ⟨rfl, rfl⟩ | ⟨rfl, rfl⟩ | ⟨h1, h2, h3, R, hR, h7⟩
    · omega
    · omega
    · have e1 := gl_inv h1 h2 h3 hR h7
      unfold gl
      rw [if_neg hp, e1, if_neg hp]
      obtain ⟨h4, h5, c, h6⟩ := hR
      have hpos := inv_pos h1 (by omega) ⟨h4, h5, c, h6⟩
      have e2 := gl_inv (P := P) (Q := P - R) (R := P - Q) h1 (by omega) (by omega) ⟨by omega, by omega, P - Q - R + c, by grind⟩ (by omega)
      rw [e2]
      congr 1
      omega
theorem gl_swap {P Q P' Q' : Int} (h : isNm P Q) (h' : isNm P' Q') : gl P Q = (P', Q') ↔ gl P' Q' = (P, Q) := by
  constructor
  · intro e
    have := gl_gl h
    rw [e] at this
    exact this
  · intro e
    have := gl_gl h'
    rw [e] at this
    exact this
