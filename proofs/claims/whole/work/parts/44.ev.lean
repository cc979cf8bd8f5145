/-! reading numbers and cells -/
theorem ite01 (p : Prop) [Decidable p] : (if p then (1 : Int) else 0) = 0 ∨ (if p then (1 : Int) else 0) = 1 := by
  by_cases h : p
  · rw [if_pos h]; exact Or.inr rfl
  · rw [if_neg h]; exact Or.inl rfl
theorem cN {n : Nat} (h : n ≤ 2147483647) : (iI (n : Int)).toNatClampNeg = n := by rw [iI_cl (by omega) (by omega)]; omega
theorem inN {n k : Nat} (h : n ≤ 2147483647) : vp_in (iI (n : Int)) k ↔ n < k := by rw [iI_in (by omega) (by omega)]; omega
theorem wI_eq {m : sm_M} {a i : Nat} {v : Int32} {b j : Nat} (h1 : b = a) (h2 : j = i) : (sm_wI m a i v).1 b j = v := by rw [wI_1, if_pos ⟨h1, h2⟩]
theorem wI_ne {m : sm_M} {a i : Nat} {v : Int32} {b j : Nat} (h : b ≠ a ∨ j ≠ i) : (sm_wI m a i v).1 b j = m.1 b j := by rw [wI_1, if_neg (by omega)]
theorem wJ_eq {m : sm_M} {a i : Nat} {v : Int64} {b j : Nat} (h1 : b = a) (h2 : j = i) : (sm_wJ m a i v).2.1 b j = v := by rw [wJ_2, if_pos ⟨h1, h2⟩]
theorem wJ_ne {m : sm_M} {a i : Nat} {v : Int64} {b j : Nat} (h : b ≠ a ∨ j ≠ i) : (sm_wJ m a i v).2.1 b j = m.2.1 b j := by rw [wJ_2, if_neg (by omega)]
/-! what a row of tokens is worked out to: height, tops, bottoms, rationals (0 or 1), depths -/
abbrev evS : Type := Nat × (Nat → Int) × (Nat → Int) × (Nat → Int) × (Nat → Int)
def upI (f : Nat → Int) (k : Nat) (v : Int) : Nat → Int := fun j => if j = k then v else f j
theorem upI_at {f : Nat → Int} {k j : Nat} {v : Int} : upI f k v j = if j = k then v else f j := rfl
theorem upI_eq {f : Nat → Int} {k : Nat} {v : Int} : upI f k v k = v := if_pos rfl
theorem upI_ne {f : Nat → Int} {k j : Nat} {v : Int} (h : j ≠ k) : upI f k v j = f j := if_neg h
abbrev isU (z : Int) : Prop := z = 1 ∨ z = -1
def evPush (s : evS) (z : Int) : evS := (s.1 + 1, upI s.2.1 s.1 (if z = 10 then 1 else z), upI s.2.2.1 s.1 (if z = 10 then 0 else 1), upI s.2.2.2.1 s.1 1, upI s.2.2.2.2 s.1 1)
def evTurn (s : evS) : evS := (s.1, upI s.2.1 (s.1 - 1) (-(s.2.2.1 (s.1 - 1))), upI s.2.2.1 (s.1 - 1) (s.2.1 (s.1 - 1)), s.2.2.2.1, upI s.2.2.2.2 (s.1 - 1) (s.2.2.2.2 (s.1 - 1) + 1))
def evMir (s : evS) : evS := (s.1, upI s.2.1 (s.1 - 1) (-(s.2.1 (s.1 - 1))), s.2.2.1, s.2.2.2.1, upI s.2.2.2.2 (s.1 - 1) (s.2.2.2.2 (s.1 - 1) + 1))
def evSum (s : evS) : evS := (s.1 - 1, upI s.2.1 (s.1 - 2) (s.2.1 (s.1 - 2) * s.2.2.1 (s.1 - 1) + s.2.1 (s.1 - 1) * s.2.2.1 (s.1 - 2)), upI s.2.2.1 (s.1 - 2) (s.2.2.1 (s.1 - 2) * s.2.2.1 (s.1 - 1)), upI s.2.2.2.1 (s.1 - 2) (if s.2.2.2.1 (s.1 - 2) = 1 ∧ s.2.2.2.1 (s.1 - 1) = 1 ∧ (isU (s.2.2.1 (s.1 - 2)) ∨ isU (s.2.2.1 (s.1 - 1))) then 1 else 0), upI s.2.2.2.2 (s.1 - 2) (1 + max (s.2.2.2.2 (s.1 - 2)) (s.2.2.2.2 (s.1 - 1))))
def evStk (s : evS) : evS := (s.1 - 1, upI s.2.1 (s.1 - 2) (s.2.1 (s.1 - 2) * s.2.1 (s.1 - 1)), upI s.2.2.1 (s.1 - 2) (s.2.1 (s.1 - 2) * s.2.2.1 (s.1 - 1) + s.2.1 (s.1 - 1) * s.2.2.1 (s.1 - 2)), upI s.2.2.2.1 (s.1 - 2) (if s.2.2.2.1 (s.1 - 2) = 1 ∧ s.2.2.2.1 (s.1 - 1) = 1 ∧ (isU (s.2.1 (s.1 - 2)) ∨ isU (s.2.1 (s.1 - 1))) then 1 else 0), upI s.2.2.2.2 (s.1 - 2) (1 + max (s.2.2.2.2 (s.1 - 2)) (s.2.2.2.2 (s.1 - 1))))
def evStep (s : evS) (z : Int) : evS := if z ≤ 10 then evPush s z else if z = 11 then evSum s else if z = 12 then evStk s else if z = 13 then evTurn s else evMir s
def ev (t : Nat → Int) : Nat → evS
  | 0 => (0, fun _ => 0, fun _ => 0, fun _ => 0, fun _ => 0)
  | n + 1 => evStep (ev t n) (t n)
theorem ev_congr {t u : Nat → Int} {n : Nat} (h : ∀ k, k < n → t k = u k) : ev t n = ev u n := by
  induction n with
  | zero => rfl
  | succ n ih => rw [ev, ev, ih (fun k hk => h k (by omega)), h n (by omega)]
/-- each token has what it needs -/
def okT (t : Nat → Int) (n : Nat) : Prop := ∀ k, k < n → -9 ≤ t k ∧ t k ≤ 14 ∧ (10 < t k → 1 ≤ (ev t k).1) ∧ (10 < t k → t k < 13 → 2 ≤ (ev t k).1)
theorem okT.tok {t : Nat → Int} {n : Nat} (h : okT t n) : tok t n := fun k hk => by have := h k hk; omega
theorem okT.le {t : Nat → Int} {n k : Nat} (h : okT t n) (hk : k ≤ n) : okT t k := fun j hj => h j (by omega)
theorem okT.congr {t u : Nat → Int} {n : Nat} (h : okT t n) (hu : ∀ k, k < n → t k = u k) : okT u n := fun k hk => by
  rw [← hu k hk, ← ev_congr (n := k) (t := t) (fun j hj => hu j (by omega))]
  exact h k hk
theorem evStep_h (s : evS) (z : Int) : (evStep s z).1 = if z ≤ 10 then s.1 + 1 else if z = 11 ∨ z = 12 then s.1 - 1 else s.1 := by
  unfold evStep
  by_cases h1 : z ≤ 10
  · rw [if_pos h1, if_pos h1]
    rfl
  · rw [if_neg h1, if_neg h1]
    by_cases h2 : z = 11
    · rw [if_pos h2, if_pos (Or.inl h2)]
      rfl
    · rw [if_neg h2]
      by_cases h3 : z = 12
      · rw [if_pos h3, if_pos (Or.inr h3)]
        rfl
      · rw [if_neg h3, if_neg (show ¬ (z = 11 ∨ z = 12) by omega)]
        by_cases h4 : z = 13
        · rw [if_pos h4]
          rfl
        · rw [if_neg h4]
          rfl
theorem ev_h (t : Nat → Int) (n : Nat) : (ev t n).1 ≤ lvs t n := by
  induction n with
  | zero => exact Nat.le_refl _
  | succ n ih =>
    rw [ev, evStep_h, lvs]
    split
    · omega
    · split <;> omega
/-- whether a token's flag is 0 or 1 -/
theorem ev_01 (t : Nat → Int) (n : Nat) : ∀ k, (ev t n).2.2.2.1 k = 0 ∨ (ev t n).2.2.2.1 k = 1 := by
  induction n with
  | zero => exact fun k => Or.inl rfl
  | succ n ih =>
    intro k
    have hp : ∀ (f : Nat → Int) (i : Nat) (v : Int), (∀ k, f k = 0 ∨ f k = 1) → (v = 0 ∨ v = 1) → (upI f i v k = 0 ∨ upI f i v k = 1) := fun f i v h1 h2 => by
      unfold upI
      split
      · exact h2
      · exact h1 k
    rw [ev]
    unfold evStep
    split
    · exact hp _ _ _ ih (Or.inr rfl)
    · split
      · refine hp _ _ _ ih ?_
        split
        · exact Or.inr rfl
        · exact Or.inl rfl
      · split
        · refine hp _ _ _ ih ?_
          split
          · exact Or.inr rfl
          · exact Or.inl rfl
        · split
          · exact ih k
          · exact ih k
/-- bounds: each pair by the crossings that it is made of -/
def evB (s : evS) (c : Nat) : Prop := ∃ f : Nat → Nat, f s.1 = c ∧ (∀ k, k < s.1 → f k ≤ f (k + 1) ∧ (s.2.1 k).natAbs + (s.2.2.1 k).natAbs ≤ 2 ^ (f (k + 1) - f k) ∧ 0 ≤ s.2.2.2.2 k)
theorem two_pow_le (k : Nat) : k + 1 ≤ 2 ^ k := Nat.lt_two_pow_self
theorem evB_step {s : evS} {c : Nat} {z : Int} (h : evB s c) (hz1 : 10 < z → 1 ≤ s.1) (hz2 : 10 < z → z < 13 → 2 ≤ s.1) : evB (evStep s z) (c + (if z < 10 then z.natAbs else 0)) := by
  obtain ⟨f, hf, hb⟩ := h
  have hmono : ∀ j, j ≤ s.1 → f j ≤ c := by
    intro j hj
    rw [← hf]
    have : ∀ r, j + r ≤ s.1 → f j ≤ f (j + r) := by
      intro r
      induction r with
      | zero => exact fun _ => Nat.le_refl _
      | succ r ih => exact fun hr => Nat.le_trans (ih (by omega)) (hb (j + r) (by omega)).1
    have h9 := this (s.1 - j) (by omega)
    rw [show j + (s.1 - j) = s.1 by omega] at h9
    exact h9
  unfold evStep
  by_cases h1 : z ≤ 10
  · rw [if_pos h1]
    refine ⟨fun j => if j = s.1 + 1 then c + (if z < 10 then z.natAbs else 0) else f j, by simp [evPush], fun k hk => ?_⟩
    have hk2 : k < s.1 + 1 := hk
    by_cases hks : k = s.1
    · subst hks
      simp only [evPush, upI_eq, if_true, hf]
      rw [if_neg (by omega)]
      have := two_pow_le z.natAbs
      refine ⟨by omega, ?_, by omega⟩
      by_cases hz : z = 10
      · rw [if_pos hz, if_pos hz, if_neg (by omega)]
        simp
      · rw [if_neg hz, if_neg hz, if_pos (by omega), show c + z.natAbs - c = z.natAbs by omega]
        simpa using this
    · have := hb k (by omega)
      simp only [evPush]
      rw [if_neg (by omega), if_neg (by omega), upI_ne hks, upI_ne hks, upI_ne hks]
      exact this
  · rw [if_neg h1, if_neg (show ¬ z < 10 by omega), Nat.add_zero]
    have comb : ∀ (A B C D X Y : Int), (A.natAbs + B.natAbs ≤ 2 ^ (f (s.1 - 1) - f (s.1 - 2))) → (C.natAbs + D.natAbs ≤ 2 ^ (c - f (s.1 - 1))) → 2 ≤ s.1 → (A * D + C * B).natAbs + (A * C).natAbs ≤ 2 ^ (c - f (s.1 - 2)) ∧ (A * D + C * B).natAbs + (B * D).natAbs ≤ 2 ^ (c - f (s.1 - 2)) := by
      intro A B C D X Y hA hC h2
      have m1 := (hb (s.1 - 2) (by omega)).1
      rw [show s.1 - 2 + 1 = s.1 - 1 by omega] at m1
      have m2 := hmono (s.1 - 1) (by omega)
      have hp := Nat.mul_le_mul hA hC
      rw [← Nat.pow_add, show f (s.1 - 1) - f (s.1 - 2) + (c - f (s.1 - 1)) = c - f (s.1 - 2) by omega, Nat.add_mul, Nat.mul_add, Nat.mul_add] at hp
      have t1 := Int.natAbs_add_le (A * D) (C * B)
      simp only [Int.natAbs_mul] at t1 ⊢
      rw [Nat.mul_comm C.natAbs B.natAbs] at t1
      constructor <;> omega
    by_cases h2 : z = 11 ∨ z = 12
    · have hs2 := hz2 (by omega) (by omega)
      have b1 := hb (s.1 - 2) (by omega)
      have b2 := hb (s.1 - 1) (by omega)
      rw [show s.1 - 2 + 1 = s.1 - 1 by omega] at b1
      rw [show s.1 - 1 + 1 = s.1 by omega, hf] at b2
      have hc := comb _ _ _ _ 0 0 b1.2.1 b2.2.1 hs2
      have key : ∀ s' : evS, s'.1 = s.1 - 1 → (∀ k, k < s.1 - 2 → s'.2.1 k = s.2.1 k ∧ s'.2.2.1 k = s.2.2.1 k ∧ s'.2.2.2.2 k = s.2.2.2.2 k) → (s'.2.1 (s.1 - 2)).natAbs + (s'.2.2.1 (s.1 - 2)).natAbs ≤ 2 ^ (c - f (s.1 - 2)) → 0 ≤ s'.2.2.2.2 (s.1 - 2) → evB s' c := by
        intro s' e1 e2 e3 e4
        refine ⟨fun j => if j = s.1 - 1 then c else f j, by simp [e1], fun k hk => ?_⟩
        rw [e1] at hk
        by_cases hk2 : k = s.1 - 2
        · subst hk2
          simp only
          rw [if_neg (by omega), if_pos (by omega)]
          exact ⟨hmono _ (by omega), e3, e4⟩
        · obtain ⟨u1, u2, u3⟩ := e2 k (by omega)
          simp only
          rw [if_neg (by omega), if_neg (by omega), u1, u2, u3]
          exact hb k (by omega)
      rcases h2 with h2 | h2
      · rw [if_pos h2]
        refine key _ rfl (fun k hk => ⟨upI_ne (by omega), upI_ne (by omega), upI_ne (by omega)⟩) ?_ ?_
        · simp only [evSum, upI_eq]
          exact hc.2
        · simp only [evSum, upI_eq]
          omega
      · rw [if_neg (by omega), if_pos h2]
        refine key _ rfl (fun k hk => ⟨upI_ne (by omega), upI_ne (by omega), upI_ne (by omega)⟩) ?_ ?_
        · simp only [evStk, upI_eq]
          rw [Nat.add_comm]
          exact hc.1
        · simp only [evStk, upI_eq]
          omega
    · rw [if_neg (by omega), if_neg (by omega)]
      have hs1 := hz1 (by omega)
      by_cases h3 : z = 13
      · rw [if_pos h3]
        refine ⟨f, hf, fun k hk => ?_⟩
        have := hb k hk
        by_cases hks : k = s.1 - 1
        · subst hks
          simp only [evTurn, upI_eq]
          omega
        · simp only [evTurn]
          rw [upI_ne hks, upI_ne hks, upI_ne hks]
          exact this
      · rw [if_neg h3]
        refine ⟨f, hf, fun k hk => ?_⟩
        have := hb k hk
        by_cases hks : k = s.1 - 1
        · subst hks
          simp only [evMir, upI_eq]
          omega
        · simp only [evMir]
          rw [upI_ne hks, upI_ne hks]
          exact this
theorem ev_B {t : Nat → Int} {n : Nat} (h : okT t n) : evB (ev t n) (crs t n) := by
  induction n with
  | zero => exact ⟨fun _ => 0, rfl, fun k hk => absurd hk (Nat.not_lt_zero _)⟩
  | succ n ih =>
    have h1 := h n (by omega)
    exact evB_step (ih (h.le (by omega))) h1.2.2.1 h1.2.2.2
theorem evB_at {s : evS} {c k : Nat} (h : evB s c) (hk : k < s.1) : (s.2.1 k).natAbs + (s.2.2.1 k).natAbs ≤ 2 ^ c ∧ 0 ≤ s.2.2.2.2 k := by
  obtain ⟨f, hf, hb⟩ := h
  have h1 := hb k hk
  refine ⟨Nat.le_trans h1.2.1 (Nat.pow_le_pow_right (by decide) ?_), h1.2.2⟩
  have : ∀ r, k + 1 + r ≤ s.1 → f (k + 1) ≤ f (k + 1 + r) := by
    intro r
    induction r with
    | zero => exact fun _ => Nat.le_refl _
    | succ r ih => exact fun hr => Nat.le_trans (ih (by omega)) (hb (k + 1 + r) (by omega)).1
  have h9 := this (s.1 - (k + 1)) (by omega)
  rw [show k + 1 + (s.1 - (k + 1)) = s.1 by omega, hf] at h9
  omega
theorem ev_dep (t : Nat → Int) (n : Nat) : ∀ k, (ev t n).2.2.2.2 k ≤ n := by
  induction n with
  | zero => exact fun k => Int.le_refl _
  | succ n ih =>
    intro k
    have hp : ∀ (f : Nat → Int) (i : Nat) (v : Int), (∀ k, f k ≤ n) → (v ≤ (n + 1 : Nat)) → upI f i v k ≤ (n + 1 : Nat) := fun f i v h1 h2 => by
      unfold upI
      split
      · exact h2
      · have := h1 k
        omega
    have h0 := ih ((ev t n).1 - 1)
    have h1 := ih ((ev t n).1 - 2)
    rw [ev]
    unfold evStep
    split
    · exact hp _ _ _ ih (by omega)
    · split
      · exact hp _ _ _ ih (by omega)
      · split
        · exact hp _ _ _ ih (by omega)
        · split
          · exact hp _ _ _ ih (by omega)
          · exact hp _ _ _ ih (by omega)
