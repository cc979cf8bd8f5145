/-! a rational tangle's name is of no greater size than it has crossings -/
def evQ (s : evS) (c : Nat) : Prop := ∃ f : Nat → Nat, f s.1 = c ∧ ∀ k, k < s.1 → f k ≤ f (k + 1) ∧ (s.2.2.2.1 k = 1 → eS (s.2.1 k).natAbs (s.2.2.1 k).natAbs ≤ f (k + 1) - f k)
theorem eS_sum {A B C D : Int} {x y : Nat} (h1 : eS A.natAbs B.natAbs ≤ x) (h2 : eS C.natAbs D.natAbs ≤ y) (hu : isU B ∨ isU D) : eS (A * D + C * B).natAbs (B * D).natAbs ≤ x + y := by
  rcases hu with (rfl | rfl) | (rfl | rfl)
  · rw [Int.mul_one, Int.one_mul, Int.add_comm]
    have := eS_upk (x := C) (y := D) (k := A)
    rw [show (1 : Int).natAbs = 1 from rfl, eS_one] at h1
    omega
  · rw [show A * D + C * -1 = -(C + (-A) * D) by grind, show -1 * D = -D by omega, Int.natAbs_neg, Int.natAbs_neg]
    have := eS_upk (x := C) (y := D) (k := -A)
    rw [show (-1 : Int).natAbs = 1 from rfl, eS_one] at h1
    rw [Int.natAbs_neg] at this
    omega
  · rw [Int.mul_one, Int.mul_one]
    have := eS_upk (x := A) (y := B) (k := C)
    rw [show (1 : Int).natAbs = 1 from rfl, eS_one] at h2
    omega
  · rw [show A * -1 + C * B = -(A + (-C) * B) by grind, show B * -1 = -B by omega, Int.natAbs_neg, Int.natAbs_neg]
    have := eS_upk (x := A) (y := B) (k := -C)
    rw [show (-1 : Int).natAbs = 1 from rfl, eS_one] at h2
    rw [Int.natAbs_neg] at this
    omega
theorem evQ_step {s : evS} {c : Nat} {z : Int} (h : evQ s c) (hz1 : 10 < z → 1 ≤ s.1) (hz2 : 10 < z → z < 13 → 2 ≤ s.1) : evQ (evStep s z) (c + (if z < 10 then z.natAbs else 0)) := by
  obtain ⟨f, hf, hb⟩ := h
  have hmono : ∀ j, j ≤ s.1 → f j ≤ c := by
    intro j hj
    rw [← hf]
    have : ∀ r, j + r ≤ s.1 → f j ≤ f (j + r) := by
      intro r
      induction r with
      | zero => exact fun _ => Nat.le_refl _
      | succ r ih => exact fun hr => Nat.le_trans (ih (by omega)) (hb (j + r) (by omega)).1
    have h9 := this (s.1 - j) (by omega)
    rw [show j + (s.1 - j) = s.1 by omega] at h9
    exact h9
  unfold evStep
  by_cases h1 : z ≤ 10
  · rw [if_pos h1]
    refine ⟨fun j => if j = s.1 + 1 then c + (if z < 10 then z.natAbs else 0) else f j, by simp [evPush], fun k hk => ?_⟩
    have hk2 : k < s.1 + 1 := hk
    by_cases hks : k = s.1
    · subst hks
      simp only [evPush, upI_eq, if_true, hf]
      rw [if_neg (by omega)]
      refine ⟨by omega, fun _ => ?_⟩
      by_cases hz : z = 10
      · rw [if_pos hz, if_pos hz]
        exact Nat.zero_le _
      · rw [if_neg hz, if_neg hz, if_pos (by omega), show c + z.natAbs - c = z.natAbs by omega]
        rw [show (1 : Int).natAbs = 1 from rfl, eS_one]
        exact Nat.le_refl _
    · have := hb k (by omega)
      simp only [evPush]
      rw [if_neg (by omega), if_neg (by omega), upI_ne hks, upI_ne hks, upI_ne hks]
      exact this
  · rw [if_neg h1, if_neg (show ¬ z < 10 by omega), Nat.add_zero]
    by_cases h2 : z = 11 ∨ z = 12
    · have hs2 := hz2 (by omega) (by omega)
      have b1 := hb (s.1 - 2) (by omega)
      have b2 := hb (s.1 - 1) (by omega)
      rw [show s.1 - 2 + 1 = s.1 - 1 by omega] at b1
      rw [show s.1 - 1 + 1 = s.1 by omega, hf] at b2
      have key : ∀ s' : evS, s'.1 = s.1 - 1 → (∀ k, k < s.1 - 2 → s'.2.1 k = s.2.1 k ∧ s'.2.2.1 k = s.2.2.1 k ∧ s'.2.2.2.1 k = s.2.2.2.1 k) → (s'.2.2.2.1 (s.1 - 2) = 1 → eS (s'.2.1 (s.1 - 2)).natAbs (s'.2.2.1 (s.1 - 2)).natAbs ≤ c - f (s.1 - 2)) → evQ s' c := by
        intro s' e1 e2 e3
        refine ⟨fun j => if j = s.1 - 1 then c else f j, by simp [e1], fun k hk => ?_⟩
        rw [e1] at hk
        by_cases hk2 : k = s.1 - 2
        · subst hk2
          simp only
          rw [if_neg (by omega), if_pos (by omega)]
          exact ⟨hmono _ (by omega), e3⟩
        · obtain ⟨u1, u2, u3⟩ := e2 k (by omega)
          simp only
          rw [if_neg (by omega), if_neg (by omega), u1, u2, u3]
          exact hb k (by omega)
      rcases h2 with h2 | h2
      · rw [if_pos h2]
        refine key _ rfl (fun k hk => ⟨upI_ne (by omega), upI_ne (by omega), upI_ne (by omega)⟩) ?_
        simp only [evSum, upI_eq]
        intro hr
        by_cases hq : s.2.2.2.1 (s.1 - 2) = 1 ∧ s.2.2.2.1 (s.1 - 1) = 1 ∧ (isU (s.2.2.1 (s.1 - 2)) ∨ isU (s.2.2.1 (s.1 - 1)))
        · have := eS_sum (b1.2 hq.1) (b2.2 hq.2.1) hq.2.2
          have := hmono (s.1 - 1) (by omega)
          omega
        · rw [if_neg hq] at hr
          exact absurd hr (by decide)
      · rw [if_neg (by omega), if_pos h2]
        refine key _ rfl (fun k hk => ⟨upI_ne (by omega), upI_ne (by omega), upI_ne (by omega)⟩) ?_
        simp only [evStk, upI_eq]
        intro hr
        by_cases hq : s.2.2.2.1 (s.1 - 2) = 1 ∧ s.2.2.2.1 (s.1 - 1) = 1 ∧ (isU (s.2.1 (s.1 - 2)) ∨ isU (s.2.1 (s.1 - 1)))
        · have c1 := b1.2 hq.1
          have c2 := b2.2 hq.2.1
          rw [eS_sw] at c1 c2
          have := eS_sum c1 c2 hq.2.2
          rw [eS_sw, show s.2.1 (s.1 - 2) * s.2.2.1 (s.1 - 1) + s.2.1 (s.1 - 1) * s.2.2.1 (s.1 - 2) = s.2.2.1 (s.1 - 2) * s.2.1 (s.1 - 1) + s.2.2.1 (s.1 - 1) * s.2.1 (s.1 - 2) by grind]
          have := hmono (s.1 - 1) (by omega)
          omega
        · rw [if_neg hq] at hr
          exact absurd hr (by decide)
    · rw [if_neg (by omega), if_neg (by omega)]
      have hs1 := hz1 (by omega)
      by_cases h3 : z = 13
      · rw [if_pos h3]
        refine ⟨f, hf, fun k hk => ?_⟩
        have := hb k hk
        by_cases hks : k = s.1 - 1
        · subst hks
          simp only [evTurn, upI_eq]
          rw [Int.natAbs_neg, eS_sw]
          exact this
        · simp only [evTurn]
          rw [upI_ne hks, upI_ne hks]
          exact this
      · rw [if_neg h3]
        refine ⟨f, hf, fun k hk => ?_⟩
        have := hb k hk
        by_cases hks : k = s.1 - 1
        · subst hks
          simp only [evMir, upI_eq]
          rw [Int.natAbs_neg]
          exact this
        · simp only [evMir]
          rw [upI_ne hks]
          exact this
theorem ev_Q {t : Nat → Int} {n : Nat} (h : okT t n) : evQ (ev t n) (crs t n) := by
  induction n with
  | zero => exact ⟨fun _ => 0, rfl, fun k hk => absurd hk (Nat.not_lt_zero _)⟩
  | succ n ih =>
    have h1 := h n (by omega)
    exact evQ_step (ih (h.le (by omega))) h1.2.2.1 h1.2.2.2
theorem vT.sz {t : Nat → Int} {n : Nat} (h : vT t n) (hr : Tr t n = 1) : eS (Tt t n).natAbs (Tb t n).natAbs ≤ 24 := by
  obtain ⟨f, hf, hb⟩ := ev_Q h.1
  have h1 := h.2.1
  have hc := h.2.2.2.1
  rw [h1] at hf hb
  have := (hb 0 (by omega)).2 hr
  have hf1 : f (0 + 1) = crs t n := hf
  show eS ((ev t n).2.1 0).natAbs ((ev t n).2.2.1 0).natAbs ≤ 24
  omega
/-- the rest by the top is of no greater size -/
theorem eS_rest {P : Nat} {b : Int} (hP : 2 ≤ P) (hg : Nat.gcd P b.natAbs = 1) : eS P (b % (P : Int)).toNat ≤ eS P b.natAbs := by
  have st : ∀ c : Nat, eS P (c % P) ≤ eS P c := fun c => by
    rw [eS_sw P c, eS_st (a := c) (b := P) (by omega)]
    exact Nat.le_add_left _ _
  by_cases hb : 0 ≤ b
  · obtain ⟨c, rfl⟩ : ∃ c : Nat, b = (c : Int) := ⟨b.toNat, by omega⟩
    rw [← Int.natCast_emod, Int.toNat_natCast, Int.natAbs_natCast]
    exact st c
  · obtain ⟨c, hc⟩ : ∃ c : Nat, b = -(c : Int) := ⟨b.natAbs, by omega⟩
    have hcb : b.natAbs = c := by omega
    rw [hcb] at hg ⊢
    have hm := Nat.mod_lt c (show 0 < P by omega)
    have h0 : 0 < c % P := by
      apply Classical.byContradiction
      intro hn
      have hd : P ∣ c := Nat.dvd_of_mod_eq_zero (by omega)
      have : Nat.gcd P c = P := Nat.gcd_eq_left hd
      omega
    have e : b % (P : Int) = ((P - c % P : Nat) : Int) := by
      have e1 := Nat.div_add_mod c P
      have e2 : b = ((P - c % P : Nat) : Int) + (P : Int) * (-((c / P : Nat) : Int) - 1) := by
        rw [hc]
        have : (c : Int) = (P : Int) * ((c / P : Nat) : Int) + ((c % P : Nat) : Int) := by
          rw [← Int.natCast_mul, ← Int.natCast_add, e1]
        rw [Int.mul_sub, Int.mul_neg]
        omega
      rw [e2, Int.add_mul_emod_self_left, Int.emod_eq_of_lt (by omega) (by omega)]
    rw [e, Int.toNat_natCast, eS_co h0 hm]
    exact st c
theorem nm_sz {a b : Int} (hg : Int.gcd a b = 1) (ha : 2 ≤ a.natAbs) : eS (nm a b).1.toNat (nm a b).2.toNat ≤ eS a.natAbs b.natAbs := by
  have e0 : ¬ a = 0 := by omega
  have e1 : ¬ a.natAbs = 1 := by omega
  rw [nm, if_neg e0, if_neg e1]
  show eS ((a.natAbs : Nat) : Int).toNat _ ≤ _
  rw [Int.toNat_natCast]
  generalize hP : a.natAbs = P at *
  have hgN : Nat.gcd P b.natAbs = 1 := by rw [← hP]; exact hg
  obtain ⟨b', hb', hb2⟩ : ∃ b' : Int, b' = (if 0 ≤ a then b else -b) ∧ b'.natAbs = b.natAbs := ⟨_, rfl, by split <;> omega⟩
  rw [← hb']
  have hg2 : Nat.gcd P b'.natAbs = 1 := by rw [hb2]; exact hgN
  have h1 := eS_rest ha hg2
  rw [hb2] at h1
  refine Nat.le_trans ?_ h1
  have hm0 := Int.emod_nonneg b' (show (P : Int) ≠ 0 by omega)
  have hm1 := Int.emod_lt_of_pos b' (show (0 : Int) < P by omega)
  obtain ⟨i, hi⟩ := inv_ex (p := (P : Int)) (q := b') (by omega) (gcd_cop hg2)
  show eS P (nmB P b').toNat ≤ _
  rw [nmB_of hi]
  obtain ⟨i1, i2, k, i3⟩ := hi
  by_cases hlt : b' % (P : Int) ≤ i
  · rw [Int.min_eq_left hlt]
    exact Nat.le_refl _
  · rw [Int.min_eq_right (by omega)]
    obtain ⟨r, hr⟩ : ∃ r : Nat, b' % (P : Int) = (r : Int) := ⟨(b' % (P : Int)).toNat, by omega⟩
    obtain ⟨j, rfl⟩ : ∃ j : Nat, i = (j : Int) := ⟨i.toNat, by omega⟩
    rw [hr, Int.toNat_natCast, Int.toNat_natCast]
    rw [hr] at i3
    have hk0 : 0 ≤ k := by
      apply Classical.byContradiction
      intro hn
      have h5 : k * (P : Int) ≤ -1 * (P : Int) := Int.mul_le_mul_of_nonneg_right (by omega) (by omega)
      have h6 : 0 ≤ (j : Int) * (r : Int) := Int.mul_nonneg (by omega) (by omega)
      omega
    obtain ⟨c, rfl⟩ : ∃ c : Nat, k = (c : Int) := ⟨k.toNat, by omega⟩
    exact eS_inv (c := c) (by omega) (by
      have : ((j * r : Nat) : Int) = ((1 + c * P : Nat) : Int) := by
        rw [Int.natCast_mul, i3, Int.natCast_add, Int.natCast_mul]
        rfl
      omega)
theorem NM_sz {t : Nat → Int} {n : Nat} {s : Int} (h : vT t n) (hr : Tr t n = 1) (h2 : 2 ≤ (NM t n s).1) : eS (NM t n s).1.toNat (NM t n s).2.toNat ≤ 24 := by
  have hg := h.rat hr
  have hs := h.sz hr
  unfold NM at *
  by_cases hs0 : s = 0
  · rw [if_pos hs0] at *
    rw [nm_fst] at h2
    exact Nat.le_trans (nm_sz hg (by omega)) hs
  · rw [if_neg hs0] at *
    rw [nm_fst] at h2
    refine Nat.le_trans (nm_sz (by rw [Int.neg_gcd, Int.gcd_comm]; exact hg) (by omega)) ?_
    rw [Int.natAbs_neg, eS_sw]
    exact hs
