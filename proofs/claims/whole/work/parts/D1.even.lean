/-! an even row has at most as many terms as the size is -/
theorem rst_sh (how u v : Int) : ∀ k, rst how u v (k + 1) = rst how (rst how u v 1).1 (rst how u v 1).2 k := by
  intro k
  induction k with
  | zero => rfl
  | succ k ih =>
    show (if rRs how (rst how u v (k + 1)).1 (rst how u v (k + 1)).2 < 0 then -(rst how u v (k + 1)).2 else (rst how u v (k + 1)).2, ((rRs how (rst how u v (k + 1)).1 (rst how u v (k + 1)).2).natAbs : Int)) = _
    rw [ih]
    rfl
/-- what an even term leaves -/
theorem rRs2 {x : Int} {y : Nat} (hy : 0 < y) (hpar : ¬ (x % 2 = 1 ∧ y % 2 = 1)) (hg : Nat.gcd x.natAbs y = 1) : (rRs 2 x y).natAbs = (if x.natAbs / y % 2 = 0 then x.natAbs % y else y - x.natAbs % y) ∧ (x.natAbs / y % 2 = 1 → 0 < x.natAbs % y) := by
  have hodd : x.natAbs / y % 2 = 1 → 0 < x.natAbs % y := by
    intro h
    apply Classical.byContradiction
    intro hn
    have h0 : x.natAbs % y = 0 := by omega
    have e := Nat.div_add_mod x.natAbs y
    rw [h0, Nat.add_zero] at e
    have hy1 : y = 1 := by
      have : Nat.gcd x.natAbs y = y := by
        rw [← e]
        exact Nat.gcd_mul_right_left _ _
      omega
    subst hy1
    rw [Nat.div_one] at h
    omega
  refine ⟨?_, hodd⟩
  have e1 : rRs 2 x (y : Int) = x - 2 * ((x + y) / (2 * y)) * y := rfl
  have hb := rRs_bd (how := 2) (u := x) (v := (y : Int)) (by omega)
  have e2 := Nat.div_add_mod x.natAbs y
  have hm := Nat.mod_lt x.natAbs hy
  generalize hf : x.natAbs / y = f at *
  generalize hgg : x.natAbs % y = g at *
  generalize hR : rRs 2 x (y : Int) = R at *
  generalize ht : (x + y) / (2 * (y : Int)) = t at *
  have e3 : (x.natAbs : Int) = y * f + g := by
    rw [← e2]
    simp
  -- R = x - 2 t y, -y ≤ R < y
  have hne : R ≠ -(y : Int) := by
    intro q
    have e4 : x = (2 * t - 1) * y := by
      rw [Int.sub_mul]
      omega
    have hd : (y : Int) ∣ x := ⟨2 * t - 1, by rw [Int.mul_comm]; exact e4⟩
    have hd2 : y ∣ x.natAbs := Int.ofNat_dvd_left.mp hd
    have hy1 : y = 1 := by
      have : y ∣ Nat.gcd x.natAbs y := Nat.dvd_gcd hd2 (Nat.dvd_refl _)
      rw [hg] at this
      exact Nat.eq_one_of_dvd_one this
    subst hy1
    omega
  have key : ∀ (X T : Int) (r : Int), X = y * f + g → r = X - 2 * T * y → -(y : Int) < r → r < y → r.natAbs = (if f % 2 = 0 then g else y - g) := by
    intro X T r hX hr h1 h2
    by_cases hpar2 : f % 2 = 0
    · rw [if_pos hpar2]
      obtain ⟨h, hh⟩ : ∃ h : Int, (f : Int) = 2 * h := ⟨(f : Int) / 2, by omega⟩
      have e5 : r = g + 2 * ((h - T) * y) := by
        rw [hr, hX, hh]
        grind
      have hT : h - T = 0 ∨ 1 ≤ h - T ∨ h - T ≤ -1 := by omega
      rcases hT with q | q | q
      · rw [q, Int.zero_mul] at e5
        omega
      · have := Int.mul_le_mul_of_nonneg_right q (show (0 : Int) ≤ y by omega)
        omega
      · have := Int.mul_le_mul_of_nonneg_right q (show (0 : Int) ≤ y by omega)
        omega
    · rw [if_neg hpar2]
      have := hodd (by omega)
      obtain ⟨h, hh⟩ : ∃ h : Int, (f : Int) = 2 * h - 1 := ⟨((f : Int) + 1) / 2, by omega⟩
      have e5 : r = g - y + 2 * ((h - T) * y) := by
        rw [hr, hX, hh]
        grind
      have hT : h - T = 0 ∨ 1 ≤ h - T ∨ h - T ≤ -1 := by omega
      rcases hT with q | q | q
      · rw [q, Int.zero_mul] at e5
        omega
      · have := Int.mul_le_mul_of_nonneg_right q (show (0 : Int) ≤ y by omega)
        omega
      · have := Int.mul_le_mul_of_nonneg_right q (show (0 : Int) ≤ y by omega)
        omega
  by_cases hx : 0 ≤ x
  · exact key x t R (by omega) e1 (by omega) hb.2.1
  · have := key (-x) (-t) (-R) (by omega) (by rw [e1]; grind) (by omega) (by omega)
    rw [Int.natAbs_neg] at this
    exact this
theorem even_ex : ∀ (y : Nat) (x : Int), ¬ (x % 2 = 1 ∧ y % 2 = 1) → Nat.gcd x.natAbs y = 1 → y < x.natAbs → ∃ K, K ≤ eS x.natAbs y ∧ (rst 2 x y K).2 = 0 ∧ ∀ j, j < K → (rst 2 x y j).2 ≠ 0 := by
  intro y
  induction y using Nat.strongRecOn with
  | ind y ih =>
    intro x hpar hg hlt
    by_cases hy : y = 0
    · subst hy
      exact ⟨0, Nat.zero_le _, rfl, fun j hj => absurd hj (Nat.not_lt_zero _)⟩
    · obtain ⟨h1, h2⟩ := rRs2 (x := x) (y := y) (by omega) hpar hg
      have hm := Nat.mod_lt x.natAbs (show 0 < y by omega)
      have hf1 : 1 ≤ x.natAbs / y := by
        have := Nat.div_le_div_right (c := y) (show y ≤ x.natAbs by omega)
        rw [Nat.div_self (by omega)] at this
        exact this
      have e2 := Nat.div_add_mod x.natAbs y
      have hgy : Nat.gcd y (x.natAbs % y) = 1 := by
        rw [Nat.gcd_comm y, ← Nat.gcd_rec, Nat.gcd_comm]
        exact hg
      have hpar3 : (rRs 2 x y).natAbs % 2 = x.natAbs % 2 := by
        have e1 : rRs 2 x (y : Int) = x - 2 * ((x + y) / (2 * y) * y) := by
          show x - 2 * ((x + y) / (2 * y)) * y = _
          rw [Int.mul_assoc]
        generalize (x + y) / (2 * (y : Int)) * y = T at e1
        omega
      have hR1 : (rRs 2 x y).natAbs < y := by
        rw [h1]
        split
        · exact hm
        · have := h2 (by omega)
          omega
      have hR2 : Nat.gcd y (rRs 2 x y).natAbs = 1 := by
        rw [h1]
        split
        · exact hgy
        · rw [Nat.gcd_comm, Nat.gcd_self_sub_left (by omega), Nat.gcd_comm]
          exact hgy
      have hR3 : 1 + eS y (rRs 2 x y).natAbs ≤ eS x.natAbs y := by
        rw [eS_st (a := x.natAbs) (b := y) (by omega), h1]
        split
        · omega
        · rw [eS_co (h2 (by omega)) hm]
          omega
      have hs : rst 2 x y 1 = (if rRs 2 x y < 0 then -(y : Int) else (y : Int), ((rRs 2 x y).natAbs : Int)) := rfl
      have hab : (if rRs 2 x y < 0 then -(y : Int) else (y : Int)).natAbs = y := by
        split <;> omega
      obtain ⟨K, k1, k2, k3⟩ := ih (rRs 2 x y).natAbs hR1 (if rRs 2 x y < 0 then -(y : Int) else (y : Int)) (by
        rw [hpar3]
        intro q
        have : (if rRs 2 x y < 0 then -(y : Int) else (y : Int)) % 2 = (y : Int) % 2 := by split <;> omega
        omega) (by rw [hab]; exact hR2) (by rw [hab]; exact hR1)
      rw [hab] at k1
      refine ⟨K + 1, by omega, ?_, fun j hj => ?_⟩
      · rw [rst_sh, hs]
        exact k2
      · by_cases hj0 : j = 0
        · subst hj0
          show (y : Int) ≠ 0
          omega
        · obtain ⟨j', rfl⟩ : ∃ j', j = j' + 1 := ⟨j - 1, by omega⟩
          rw [rst_sh, hs]
          exact k3 j' (by omega)
/-- the size as both programs work it out -/
theorem szS_eS {u v : Int} (hu : 0 ≤ u) (hv : 0 ≤ v) : ∀ k, (∀ j, j < k → (rst 3 u v j).2 ≠ 0) → szS u v k + (eS (rst 3 u v k).1.toNat (rst 3 u v k).2.toNat : Int) = (eS u.toNat v.toNat : Int) := by
  intro k
  induction k with
  | zero =>
    intro _
    rw [szS, Int.zero_add]
    rfl
  | succ k ih =>
    intro hn
    have i1 := ih (fun j hj => hn j (by omega))
    obtain ⟨f1, f2, f3⟩ := rst_floor hu hv k (fun j hj => hn j (by omega))
    have hk := hn k (by omega)
    rw [szS, f3 hk]
    generalize (rst 3 u v k).1 = x at *
    generalize (rst 3 u v k).2 = y at *
    obtain ⟨a, rfl⟩ : ∃ a : Nat, x = (a : Int) := ⟨x.toNat, by omega⟩
    obtain ⟨b, rfl⟩ : ∃ b : Nat, y = (b : Int) := ⟨y.toNat, by omega⟩
    show szS u v k + (a : Int) / (b : Int) + (eS (b : Int).toNat ((a : Int) % (b : Int)).toNat : Int) = _
    rw [← i1, ← Int.natCast_ediv, ← Int.natCast_emod, Int.toNat_natCast, Int.toNat_natCast, Int.toNat_natCast, eS_st (a := a) (b := b) (by omega)]
    omega
theorem szS_end {u v : Int} {M : Nat} (hu : 0 ≤ u) (hv : 0 ≤ v) (hz : (rst 3 u v M).2 = 0) (hn : ∀ j, j < M → (rst 3 u v j).2 ≠ 0) : szS u v M = (eS u.toNat v.toNat : Int) := by
  have := szS_eS hu hv M hn
  rw [hz] at this
  rw [← this]
  show _ = _ + ((eS _ 0 : Nat) : Int)
  rw [eS_0]
  omega
