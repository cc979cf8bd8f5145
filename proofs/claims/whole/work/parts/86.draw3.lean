/-! drawings: what joins, turns, mirrors -/
theorem dI_tie {s s' : drS} (σ : Nat → Nat) {i1 j1 i2 j2 : Nat} (h : dI s) (e1 : s'.1 ≤ s.1) (e2 : s'.2.1 = s.2.1) (e3 : s'.2.2.1 = s.2.2.1) (e4 : ∀ k, k < 4 * s'.1 → s'.2.2.2.1 k = s.2.2.2.1 (σ k)) (e5 : s'.2.2.2.2.1 = s.2.2.2.2.1) (e6 : s'.2.2.2.2.2.1 = tieN (tieN s.2.2.2.2.2.1 (s.2.2.2.1 i1) (s.2.2.2.1 j1)) (s.2.2.2.1 i2) (s.2.2.2.1 j2)) (e7 : s'.2.2.2.2.2.2 = s.2.2.2.2.2.2)
    (l1 : i1 < 4 * s.1) (l2 : j1 < 4 * s.1) (l3 : i2 < 4 * s.1) (l4 : j2 < 4 * s.1) (d1 : i1 ≠ j1) (d2 : i2 ≠ j2) (d3 : i2 ≠ i1) (d4 : i2 ≠ j1) (d5 : j2 ≠ i1) (d6 : j2 ≠ j1)
    (s1 : ∀ k, k < 4 * s'.1 → σ k < 4 * s.1 ∧ σ k ≠ i1 ∧ σ k ≠ j1 ∧ σ k ≠ i2 ∧ σ k ≠ j2) (s2 : ∀ j k, j < 4 * s'.1 → k < 4 * s'.1 → σ j = σ k → j = k) (s3 : ∀ j, j < 4 * s.1 → j ≠ i1 → j ≠ j1 → j ≠ i2 → j ≠ j2 → ∃ k, k < 4 * s'.1 ∧ σ k = j) : dI s' := by
  obtain ⟨a1, a2, a3, a4, a5, a6, a7, a8, a9⟩ := h
  have ne : ∀ i j, i < 4 * s.1 → j < 4 * s.1 → i ≠ j → s.2.2.2.1 i ≠ s.2.2.2.1 j := fun i j hi hj hn q => hn (a5 i j hi hj q)
  unfold dI
  rw [e2, e3, e5, e6, e7]
  refine ⟨a1, a2, by omega, ?_, fun j k hj hk he => ?_, fun k hk => a6 k (by omega), a7, a8, a9⟩
  · have g := (a4.tie (x := s.2.2.2.1 i1) (y := s.2.2.2.1 j1) ⟨i1, l1, rfl⟩ ⟨j1, l2, rfl⟩ (ne _ _ l1 l2 d1)).tie (x := s.2.2.2.1 i2) (y := s.2.2.2.1 j2) ⟨⟨i2, l3, rfl⟩, ne _ _ l3 l1 d3, ne _ _ l3 l2 d4⟩ ⟨⟨j2, l4, rfl⟩, ne _ _ l4 l1 d5, ne _ _ l4 l2 d6⟩ (ne _ _ l3 l4 d2)
    refine g.congr (fun p => Iff.rfl) (fun p => ?_)
    constructor
    · rintro ⟨⟨⟨k, hk, rfl⟩, n1, n2⟩, n3, n4⟩
      obtain ⟨k', hk', e⟩ := s3 k hk (fun q => n1 (by rw [q])) (fun q => n2 (by rw [q])) (fun q => n3 (by rw [q])) (fun q => n4 (by rw [q]))
      exact ⟨k', hk', by rw [e4 k' hk', e]⟩
    · rintro ⟨k, hk, rfl⟩
      obtain ⟨g1, g2, g3, g4, g5⟩ := s1 k hk
      rw [e4 k hk]
      exact ⟨⟨⟨σ k, g1, rfl⟩, ne _ _ g1 l1 g2, ne _ _ g1 l2 g3⟩, ne _ _ g1 l3 g4, ne _ _ g1 l4 g5⟩
  · rw [e4 j hj, e4 k hk] at he
    exact s2 j k hj hk (a5 _ _ (s1 j hj).1 (s1 k hk).1 he)
theorem dI_sum {s : drS} (h : dI s) (hs : 2 ≤ s.1) : dI (drSum s) := by
  obtain ⟨g, hg⟩ : ∃ g, s.1 = g + 2 := ⟨s.1 - 2, by omega⟩
  have q1 : (drSum s).1 = g + 1 := by show s.1 - 1 = _; omega
  refine dI_tie (s' := drSum s) (fun k => if k = 4 * g + 1 then 4 * g + 5 else if k = 4 * g + 3 then 4 * g + 7 else k) (i1 := 4 * g + 1) (j1 := 4 * g + 4) (i2 := 4 * g + 3) (j2 := 4 * g + 6) h (by omega) rfl rfl (fun k hk => ?_) rfl ?_ rfl (by omega) (by omega) (by omega) (by omega) (by omega) (by omega) (by omega) (by omega) (by omega) (by omega) (fun k hk => ?_) (fun j k hj hk he => ?_) (fun j hj n1 n2 n3 n4 => ?_)
  · show upN (upN s.2.2.2.1 (4 * (s.1 - 2) + 1) (s.2.2.2.1 (4 * (s.1 - 1) + 1))) (4 * (s.1 - 2) + 3) (s.2.2.2.1 (4 * (s.1 - 1) + 3)) k = _
    rw [hg, upN_at, upN_at]
    by_cases k3 : k = 4 * g + 3
    · subst k3
      rw [if_pos (by omega)]
      rw [if_neg (by omega), if_pos rfl]
      congr 1
    · rw [if_neg (by omega)]
      by_cases k1 : k = 4 * g + 1
      · subst k1
        rw [if_pos (by omega)]
        rw [if_pos rfl]
        congr 1
      · rw [if_neg (by omega)]
        rw [if_neg k1, if_neg k3]
  · show tieN (tieN s.2.2.2.2.2.1 (s.2.2.2.1 (4 * (s.1 - 2) + 1)) (s.2.2.2.1 (4 * (s.1 - 1)))) (s.2.2.2.1 (4 * (s.1 - 2) + 3)) (s.2.2.2.1 (4 * (s.1 - 1) + 2)) = _
    rw [hg]
    rfl
  · skip
    rw [q1] at hk
    split
    · omega
    · split <;> omega
  · skip
    rw [q1] at hj hk
    split at he <;> split at he <;> (try split at he) <;> (try split at he) <;> omega
  · rw [q1]
    by_cases j5 : j = 4 * g + 5
    · exact ⟨4 * g + 1, by omega, by rw [if_pos rfl, j5]⟩
    · by_cases j7 : j = 4 * g + 7
      · exact ⟨4 * g + 3, by omega, by rw [if_neg (by omega), if_pos rfl, j7]⟩
      · exact ⟨j, by omega, by rw [if_neg (by omega), if_neg (by omega)]⟩
theorem dI_stk {s : drS} (h : dI s) (hs : 2 ≤ s.1) : dI (drStk s) := by
  obtain ⟨g, hg⟩ : ∃ g, s.1 = g + 2 := ⟨s.1 - 2, by omega⟩
  have q1 : (drStk s).1 = g + 1 := by show s.1 - 1 = _; omega
  refine dI_tie (s' := drStk s) (fun k => if k = 4 * g + 2 then 4 * g + 6 else if k = 4 * g + 3 then 4 * g + 7 else k) (i1 := 4 * g + 2) (j1 := 4 * g + 4) (i2 := 4 * g + 3) (j2 := 4 * g + 5) h (by omega) rfl rfl (fun k hk => ?_) rfl ?_ rfl (by omega) (by omega) (by omega) (by omega) (by omega) (by omega) (by omega) (by omega) (by omega) (by omega) (fun k hk => ?_) (fun j k hj hk he => ?_) (fun j hj n1 n2 n3 n4 => ?_)
  · show upN (upN s.2.2.2.1 (4 * (s.1 - 2) + 2) (s.2.2.2.1 (4 * (s.1 - 1) + 2))) (4 * (s.1 - 2) + 3) (s.2.2.2.1 (4 * (s.1 - 1) + 3)) k = _
    rw [hg, upN_at, upN_at]
    by_cases k3 : k = 4 * g + 3
    · subst k3
      rw [if_pos (by omega)]
      rw [if_neg (by omega), if_pos rfl]
      congr 1
    · rw [if_neg (by omega)]
      by_cases k1 : k = 4 * g + 2
      · subst k1
        rw [if_pos (by omega)]
        rw [if_pos rfl]
        congr 1
      · rw [if_neg (by omega)]
        rw [if_neg k1, if_neg k3]
  · show tieN (tieN s.2.2.2.2.2.1 (s.2.2.2.1 (4 * (s.1 - 2) + 2)) (s.2.2.2.1 (4 * (s.1 - 1)))) (s.2.2.2.1 (4 * (s.1 - 2) + 3)) (s.2.2.2.1 (4 * (s.1 - 1) + 1)) = _
    rw [hg]
    rfl
  · skip
    rw [q1] at hk
    split
    · omega
    · split <;> omega
  · skip
    rw [q1] at hj hk
    split at he <;> split at he <;> (try split at he) <;> (try split at he) <;> omega
  · rw [q1]
    by_cases j5 : j = 4 * g + 6
    · exact ⟨4 * g + 2, by omega, by rw [if_pos rfl, j5]⟩
    · by_cases j7 : j = 4 * g + 7
      · exact ⟨4 * g + 3, by omega, by rw [if_neg (by omega), if_pos rfl, j7]⟩
      · exact ⟨j, by omega, by rw [if_neg (by omega), if_neg (by omega)]⟩
theorem dI_perm {s s' : drS} (σ : Nat → Nat) (h : dI s) (e1 : s'.1 = s.1) (e2 : s'.2.1 = s.2.1) (e3 : s'.2.2.1 = s.2.2.1) (e4 : ∀ k, k < 4 * s.1 → s'.2.2.2.1 k = s.2.2.2.1 (σ k)) (e5 : s'.2.2.2.2 = s.2.2.2.2)
    (s1 : ∀ k, k < 4 * s.1 → σ k < 4 * s.1) (s2 : ∀ j k, j < 4 * s.1 → k < 4 * s.1 → σ j = σ k → j = k) (s3 : ∀ j, j < 4 * s.1 → ∃ k, k < 4 * s.1 ∧ σ k = j) : dI s' := by
  obtain ⟨a1, a2, a3, a4, a5, a6, a7, a8, a9⟩ := h
  unfold dI
  rw [e1, e2, e3, e5]
  refine ⟨a1, a2, a3, a4.congr (fun p => Iff.rfl) (fun p => ?_), fun j k hj hk he => ?_, a6, a7, a8, a9⟩
  · constructor
    · rintro ⟨k, hk, rfl⟩
      obtain ⟨k', hk', e⟩ := s3 k hk
      exact ⟨k', hk', by rw [e4 k' hk', e]⟩
    · rintro ⟨k, hk, rfl⟩
      exact ⟨σ k, s1 k hk, (e4 k hk).symm⟩
  · rw [e4 j hj, e4 k hk] at he
    exact s2 j k hj hk (a5 _ _ (s1 j hj) (s1 k hk) he)
theorem dI_turn {s : drS} (h : dI s) (hs : 1 ≤ s.1) : dI (drTurn s) := by
  obtain ⟨g, hg⟩ : ∃ g, s.1 = g + 1 := ⟨s.1 - 1, by omega⟩
  refine dI_perm (s' := drTurn s) (fun k => if k = 4 * g then 4 * g + 1 else if k = 4 * g + 1 then 4 * g + 3 else if k = 4 * g + 3 then 4 * g + 2 else if k = 4 * g + 2 then 4 * g else k) h rfl rfl rfl (fun k hk => ?_) rfl (fun k hk => ?_) (fun j k hj hk he => ?_) (fun j hj => ?_)
  · show upN (upN (upN (upN s.2.2.2.1 (4 * (s.1 - 1)) (s.2.2.2.1 (4 * (s.1 - 1) + 1))) (4 * (s.1 - 1) + 1) (s.2.2.2.1 (4 * (s.1 - 1) + 3))) (4 * (s.1 - 1) + 3) (s.2.2.2.1 (4 * (s.1 - 1) + 2))) (4 * (s.1 - 1) + 2) (s.2.2.2.1 (4 * (s.1 - 1))) k = _
    rw [hg, show g + 1 - 1 = g by omega, upN_at, upN_at, upN_at, upN_at]
    by_cases k0 : k = 4 * g
    · subst k0
      rw [if_neg (by omega), if_neg (by omega), if_neg (by omega), if_pos rfl, if_pos rfl]
    · by_cases k1 : k = 4 * g + 1
      · subst k1
        rw [if_neg (by omega), if_neg (by omega), if_pos rfl, if_neg (by omega), if_pos rfl]
      · by_cases k2 : k = 4 * g + 2
        · subst k2
          rw [if_pos rfl, if_neg (by omega), if_neg (by omega), if_neg (by omega), if_pos rfl]
        · by_cases k3 : k = 4 * g + 3
          · subst k3
            rw [if_neg (by omega), if_pos rfl, if_neg (by omega), if_neg (by omega), if_pos rfl]
          · rw [if_neg k2, if_neg k3, if_neg k1, if_neg k0, if_neg k0, if_neg k1, if_neg k3, if_neg k2]
  · repeat' split
    all_goals omega
  · repeat' split at he
    all_goals omega
  · by_cases j0 : j = 4 * g
    · exact ⟨4 * g + 2, by omega, by rw [if_neg (by omega), if_neg (by omega), if_neg (by omega), if_pos rfl, j0]⟩
    · by_cases j1 : j = 4 * g + 1
      · exact ⟨4 * g, by omega, by rw [if_pos rfl, j1]⟩
      · by_cases j2 : j = 4 * g + 2
        · exact ⟨4 * g + 3, by omega, by rw [if_neg (by omega), if_neg (by omega), if_pos rfl, j2]⟩
        · by_cases j3 : j = 4 * g + 3
          · exact ⟨4 * g + 1, by omega, by rw [if_neg (by omega), if_pos rfl, j3]⟩
          · exact ⟨j, by omega, by rw [if_neg (by omega), if_neg (by omega), if_neg (by omega), if_neg (by omega)]⟩
theorem dI_mir {s : drS} (h : dI s) : dI (drMir s) := by
  obtain ⟨a1, a2, a3, a4, a5, a6, a7, a8, a9⟩ := h
  refine ⟨a1, a2, a3, a4, a5, a6, a7, a8, fun b hb => ?_⟩
  have h9 := a9 b hb
  show (if s.2.2.2.2.1 (s.1 - 1) ≤ b ∧ b < s.2.1 then 1 - s.2.2.2.2.2.2.2 b else s.2.2.2.2.2.2.2 b) = 0 ∨ (if s.2.2.2.2.1 (s.1 - 1) ≤ b ∧ b < s.2.1 then 1 - s.2.2.2.2.2.2.2 b else s.2.2.2.2.2.2.2 b) = 1
  split <;> omega
theorem drStep_leaf {s : drS} {z : Int} (h : z ≤ 10) : drStep s z = drLeaf s z := if_pos h
theorem drStep_hc (s : drS) (z : Int) (h : 10 < z) : (drStep s z).1 = (if z = 11 ∨ z = 12 then s.1 - 1 else s.1) ∧ (drStep s z).2.1 = s.2.1 ∧ (drStep s z).2.2.1 = s.2.2.1 := by
  unfold drStep
  rw [if_neg (by omega)]
  by_cases h1 : z = 11
  · rw [if_pos h1, if_pos (Or.inl h1)]; exact ⟨rfl, rfl, rfl⟩
  · rw [if_neg h1]
    by_cases h2 : z = 12
    · rw [if_pos h2, if_pos (Or.inr h2)]; exact ⟨rfl, rfl, rfl⟩
    · rw [if_neg h2, if_neg (show ¬ (z = 11 ∨ z = 12) by omega)]
      by_cases h3 : z = 13
      · rw [if_pos h3]; exact ⟨rfl, rfl, rfl⟩
      · rw [if_neg h3]; exact ⟨rfl, rfl, rfl⟩
theorem dI_all {t : Nat → Int} {n : Nat} (hok : okT t n) (hl : lvs t n ≤ 24) (hc : crs t n ≤ 24) : ∀ k, k ≤ n → dI (dr t k) ∧ (dr t k).1 = (ev t k).1 ∧ (dr t k).2.1 = crs t k ∧ (dr t k).2.2.1 ≤ lvs t k := by
  have hl2 : ∀ r k, k + r = n → lvs t k ≤ lvs t n ∧ crs t k ≤ crs t n := by
    intro r
    induction r with
    | zero => intro k hk; rw [show k = n by omega]; exact ⟨Nat.le_refl _, Nat.le_refl _⟩
    | succ r ih =>
      intro k hk
      have h1 := ih (k + 1) (by omega)
      have h2 : lvs t k ≤ lvs t (k + 1) := Nat.le_add_right _ _
      have h3 : crs t k ≤ crs t (k + 1) := Nat.le_add_right _ _
      omega
  intro k
  induction k with
  | zero => exact fun _ => ⟨dI_0, rfl, rfl, Nat.le_refl _⟩
  | succ k ih =>
    intro hk
    obtain ⟨g1, g2, g3, g4⟩ := ih (by omega)
    have hz := hok k (by omega)
    have hk1 := hl2 (n - (k + 1)) (k + 1) (by omega)
    have l1 : lvs t (k + 1) = lvs t k + (if t k ≤ 10 then 1 else 0) := rfl
    have c1 : crs t (k + 1) = crs t k + (if t k < 10 then (t k).natAbs else 0) := rfl
    have d1 : dr t (k + 1) = drStep (dr t k) (t k) := rfl
    have v1 : (ev t (k + 1)).1 = _ := evStep_h (ev t k) (t k)
    have hev := ev_h t k
    rw [d1, v1]
    by_cases hz1 : t k ≤ 10
    · rw [drStep_leaf hz1]
      rw [if_pos hz1] at l1 ⊢
      obtain ⟨q1, q2, q3, q4⟩ := dI_leaf (z := t k) g1 (by omega) hz1 (by omega) (by omega) (by rw [g3]; omega)
      exact ⟨q1, by rw [q2, g2], by rw [q3, c1, g3], by rw [l1]; omega⟩
    · rw [if_neg hz1] at l1 ⊢
      rw [if_neg (by omega)] at c1
      obtain ⟨q1, q2, q3⟩ := drStep_hc (dr t k) (t k) (by omega)
      have hs1 := hz.2.2.1 (by omega)
      refine ⟨?_, by rw [q1, g2], by rw [q2, c1, g3]; rfl, by rw [q3, l1]; omega⟩
      unfold drStep
      rw [if_neg hz1]
      by_cases h11 : t k = 11
      · rw [if_pos h11]
        exact dI_sum g1 (by have := hz.2.2.2 (by omega) (by omega); omega)
      · rw [if_neg h11]
        by_cases h12 : t k = 12
        · rw [if_pos h12]
          exact dI_stk g1 (by have := hz.2.2.2 (by omega) (by omega); omega)
        · rw [if_neg h12]
          by_cases h13 : t k = 13
          · rw [if_pos h13]
            exact dI_turn g1 (by omega)
          · rw [if_neg h13]
            exact dI_mir g1
