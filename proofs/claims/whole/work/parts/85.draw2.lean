/-! drawings on their way stay well -/
theorem endN_0 {e : Nat → Nat} {h w x : Nat} : endN e h w x (4 * h) = 4 * w := by
  unfold endN
  rw [upN_ne (by omega), upN_ne (by omega), upN_ne (by omega), upN_eq]
theorem endN_1 {e : Nat → Nat} {h w x : Nat} : endN e h w x (4 * h + 1) = 4 * x + 1 := by
  unfold endN
  rw [upN_ne (by omega), upN_eq]
theorem endN_2 {e : Nat → Nat} {h w x : Nat} : endN e h w x (4 * h + 2) = 4 * w + 2 := by
  unfold endN
  rw [upN_ne (by omega), upN_ne (by omega), upN_eq]
theorem endN_3 {e : Nat → Nat} {h w x : Nat} : endN e h w x (4 * h + 3) = 4 * x + 3 := by
  unfold endN
  rw [upN_eq]
theorem endN_lt {e : Nat → Nat} {h w x k : Nat} (hk : k < 4 * h) : endN e h w x k = e k := by
  unfold endN
  rw [upN_ne (by omega), upN_ne (by omega), upN_ne (by omega), upN_ne (by omega)]
theorem endN_O {e : Nat → Nat} {h w x : Nat} (p : Nat) : (∃ k, k < 4 * (h + 1) ∧ endN e h w x k = p) ↔ (∃ k, k < 4 * h ∧ e k = p) ∨ (p = 4 * w ∨ p = 4 * w + 2 ∨ p = 4 * x + 1 ∨ p = 4 * x + 3) := by
  constructor
  · rintro ⟨k, hk, hp⟩
    by_cases h1 : k < 4 * h
    · rw [endN_lt h1] at hp
      exact Or.inl ⟨k, h1, hp⟩
    · have h2 : k = 4 * h ∨ k = 4 * h + 1 ∨ k = 4 * h + 2 ∨ k = 4 * h + 3 := by omega
      rcases h2 with rfl | rfl | rfl | rfl
      · rw [endN_0] at hp; exact Or.inr (by omega)
      · rw [endN_1] at hp; exact Or.inr (by omega)
      · rw [endN_2] at hp; exact Or.inr (by omega)
      · rw [endN_3] at hp; exact Or.inr (by omega)
  · rintro (⟨k, hk, hp⟩ | hp)
    · exact ⟨k, by omega, by rw [endN_lt hk]; exact hp⟩
    · rcases hp with hp | hp | hp | hp
      · exact ⟨4 * h, by omega, by rw [endN_0]; exact hp.symm⟩
      · exact ⟨4 * h + 2, by omega, by rw [endN_2]; exact hp.symm⟩
      · exact ⟨4 * h + 1, by omega, by rw [endN_1]; exact hp.symm⟩
      · exact ⟨4 * h + 3, by omega, by rw [endN_3]; exact hp.symm⟩
theorem endN_inj {e : Nat → Nat} {h w x : Nat} (hi : ∀ j k, j < 4 * h → k < 4 * h → e j = e k → j = k) (hn : ∀ k, k < 4 * h → e k ≠ 4 * w ∧ e k ≠ 4 * w + 2 ∧ e k ≠ 4 * x + 1 ∧ e k ≠ 4 * x + 3) : ∀ j k, j < 4 * (h + 1) → k < 4 * (h + 1) → endN e h w x j = endN e h w x k → j = k := by
  have split4 : ∀ k, k < 4 * (h + 1) → k < 4 * h ∨ k = 4 * h ∨ k = 4 * h + 1 ∨ k = 4 * h + 2 ∨ k = 4 * h + 3 := fun k hk => by omega
  intro j k hj hk he
  rcases split4 j hj with h1 | rfl | rfl | rfl | rfl
  · have hh := hn j h1
    rw [endN_lt h1] at he
    rcases split4 k hk with h2 | rfl | rfl | rfl | rfl
    · rw [endN_lt h2] at he
      exact hi j k h1 h2 he
    · rw [endN_0] at he; exact absurd he hh.1
    · rw [endN_1] at he; exact absurd he hh.2.2.1
    · rw [endN_2] at he; exact absurd he hh.2.1
    · rw [endN_3] at he; exact absurd he hh.2.2.2
  all_goals
    rcases split4 k hk with h2 | rfl | rfl | rfl | rfl
    · have hh := hn k h2
      rw [endN_lt h2] at he
      simp only [endN_0, endN_1, endN_2, endN_3] at he
      first
        | exact absurd he.symm hh.1
        | exact absurd he.symm hh.2.1
        | exact absurd he.symm hh.2.2.1
        | exact absurd he.symm hh.2.2.2
    all_goals
      simp only [endN_0, endN_1, endN_2, endN_3] at he
      omega
/-- the part of a drawing that a crossing more does not touch -/
theorem drXs_h (s : drS) (v k : Nat) : (drXs s v k).1 = s.1 ∧ (drXs s v k).2.1 = s.2.1 + k ∧ (drXs s v k).2.2.1 = s.2.2.1 ∧ (drXs s v k).2.2.2.1 = s.2.2.2.1 ∧ (drXs s v k).2.2.2.2.1 = s.2.2.2.2.1 := by
  induction k with
  | zero => exact ⟨rfl, rfl, rfl, rfl, rfl⟩
  | succ k ih =>
    obtain ⟨a1, a2, a3, a4, a5⟩ := ih
    refine ⟨a1, ?_, a3, a4, a5⟩
    show (drXs s v k).2.1 + 1 = _
    omega
theorem drXs_mk (s : drS) (v k : Nat) : (∀ b, (drXs s v k).2.2.2.2.2.2.1 b = if s.2.1 ≤ b ∧ b < s.2.1 + k then 3 else s.2.2.2.2.2.2.1 b) ∧ ∀ b, (drXs s v k).2.2.2.2.2.2.2 b = if s.2.1 ≤ b ∧ b < s.2.1 + k then v else s.2.2.2.2.2.2.2 b := by
  induction k with
  | zero =>
    refine ⟨fun b => ?_, fun b => ?_⟩
    · rw [if_neg (by omega)]; rfl
    · rw [if_neg (by omega)]; rfl
  | succ k ih =>
    have h1 := (drXs_h s v k).2.1
    refine ⟨fun b => ?_, fun b => ?_⟩
    · show upN (drXs s v k).2.2.2.2.2.2.1 (drXs s v k).2.1 3 b = _
      rw [upN_at, h1, ih.1 b]
      by_cases hb : b = s.2.1 + k
      · rw [if_pos hb, if_pos (by omega)]
      · rw [if_neg hb]
        by_cases hc : s.2.1 ≤ b ∧ b < s.2.1 + k
        · rw [if_pos hc, if_pos (by omega)]
        · rw [if_neg hc, if_neg (by omega)]
    · show upN (drXs s v k).2.2.2.2.2.2.2 (drXs s v k).2.1 v b = _
      rw [upN_at, h1, ih.2 b]
      by_cases hb : b = s.2.1 + k
      · rw [if_pos hb, if_pos (by omega)]
      · rw [if_neg hb]
        by_cases hc : s.2.1 ≤ b ∧ b < s.2.1 + k
        · rw [if_pos hc, if_pos (by omega)]
        · rw [if_neg hc, if_neg (by omega)]
theorem drXs_pI {s : drS} {O : Nat → Prop} (v : Nat) (h : pI (dD s.2.1 s.2.2.1) O s.2.2.2.2.2.1) (hl : s.2.2.1 ≤ 24) : ∀ k, s.2.1 + (k + 1) ≤ 24 → pI (dD (s.2.1 + (k + 1)) s.2.2.1) (fun p => O p ∨ (p = 4 * s.2.1 ∨ p = 4 * s.2.1 + 2 ∨ p = 4 * (s.2.1 + k) + 1 ∨ p = 4 * (s.2.1 + k) + 3)) (drXs s v (k + 1)).2.2.2.2.2.1 := by
  have hOD : ∀ p, O p → dD s.2.1 s.2.2.1 p := fun p hp => (h.2.1 p hp).1
  intro k
  induction k with
  | zero =>
    intro hk
    have g := h.grow (N := fun p => 4 * s.2.1 ≤ p ∧ p < 4 * s.2.1 + 4) (fun p hp => by omega) (fun p hp => by unfold dD; omega)
    refine pI.congr (pa := s.2.2.2.2.2.1) g (fun p => ?_) (fun p => ?_)
    · unfold dD; omega
    · refine or_congr Iff.rfl ?_
      omega
  | succ k ih =>
    intro hk
    have g0 := ih (by omega)
    have hc : (drXs s v (k + 1)).2.1 = s.2.1 + (k + 1) := (drXs_h s v (k + 1)).2.1
    have e1 : (drXs s v (k + 1 + 1)).2.2.2.2.2.1 = tieN (tieN (drXs s v (k + 1)).2.2.2.2.2.1 (4 * (s.2.1 + (k + 1)) - 3) (4 * (s.2.1 + (k + 1)))) (4 * (s.2.1 + (k + 1)) - 1) (4 * (s.2.1 + (k + 1)) + 2) := by
      rw [← hc]
      rfl
    rw [e1]
    have g := g0.grow (N := fun p => 4 * (s.2.1 + (k + 1)) ≤ p ∧ p < 4 * (s.2.1 + (k + 1)) + 4) (fun p hp => by omega) (fun p hp => by unfold dD; omega)
    have g2 := (g.tie (x := 4 * (s.2.1 + (k + 1)) - 3) (y := 4 * (s.2.1 + (k + 1))) (Or.inl (Or.inr (by omega))) (Or.inr (by omega)) (by omega)).tie (x := 4 * (s.2.1 + (k + 1)) - 1) (y := 4 * (s.2.1 + (k + 1)) + 2) ⟨Or.inl (Or.inr (by omega)), by omega, by omega⟩ ⟨Or.inr (by omega), by omega, by omega⟩ (by omega)
    refine g2.congr (fun p => ?_) (fun p => ?_)
    · unfold dD; omega
    · constructor
      · rintro ⟨⟨(hO | hp) | hp, p1⟩, p2⟩
        · exact Or.inl hO
        · exact Or.inr (by omega)
        · exact Or.inr (by omega)
      · rintro (hO | hp)
        · have := hOD p hO
          unfold dD at this
          exact ⟨⟨Or.inl (Or.inl hO), by omega⟩, by omega⟩
        · refine ⟨⟨?_, by omega⟩, by omega⟩
          by_cases hq : p < 4 * (s.2.1 + (k + 1))
          · exact Or.inl (Or.inr (by omega))
          · exact Or.inr (by omega)
theorem dI_leaf {s : drS} {z : Int} (h : dI s) (hz1 : -9 ≤ z) (hz2 : z ≤ 10) (hh : s.1 < 24) (hl : s.2.2.1 < 24) (hc : s.2.1 + (if z < 10 then z.natAbs else 0) ≤ 24) : dI (drLeaf s z) ∧ (drLeaf s z).1 = s.1 + 1 ∧ (drLeaf s z).2.1 = s.2.1 + (if z < 10 then z.natAbs else 0) ∧ (drLeaf s z).2.2.1 ≤ s.2.2.1 + 1 := by
  obtain ⟨a1, a2, a3, a4, a5, a6, a7, a8, a9⟩ := h
  have hf : ∀ c, s.2.1 ≤ c → ∀ k, k < s.1 + 1 → upN s.2.2.2.2.1 s.1 s.2.1 k ≤ c := fun c hc k hk => by
    rw [upN_at]
    by_cases hks : k = s.1
    · rw [if_pos hks]; exact hc
    · rw [if_neg hks]
      have := a6 k (by omega)
      omega
  have hend : ∀ k, k < 4 * s.1 → dD s.2.1 s.2.2.1 (s.2.2.2.1 k) := fun k hk => (a4.2.1 _ ⟨k, hk, rfl⟩).1
  have bare : ∀ v, (v = 1 ∨ v = 2) → dI (drB (drF s) v) := by
    intro v hv
    refine ⟨a1, hl, hh, ?_, ?_, hf _ (Nat.le_refl _), fun b hb => ?_, fun b hb => ?_, a9⟩
    · have g := a4.grow (N := fun p => 96 + 4 * s.2.2.1 ≤ p ∧ p < 96 + 4 * s.2.2.1 + 4) (fun p hp => by omega) (fun p hp => by unfold dD; omega)
      refine pI.congr (pa := s.2.2.2.2.2.1) g (fun p => ?_) (fun p => ?_)
      · show _ ↔ dD s.2.1 (s.2.2.1 + 1) p
        unfold dD; omega
      · refine Iff.trans ?_ (endN_O (e := s.2.2.2.1) (h := s.1) (w := 24 + s.2.2.1) (x := 24 + s.2.2.1) p).symm
        refine or_congr Iff.rfl ?_
        omega
    · refine endN_inj a5 (fun k hk => ?_)
      have h5 := hend k hk
      have h6 : (drF s).2.2.2.1 k = s.2.2.2.1 k := rfl
      have h7 : (drF s).2.2.1 = s.2.2.1 := rfl
      rw [h6, h7]
      unfold dD at h5
      omega
    · have hb2 : b < s.2.1 := hb
      show upN s.2.2.2.2.2.2.1 (24 + s.2.2.1) v b = 3
      rw [upN_ne (by omega)]
      exact a7 b hb
    · have hb2 : b < s.2.2.1 + 1 := hb
      show upN s.2.2.2.2.2.2.1 (24 + s.2.2.1) v (24 + b) = 1 ∨ upN s.2.2.2.2.2.2.1 (24 + s.2.2.1) v (24 + b) = 2
      rw [upN_at]
      by_cases hbs : b = s.2.2.1
      · rw [if_pos (by omega)]; exact hv
      · rw [if_neg (by omega)]; exact a8 b (by omega)
  unfold drLeaf
  by_cases z0 : z = 0
  · rw [if_pos z0]
    subst z0
    exact ⟨bare 1 (Or.inl rfl), rfl, rfl, Nat.le_refl _⟩
  · rw [if_neg z0]
    by_cases z10 : z = 10
    · rw [if_pos z10]
      subst z10
      exact ⟨bare 2 (Or.inr rfl), rfl, rfl, Nat.le_refl _⟩
    · rw [if_neg z10]
      rw [if_pos (show z < 10 by omega)] at hc ⊢
      obtain ⟨w, hw⟩ : ∃ w, z.natAbs = w + 1 := ⟨z.natAbs - 1, by omega⟩
      rw [hw] at hc ⊢
      obtain ⟨v, hv⟩ : ∃ v, v = (if 0 < z then 1 else 0) := ⟨_, rfl⟩
      have hv2 : v = 0 ∨ v = 1 := by rw [hv]; split <;> omega
      rw [← hv]
      obtain ⟨x1, x2, x3, x4, x5⟩ := drXs_h (drF s) v (w + 1)
      obtain ⟨y1, y2⟩ := drXs_mk (drF s) v (w + 1)
      have g := drXs_pI (s := drF s) v a4 a2 w hc
      have fc : (drF s).2.1 = s.2.1 := rfl
      have fl : (drF s).2.2.1 = s.2.2.1 := rfl
      have fh : (drF s).1 = s.1 := rfl
      have fe : (drF s).2.2.2.1 = s.2.2.2.1 := rfl
      rw [fc] at x2 y1 y2 g
      rw [fl] at x3 g
      rw [fh] at x1
      rw [fe] at x4
      have qc : (drE (drXs (drF s) v (w + 1)) s.2.1).2.1 = s.2.1 + (w + 1) := x2
      have ql : (drE (drXs (drF s) v (w + 1)) s.2.1).2.2.1 = s.2.2.1 := x3
      have qh : (drE (drXs (drF s) v (w + 1)) s.2.1).1 = s.1 + 1 := by show (drXs (drF s) v (w + 1)).1 + 1 = _; rw [x1]
      have qe : (drE (drXs (drF s) v (w + 1)) s.2.1).2.2.2.1 = endN s.2.2.2.1 s.1 s.2.1 (s.2.1 + w) := by
        show endN (drXs (drF s) v (w + 1)).2.2.2.1 (drXs (drF s) v (w + 1)).1 s.2.1 ((drXs (drF s) v (w + 1)).2.1 - 1) = _
        rw [x4, x1, x2]
        rfl
      have qf : (drE (drXs (drF s) v (w + 1)) s.2.1).2.2.2.2.1 = upN s.2.2.2.2.1 s.1 s.2.1 := x5
      have qm : ∀ b, (drE (drXs (drF s) v (w + 1)) s.2.1).2.2.2.2.2.2.1 b = if s.2.1 ≤ b ∧ b < s.2.1 + (w + 1) then 3 else s.2.2.2.2.2.2.1 b := y1
      have qp : ∀ b, (drE (drXs (drF s) v (w + 1)) s.2.1).2.2.2.2.2.2.2 b = if s.2.1 ≤ b ∧ b < s.2.1 + (w + 1) then v else s.2.2.2.2.2.2.2 b := y2
      refine ⟨?_, qh, qc, by rw [ql]; omega⟩
      unfold dI
      rw [qc, ql, qh, qe, qf]
      refine ⟨hc, a2, hh, ?_, ?_, hf _ (by omega), fun b hb => ?_, fun b hb => ?_, fun b hb => ?_⟩
      · refine pI.congr g (fun p => Iff.rfl) (fun p => ?_)
        exact (endN_O (e := s.2.2.2.1) (h := s.1) (w := s.2.1) (x := s.2.1 + w) p).symm
      · refine endN_inj a5 (fun k hk => ?_)
        have h5 := hend k hk
        unfold dD at h5
        omega
      · rw [qm]
        by_cases hb2 : s.2.1 ≤ b ∧ b < s.2.1 + (w + 1)
        · rw [if_pos hb2]
        · rw [if_neg hb2]; exact a7 b (by omega)
      · rw [qm, if_neg (by omega)]
        exact a8 b hb
      · rw [qp]
        by_cases hb2 : s.2.1 ≤ b ∧ b < s.2.1 + (w + 1)
        · rw [if_pos hb2]; exact hv2
        · rw [if_neg hb2]; exact a9 b (by omega)
