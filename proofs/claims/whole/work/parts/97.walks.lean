/-! all walks: how many, where they begin, what is noted; then the circles -/
abbrev wAS : Type := Nat × (Nat → Nat) × wkS
def wk0 : wkS := (0, fun _ => 0, fun _ => 999, fun _ => 9, fun _ => 0)
noncomputable def wA (mk po P : Nat → Nat) : Nat → wAS
  | 0 => (0, fun _ => 999, wk0)
  | k + 1 => if (wA mk po P k).2.2.2.2.2.2 (wEntry po k) = 1 then wA mk po P k else ((wA mk po P k).1 + 1, upN (wA mk po P k).2.1 (wA mk po P k).1 (wA mk po P k).2.2.1, wRun mk po P (wA mk po P k).1 (wA mk po P k).2.2 (wEntry po k) (per (wW mk) P (wEntry po k)))
def wAI (c l : Nat) (mk po P : Nat → Nat) (k : Nat) (A : wAS) : Prop := mI c l mk po A.1 A.2.2 ∧ wCl c l P A.2.2 ∧ A.1 ≤ k ∧ (∀ j, j < k → A.2.2.2.2.2.2 (wEntry po j) = 1) ∧ (∀ i, i < A.1 → A.2.1 i ≤ A.2.2.1) ∧ (∀ i j, i ≤ j → j < A.1 → A.2.1 i ≤ A.2.1 j) ∧ (A.1 = 0 → A.2.2.1 = 0) ∧ (1 ≤ A.1 → A.2.1 0 = 0) ∧ (∀ p, 192 ≤ p → A.2.2.2.2.2.2 p = 0)
section WAS
variable {c l : Nat} {mk po P : Nat → Nat}
theorem wRun_w {K : Nat} {s : wkS} {b : Nat} : ∀ j, s.1 ≤ (wRun mk po P K s b j).1 := by
  intro j
  induction j with
  | zero => exact Nat.le_refl _
  | succ j ih =>
    show s.1 ≤ (wNote mk po K (wRun mk po P K s b j) (orb (wW mk) P b j)).1
    unfold wNote
    split
    · exact Nat.le_trans ih (Nat.le_succ _)
    · exact ih
theorem wA_I (hg : gd c l mk po P) : ∀ k, k ≤ 2 * c → wAI c l mk po P k (wA mk po P k) := by
  intro k
  induction k with
  | zero =>
    intro _
    refine ⟨⟨fun p => Or.inl rfl, fun p _ => rfl, fun i j hi => absurd hi (Nat.not_lt_zero _), fun i hi => absurd hi (Nat.not_lt_zero _), fun k _ h => absurd h (show ¬ (0 : Nat) = 1 by decide), fun k _ => ⟨fun _ => rfl, fun _ => rfl⟩, fun k _ h => absurd h (show ¬ (0 : Nat) = 1 by decide)⟩, fun p _ => rfl, Nat.le_refl _, fun j hj => absurd hj (Nat.not_lt_zero _), fun i hi => absurd hi (Nat.not_lt_zero _), fun i j _ hj => absurd hj (Nat.not_lt_zero _), fun _ => rfl, fun h => absurd h (show ¬ 1 ≤ (0 : Nat) by decide), fun p _ => rfl⟩
  | succ k ih =>
    intro hk
    obtain ⟨h1, h2, h3, h4, h5, h6, h7, h8, h9⟩ := ih (by omega)
    obtain ⟨e1, e2, e3⟩ := entry_lt hg (show k < 2 * c by omega)
    have hc := hg.1
    show wAI c l mk po P (k + 1) (if _ then _ else _)
    by_cases hsn : (wA mk po P k).2.2.2.2.2.2 (wEntry po k) = 1
    · rw [if_pos hsn]
      refine ⟨h1, h2, by omega, fun j hj => ?_, h5, h6, h7, h8, h9⟩
      by_cases hjk : j = k
      · rw [hjk]; exact hsn
      · exact h4 j (by omega)
    · rw [if_neg hsn]
      have hs0 : (wA mk po P k).2.2.2.2.2.2 (wEntry po k) = 0 := (h1.1 _).elim id (fun q => absurd q hsn)
      have hr := per_is hg.2.2.1 e2
      have hm := h1.le (B' := (wA mk po P k).1 + 1) (by omega)
      have g1 := (wRun_I (K := (wA mk po P k).1) hg hm h2 e2 hs0 (by omega) (by omega) hr _ (Nat.le_refl _)).1
      have g2 := wRun_cl (K := (wA mk po P k).1) hg hm h2 e2 hs0 (by omega) (by omega) hr
      have g3 := wRun_w (mk := mk) (po := po) (P := P) (K := (wA mk po P k).1) (s := (wA mk po P k).2.2) (b := wEntry po k) (per (wW mk) P (wEntry po k))
      have g4 := wRun_sn (mk := mk) (po := po) (P := P) (K := (wA mk po P k).1) (s := (wA mk po P k).2.2) (b := wEntry po k) h1.1 (per (wW mk) P (wEntry po k))
      refine ⟨g1, g2, ?_, fun j hj => ?_, fun i hi => ?_, fun i j hij hj => ?_, fun h => absurd h (Nat.succ_ne_zero _), fun _ => ?_, fun p hp => ?_⟩
      · show (wA mk po P k).1 + 1 ≤ k + 1
        omega
      · refine (g4 _).mpr ?_
        by_cases hjk : j = k
        · exact Or.inr ⟨0, hr.1, Or.inl (by rw [hjk]; rfl)⟩
        · exact Or.inl (h4 j (by omega))
      · have hi2 : i < (wA mk po P k).1 + 1 := hi
        show upN (wA mk po P k).2.1 (wA mk po P k).1 (wA mk po P k).2.2.1 i ≤ _
        rw [upN_at]
        by_cases hiA : i = (wA mk po P k).1
        · rw [if_pos hiA]; exact g3
        · rw [if_neg hiA]; exact Nat.le_trans (h5 i (by omega)) g3
      · have hj2 : j < (wA mk po P k).1 + 1 := hj
        show upN (wA mk po P k).2.1 (wA mk po P k).1 (wA mk po P k).2.2.1 i ≤ upN (wA mk po P k).2.1 (wA mk po P k).1 (wA mk po P k).2.2.1 j
        rw [upN_at, upN_at]
        by_cases hjA : j = (wA mk po P k).1
        · rw [if_pos hjA]
          by_cases hiA : i = (wA mk po P k).1
          · rw [if_pos hiA]; exact Nat.le_refl _
          · rw [if_neg hiA]; exact h5 i (by omega)
        · rw [if_neg hjA, if_neg (by omega)]; exact h6 i j hij (by omega)
      · show upN (wA mk po P k).2.1 (wA mk po P k).1 (wA mk po P k).2.2.1 0 = 0
        rw [upN_at]
        by_cases hA : 0 = (wA mk po P k).1
        · rw [if_pos hA]; exact h7 hA.symm
        · rw [if_neg hA]; exact h8 (by omega)
      · refine (g1.1 p).elim id (fun q => ?_)
        have q2 := (g4 p).mp q
        rcases q2 with q2 | ⟨i, hi, q2 | q2⟩
        · rw [h9 p hp] at q2; exact absurd q2 (by decide)
        · have := hg.2.2.1.1 _ (orb_D hg.2.2.1 e2 i)
          omega
        · have := hg.2.2.1.1 _ (hg.2.2.1.2.1 _ (orb_D hg.2.2.1 e2 i)).1
          omega
noncomputable def wB (mk po P : Nat → Nat) (K : Nat) (s : wkS) : Nat → Nat × wkS
  | 0 => (0, s)
  | j + 1 => if (wB mk po P K s j).2.2.2.2.2 (96 + j) = 1 then wB mk po P K s j else ((wB mk po P K s j).1 + 1, wRun mk po P K (wB mk po P K s j).2 (96 + j) (per (wW mk) P (96 + j)))
theorem wRun_loose {K : Nat} {s : wkS} {b : Nat} {r : Nat} (h : ∀ i, i < r → 96 ≤ orb (wW mk) P b i) : ∀ j, j ≤ r → (wRun mk po P K s b j).1 = s.1 ∧ (wRun mk po P K s b j).2.1 = s.2.1 ∧ (wRun mk po P K s b j).2.2.1 = s.2.2.1 ∧ (wRun mk po P K s b j).2.2.2.1 = s.2.2.2.1 := by
  intro j
  induction j with
  | zero => exact fun _ => ⟨rfl, rfl, rfl, rfl⟩
  | succ j ih =>
    intro hj
    have := h j (by omega)
    have hw : wRun mk po P K s b (j + 1) = wNote mk po K (wRun mk po P K s b j) (orb (wW mk) P b j) := rfl
    rw [hw]
    unfold wNote
    rw [if_neg (by omega)]
    exact ih (by omega)
theorem wB_I {K : Nat} {s : wkS} (hg : gd c l mk po P) (hm : mI c l mk po K s) (hc : wCl c l P s) (hK : K ≤ 48) (ha : ∀ k, k < 2 * c → s.2.2.2.2 (wEntry po k) = 1) : ∀ j, j ≤ 4 * l → (mI c l mk po (K + 1) (wB mk po P K s j).2 ∧ wCl c l P (wB mk po P K s j).2 ∧ (wB mk po P K s j).1 ≤ j ∧ (∀ p, s.2.2.2.2 p = 1 → (wB mk po P K s j).2.2.2.2.2 p = 1)) ∧ ((wB mk po P K s j).2.1 = s.1 ∧ (wB mk po P K s j).2.2.1 = s.2.1 ∧ (wB mk po P K s j).2.2.2.1 = s.2.2.1 ∧ (wB mk po P K s j).2.2.2.2.1 = s.2.2.2.1) ∧ (∀ b, dD c l b → (wB mk po P K s j).2.2.2.2.2 b = 0 → ∀ i, 96 ≤ orb (wW mk) P b i) := by
  have all : ∀ s' : wkS, mI c l mk po (K + 1) s' → wCl c l P s' → (∀ p, s.2.2.2.2 p = 1 → s'.2.2.2.2 p = 1) → ∀ b, dD c l b → s'.2.2.2.2 b = 0 → ∀ i, 96 ≤ orb (wW mk) P b i := by
    intro s' h1 h2 h3 b hb hs i
    apply Classical.byContradiction
    intro hn
    have hD := orb_D hg.2.2.1 hb i
    have e0 := orb_sn hg h1 h2 hb i
    rw [hs] at e0
    obtain ⟨p1, p2⟩ := pass_lt hg hD (by omega)
    have hE := entry_lt hg p2
    have e1 := h3 _ (ha _ p2)
    rcases entry_pass hg hD (by omega) with e | e
    · rw [← e, e0] at e1
      exact absurd e1 (by decide)
    · rw [← h1.2.1 _ hE.2.1, ← e, e0] at e1
      exact absurd e1 (by decide)
  intro j
  induction j with
  | zero =>
    intro _
    have hm' := hm.le (B' := K + 1) (by omega)
    exact ⟨⟨hm', hc, Nat.le_refl _, fun p hp => hp⟩, ⟨rfl, rfl, rfl, rfl⟩, all s hm' hc (fun p hp => hp)⟩
  | succ j ih =>
    intro hj
    obtain ⟨⟨g1, g2, g3, g4⟩, g5, g6⟩ := ih (by omega)
    have hD : dD c l (96 + j) := Or.inr ⟨by omega, by omega⟩
    have hw : wB mk po P K s (j + 1) = if (wB mk po P K s j).2.2.2.2.2 (96 + j) = 1 then wB mk po P K s j else ((wB mk po P K s j).1 + 1, wRun mk po P K (wB mk po P K s j).2 (96 + j) (per (wW mk) P (96 + j))) := rfl
    rw [hw]
    by_cases hsn : (wB mk po P K s j).2.2.2.2.2 (96 + j) = 1
    · rw [if_pos hsn]
      exact ⟨⟨g1, g2, by omega, g4⟩, g5, g6⟩
    · rw [if_neg hsn]
      have hs0 : (wB mk po P K s j).2.2.2.2.2 (96 + j) = 0 := (g1.1 _).elim id (fun q => absurd q hsn)
      have hr := per_is hg.2.2.1 hD
      have k1 := (wRun_I (K := K) hg g1 g2 hD hs0 (by omega) (by omega) hr _ (Nat.le_refl _)).1
      have k2 := wRun_cl (K := K) hg g1 g2 hD hs0 (by omega) (by omega) hr
      have k4 := wRun_sn (mk := mk) (po := po) (P := P) (K := K) (s := (wB mk po P K s j).2) (b := 96 + j) g1.1 (per (wW mk) P (96 + j))
      have k5 := wRun_loose (mk := mk) (po := po) (P := P) (K := K) (s := (wB mk po P K s j).2) (b := 96 + j) (r := per (wW mk) P (96 + j)) (fun i _ => g6 _ hD hs0 i) _ (Nat.le_refl _)
      have k6 : ∀ p, s.2.2.2.2 p = 1 → (wRun mk po P K (wB mk po P K s j).2 (96 + j) (per (wW mk) P (96 + j))).2.2.2.2 p = 1 := fun p hp => (k4 p).mpr (Or.inl (g4 p hp))
      refine ⟨⟨k1, k2, ?_, k6⟩, ⟨k5.1.trans g5.1, k5.2.1.trans g5.2.1, k5.2.2.1.trans g5.2.2.1, k5.2.2.2.trans g5.2.2.2⟩, all _ k1 k2 k6⟩
      show (wB mk po P K s j).1 + 1 ≤ j + 1
      omega
end WAS
