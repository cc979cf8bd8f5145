/-! the drawing of a row of tokens: height, crossings, bare leaves, ends, firsts, partners, masks, positive -/
abbrev drS : Type := Nat × Nat × Nat × (Nat → Nat) × (Nat → Nat) × (Nat → Nat) × (Nat → Nat) × (Nat → Nat)
def upN (f : Nat → Nat) (k v : Nat) : Nat → Nat := fun j => if j = k then v else f j
theorem upN_eq {f : Nat → Nat} {k v : Nat} : upN f k v k = v := if_pos rfl
theorem upN_ne {f : Nat → Nat} {k j v : Nat} (h : j ≠ k) : upN f k v j = f j := if_neg h
theorem upN_at {f : Nat → Nat} {k j v : Nat} : upN f k v j = if j = k then v else f j := rfl
def tieN (pa : Nat → Nat) (x y : Nat) : Nat → Nat := upN (upN pa x y) y x
def drX (s : drS) (v : Nat) (b : Bool) : drS := (s.1, s.2.1 + 1, s.2.2.1, s.2.2.2.1, s.2.2.2.2.1, (if b then s.2.2.2.2.2.1 else tieN (tieN s.2.2.2.2.2.1 (4 * s.2.1 - 3) (4 * s.2.1)) (4 * s.2.1 - 1) (4 * s.2.1 + 2)), upN s.2.2.2.2.2.2.1 s.2.1 3, upN s.2.2.2.2.2.2.2 s.2.1 v)
def drXs (s : drS) (v : Nat) : Nat → drS
  | 0 => s
  | k + 1 => drX (drXs s v k) v (k == 0)
def endN (e : Nat → Nat) (h w x : Nat) : Nat → Nat := upN (upN (upN (upN e (4 * h) (4 * w)) (4 * h + 2) (4 * w + 2)) (4 * h + 1) (4 * x + 1)) (4 * h + 3) (4 * x + 3)
def drF (s : drS) : drS := (s.1, s.2.1, s.2.2.1, s.2.2.2.1, upN s.2.2.2.2.1 s.1 s.2.1, s.2.2.2.2.2)
def drB (s : drS) (v : Nat) : drS := (s.1 + 1, s.2.1, s.2.2.1 + 1, endN s.2.2.2.1 s.1 (24 + s.2.2.1) (24 + s.2.2.1), s.2.2.2.2.1, s.2.2.2.2.2.1, upN s.2.2.2.2.2.2.1 (24 + s.2.2.1) v, s.2.2.2.2.2.2.2)
def drE (s : drS) (w : Nat) : drS := (s.1 + 1, s.2.1, s.2.2.1, endN s.2.2.2.1 s.1 w (s.2.1 - 1), s.2.2.2.2)
def drLeaf (s : drS) (z : Int) : drS := if z = 0 then drB (drF s) 1 else if z = 10 then drB (drF s) 2 else drE (drXs (drF s) (if 0 < z then 1 else 0) z.natAbs) s.2.1
def drSum (s : drS) : drS := (s.1 - 1, s.2.1, s.2.2.1, upN (upN s.2.2.2.1 (4 * (s.1 - 2) + 1) (s.2.2.2.1 (4 * (s.1 - 1) + 1))) (4 * (s.1 - 2) + 3) (s.2.2.2.1 (4 * (s.1 - 1) + 3)), s.2.2.2.2.1, tieN (tieN s.2.2.2.2.2.1 (s.2.2.2.1 (4 * (s.1 - 2) + 1)) (s.2.2.2.1 (4 * (s.1 - 1)))) (s.2.2.2.1 (4 * (s.1 - 2) + 3)) (s.2.2.2.1 (4 * (s.1 - 1) + 2)), s.2.2.2.2.2.2)
def drStk (s : drS) : drS := (s.1 - 1, s.2.1, s.2.2.1, upN (upN s.2.2.2.1 (4 * (s.1 - 2) + 2) (s.2.2.2.1 (4 * (s.1 - 1) + 2))) (4 * (s.1 - 2) + 3) (s.2.2.2.1 (4 * (s.1 - 1) + 3)), s.2.2.2.2.1, tieN (tieN s.2.2.2.2.2.1 (s.2.2.2.1 (4 * (s.1 - 2) + 2)) (s.2.2.2.1 (4 * (s.1 - 1)))) (s.2.2.2.1 (4 * (s.1 - 2) + 3)) (s.2.2.2.1 (4 * (s.1 - 1) + 1)), s.2.2.2.2.2.2)
def drTurn (s : drS) : drS := (s.1, s.2.1, s.2.2.1, upN (upN (upN (upN s.2.2.2.1 (4 * (s.1 - 1)) (s.2.2.2.1 (4 * (s.1 - 1) + 1))) (4 * (s.1 - 1) + 1) (s.2.2.2.1 (4 * (s.1 - 1) + 3))) (4 * (s.1 - 1) + 3) (s.2.2.2.1 (4 * (s.1 - 1) + 2))) (4 * (s.1 - 1) + 2) (s.2.2.2.1 (4 * (s.1 - 1))), s.2.2.2.2)
def drMir (s : drS) : drS := (s.1, s.2.1, s.2.2.1, s.2.2.2.1, s.2.2.2.2.1, s.2.2.2.2.2.1, s.2.2.2.2.2.2.1, fun j => if s.2.2.2.2.1 (s.1 - 1) ≤ j ∧ j < s.2.1 then 1 - s.2.2.2.2.2.2.2 j else s.2.2.2.2.2.2.2 j)
def drStep (s : drS) (z : Int) : drS := if z ≤ 10 then drLeaf s z else if z = 11 then drSum s else if z = 12 then drStk s else if z = 13 then drTurn s else drMir s
def dr0 : drS := (0, 0, 0, fun _ => 0, fun _ => 0, fun _ => 999, fun _ => 0, fun _ => 9)
def dr (t : Nat → Int) : Nat → drS
  | 0 => dr0
  | n + 1 => drStep (dr t n) (t n)
def drEnd (s : drS) (side : Nat) : drS := (s.1, s.2.1, s.2.2.1, s.2.2.2.1, s.2.2.2.2.1, (if side = 0 then tieN (tieN s.2.2.2.2.2.1 (s.2.2.2.1 0) (s.2.2.2.1 1)) (s.2.2.2.1 2) (s.2.2.2.1 3) else tieN (tieN s.2.2.2.2.2.1 (s.2.2.2.1 0) (s.2.2.2.1 2)) (s.2.2.2.1 1) (s.2.2.2.1 3)), s.2.2.2.2.2.2)
/-- which points stand -/
def dD (c l p : Nat) : Prop := p < 4 * c ∨ (96 ≤ p ∧ p < 96 + 4 * l)
/-- the open points O have no partner yet, the others each other -/
def pI (D O : Nat → Prop) (pa : Nat → Nat) : Prop := (∀ p, D p → p < 192) ∧ (∀ p, O p → D p ∧ pa p = 999) ∧ (∀ p, ¬ D p → pa p = 999) ∧ ∀ p, D p → ¬ O p → D (pa p) ∧ ¬ O (pa p) ∧ pa (pa p) = p ∧ pa p ≠ p
theorem pI.congr {D D' O O' : Nat → Prop} {pa : Nat → Nat} (h : pI D O pa) (hD : ∀ p, D p ↔ D' p) (hO : ∀ p, O p ↔ O' p) : pI D' O' pa := by
  have e1 : D = D' := funext fun p => propext (hD p)
  have e2 : O = O' := funext fun p => propext (hO p)
  rw [← e1, ← e2]
  exact h
theorem pI.tie {D O : Nat → Prop} {pa : Nat → Nat} {x y : Nat} (h : pI D O pa) (hx : O x) (hy : O y) (hxy : x ≠ y) : pI D (fun p => O p ∧ p ≠ x ∧ p ≠ y) (tieN pa x y) := by
  obtain ⟨h0, h1, h2, h3⟩ := h
  have t1 : tieN pa x y x = y := by rw [tieN, upN_ne hxy, upN_eq]
  have t2 : tieN pa x y y = x := by rw [tieN, upN_eq]
  have t3 : ∀ p, p ≠ x → p ≠ y → tieN pa x y p = pa p := fun p a b => by rw [tieN, upN_ne b, upN_ne a]
  refine ⟨h0, fun p hp => ⟨(h1 p hp.1).1, by rw [t3 p hp.2.1 hp.2.2]; exact (h1 p hp.1).2⟩, fun p hp => ?_, fun p hp hn => ?_⟩
  · rw [t3 p (fun q => hp (q ▸ (h1 x hx).1)) (fun q => hp (q ▸ (h1 y hy).1))]
    exact h2 p hp
  · by_cases a : p = x
    · subst a
      rw [t1, t2]
      exact ⟨(h1 y hy).1, fun q => q.2.2 rfl, rfl, fun q => hxy q.symm⟩
    · by_cases b : p = y
      · subst b
        rw [t2, t1]
        exact ⟨(h1 x hx).1, fun q => q.2.1 rfl, rfl, hxy⟩
      · have hno : ¬ O p := fun q => hn ⟨q, a, b⟩
        obtain ⟨g1, g2, g3, g4⟩ := h3 p hp hno
        have g5 : pa p ≠ x := fun q => g2 (q ▸ hx)
        have g6 : pa p ≠ y := fun q => g2 (q ▸ hy)
        rw [t3 p a b, t3 _ g5 g6]
        exact ⟨g1, fun q => g2 q.1, g3, g4⟩
theorem pI.grow {D O N : Nat → Prop} {pa : Nat → Nat} (h : pI D O pa) (hN : ∀ p, N p → p < 192) (hD : ∀ p, N p → ¬ D p) : pI (fun p => D p ∨ N p) (fun p => O p ∨ N p) pa := by
  obtain ⟨h0, h1, h2, h3⟩ := h
  refine ⟨fun p hp => hp.elim (h0 p) (hN p), fun p hp => ?_, fun p hp => h2 p (fun q => hp (Or.inl q)), fun p hp hn => ?_⟩
  · rcases hp with hp | hp
    · exact ⟨Or.inl (h1 p hp).1, (h1 p hp).2⟩
    · exact ⟨Or.inr hp, h2 p (hD p hp)⟩
  · have hp2 : D p := hp.elim id (fun q => absurd (Or.inr q) hn)
    obtain ⟨g1, g2, g3, g4⟩ := h3 p hp2 (fun q => hn (Or.inl q))
    exact ⟨Or.inl g1, fun q => q.elim g2 (fun r => hD _ r g1), g3, g4⟩
/-- what holds of a drawing on its way -/
def dI (s : drS) : Prop := s.2.1 ≤ 24 ∧ s.2.2.1 ≤ 24 ∧ s.1 ≤ 24 ∧ pI (dD s.2.1 s.2.2.1) (fun p => ∃ k, k < 4 * s.1 ∧ s.2.2.2.1 k = p) s.2.2.2.2.2.1 ∧ (∀ j k, j < 4 * s.1 → k < 4 * s.1 → s.2.2.2.1 j = s.2.2.2.1 k → j = k) ∧ (∀ k, k < s.1 → s.2.2.2.2.1 k ≤ s.2.1) ∧ (∀ b, b < s.2.1 → s.2.2.2.2.2.2.1 b = 3) ∧ (∀ b, b < s.2.2.1 → s.2.2.2.2.2.2.1 (24 + b) = 1 ∨ s.2.2.2.2.2.2.1 (24 + b) = 2) ∧ ∀ b, b < s.2.1 → s.2.2.2.2.2.2.2 b = 0 ∨ s.2.2.2.2.2.2.2 b = 1
theorem dI.end_lt {s : drS} (h : dI s) {k : Nat} (hk : k < 4 * s.1) : dD s.2.1 s.2.2.1 (s.2.2.2.1 k) := (h.2.2.2.1.2.1 _ ⟨k, hk, rfl⟩).1
theorem dD_lt {c l p : Nat} (h : dD c l p) (hc : c ≤ 24) (hl : l ≤ 24) : p < 192 := by
  unfold dD at h
  omega
theorem dI_0 : dI dr0 := by
  refine ⟨by decide, by decide, by decide, ⟨fun p hp => ?_, fun p hp => ?_, fun p _ => rfl, fun p hp _ => ?_⟩, fun j k hj => ?_, fun k hk => ?_, fun b hb => ?_, fun b hb => ?_, fun b hb => ?_⟩
  · unfold dD at hp
    simp only [dr0] at hp
    omega
  · obtain ⟨k, hk, _⟩ := hp
    exact absurd hk (Nat.not_lt_zero _)
  · unfold dD at hp
    simp only [dr0] at hp
    omega
  · exact absurd hj (Nat.not_lt_zero _)
  · exact absurd hk (Nat.not_lt_zero _)
  · exact absurd hb (Nat.not_lt_zero _)
  · exact absurd hb (Nat.not_lt_zero _)
  · exact absurd hb (Nat.not_lt_zero _)
