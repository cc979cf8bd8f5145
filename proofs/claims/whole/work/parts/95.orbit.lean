/-! walks: two ways of pairing, taken in turn -/
theorem inj_le {w n : Nat} {f : Nat → Nat} (h1 : ∀ i, i < w → f i < n) (h2 : ∀ i j, i < w → j < w → f i = f j → i = j) : w ≤ n := by
  apply Classical.byContradiction
  intro hn
  obtain ⟨K, hK, e⟩ := php n f (fun i hi => h1 i (by omega)) (fun i j hi hj => h2 i j (by omega) (by omega)) (f n) (h1 n (by omega))
  have := h2 K n (by omega) (by omega) e
  omega
def orb (W P : Nat → Nat) (b : Nat) : Nat → Nat
  | 0 => b
  | i + 1 => P (W (orb W P b i))
/-- W and P pair all points of D -/
def prs (D : Nat → Prop) (W P : Nat → Nat) : Prop := (∀ p, D p → p < 192) ∧ (∀ p, D p → D (W p) ∧ W (W p) = p ∧ W p ≠ p) ∧ ∀ p, D p → D (P p) ∧ P (P p) = p ∧ P p ≠ p
def isPer (W P : Nat → Nat) (b r : Nat) : Prop := 1 ≤ r ∧ r ≤ 192 ∧ orb W P b r = b ∧ ∀ i, 1 ≤ i → i < r → orb W P b i ≠ b
section ORB
variable {D : Nat → Prop} {W P : Nat → Nat} {b : Nat}
theorem orb_D (h : prs D W P) (hb : D b) : ∀ i, D (orb W P b i) := by
  intro i
  induction i with
  | zero => exact hb
  | succ i ih => exact (h.2.2 _ (h.2.1 _ ih).1).1
theorem orb_back (h : prs D W P) (hb : D b) (i : Nat) : W (P (orb W P b (i + 1))) = orb W P b i := by
  have h1 := h.2.1 _ (orb_D h hb i)
  show W (P (P (W (orb W P b i)))) = _
  rw [(h.2.2 _ h1.1).2.1, h1.2.1]
theorem orb_cancel (h : prs D W P) (hb : D b) : ∀ i k, orb W P b i = orb W P b (i + k) → orb W P b k = b := by
  intro i
  induction i with
  | zero => intro k e; rw [Nat.zero_add] at e; exact e.symm
  | succ i ih =>
    intro k e
    refine ih k ?_
    rw [← orb_back h hb i, e, show i + 1 + k = (i + k) + 1 by omega, orb_back h hb (i + k)]
theorem orb_least {p : Nat → Prop} : ∀ n, p n → ∃ r, r ≤ n ∧ p r ∧ ∀ i, i < r → ¬ p i := by
  intro n
  induction n using Nat.strongRecOn with
  | ind n ih =>
    intro hp
    by_cases hx : ∃ i, i < n ∧ p i
    · obtain ⟨i, hi, hpi⟩ := hx
      obtain ⟨r, h1, h2, h3⟩ := ih i hi hpi
      exact ⟨r, by omega, h2, h3⟩
    · exact ⟨n, Nat.le_refl _, hp, fun i hi q => hx ⟨i, hi, q⟩⟩
theorem per_ex (h : prs D W P) (hb : D b) : ∃ r, isPer W P b r := by
  have hx : ∃ i j, i < j ∧ j ≤ 192 ∧ orb W P b i = orb W P b j := by
    apply Classical.byContradiction
    intro hn
    have := inj_le (w := 193) (n := 192) (f := orb W P b) (fun i _ => h.1 _ (orb_D h hb i)) (fun i j hi hj e => by
      apply Classical.byContradiction
      intro hij
      by_cases hlt : i < j
      · exact hn ⟨i, j, hlt, by omega, e⟩
      · exact hn ⟨j, i, by omega, by omega, e.symm⟩)
    omega
  obtain ⟨i, j, hij, hj, e⟩ := hx
  have e2 := orb_cancel h hb i (j - i) (by rw [show i + (j - i) = j by omega]; exact e)
  obtain ⟨r, h1, h2, h3⟩ := orb_least (p := fun r => 1 ≤ r ∧ orb W P b r = b) (j - i) ⟨by omega, e2⟩
  exact ⟨r, h2.1, by omega, h2.2, fun i hi hr q => h3 i hr ⟨hi, q⟩⟩
theorem orb_ne (h : prs D W P) (hb : D b) {r : Nat} (hr : isPer W P b r) : ∀ i j, i < j → j < r → orb W P b i ≠ orb W P b j := fun i j hij hj e => by
  have e2 := orb_cancel h hb i (j - i) (by rw [show i + (j - i) = j by omega]; exact e)
  exact hr.2.2.2 (j - i) (by omega) (by omega) e2
theorem orb_W (h : prs D W P) (hb : D b) : ∀ k i, W (orb W P b i) ≠ orb W P b (i + k) := by
  intro k
  induction k using Nat.strongRecOn with
  | ind k ih =>
    intro i e
    have hi := orb_D h hb i
    match k, ih, e with
    | 0, _, e => exact (h.2.1 _ hi).2.2 e
    | 1, _, e => exact (h.2.2 _ (h.2.1 _ hi).1).2.2 e.symm
    | k + 2, ih, e =>
      refine ih k (by omega) (i + 1) ?_
      have e1 : orb W P b (i + 1) = W (orb W P b (i + 1 + k)) := by
        show P (W (orb W P b i)) = _
        rw [e, show i + (k + 2) = (i + 1 + k) + 1 by omega]
        show P (P (W (orb W P b (i + 1 + k)))) = _
        exact (h.2.2 _ (h.2.1 _ (orb_D h hb _)).1).2.1
      rw [e1]
      exact (h.2.1 _ (orb_D h hb _)).2.1
theorem orb_WW (h : prs D W P) (hb : D b) (i j : Nat) : W (orb W P b i) ≠ orb W P b j := by
  intro e
  by_cases hij : i ≤ j
  · refine orb_W h hb (j - i) i ?_
    rw [show i + (j - i) = j by omega]
    exact e
  · refine orb_W h hb (i - j) j ?_
    rw [show j + (i - j) = i by omega, ← e]
    exact (h.2.1 _ (orb_D h hb i)).2.1
end ORB
noncomputable def per (W P : Nat → Nat) (b : Nat) : Nat := Classical.epsilon (isPer W P b)
theorem per_is {D : Nat → Prop} {W P : Nat → Nat} {b : Nat} (h : prs D W P) (hb : D b) : isPer W P b (per W P b) := Classical.epsilon_spec (per_ex h hb)
/-! what is noted on a walk: walked, passes, homes, east, seen -/
abbrev wkS : Type := Nat × (Nat → Nat) × (Nat → Nat) × (Nat → Nat) × (Nat → Nat)
def wW (mk : Nat → Nat) (p : Nat) : Nat := 4 * (p / 4) + ((p % 4) ^^^ mk (p / 4))
def wPass (po : Nat → Nat) (p : Nat) : Nat := 2 * (p / 4) + (if (p % 4 = 0 ∨ p % 4 = 3) ↔ po (p / 4) = 1 then 0 else 1)
def wEntry (po : Nat → Nat) (k : Nat) : Nat := 4 * (k / 2) + (if k % 2 = 0 ↔ po (k / 2) = 1 then 0 else 2)
def wNote (mk po : Nat → Nat) (K : Nat) (s : wkS) (p : Nat) : wkS := if p < 96 then (s.1 + 1, upN s.2.1 s.1 (wPass po p), upN s.2.2.1 (wPass po p) K, upN s.2.2.2.1 (wPass po p) (1 - p % 2), upN (upN s.2.2.2.2 p 1) (wW mk p) 1) else (s.1, s.2.1, s.2.2.1, s.2.2.2.1, upN (upN s.2.2.2.2 p 1) (wW mk p) 1)
def wRun (mk po P : Nat → Nat) (K : Nat) (s : wkS) (b : Nat) : Nat → wkS
  | 0 => s
  | j + 1 => wNote mk po K (wRun mk po P K s b j) (orb (wW mk) P b j)
theorem xor_k : ∀ q : Fin 4, ∀ k : Fin 4, (q.val ^^^ k.val) < 4 ∧ ((q.val ^^^ k.val) ^^^ k.val) = q.val ∧ (k.val ≠ 0 → (q.val ^^^ k.val) ≠ q.val) ∧ (k.val = 3 → (q.val ^^^ k.val) = 3 - q.val) := by decide +kernel
theorem wW_box {mk : Nat → Nat} {p : Nat} (h : mk (p / 4) < 4) : wW mk p / 4 = p / 4 ∧ wW mk p % 4 = (p % 4) ^^^ mk (p / 4) := by
  have := (xor_k ⟨p % 4, by omega⟩ ⟨mk (p / 4), h⟩).1
  unfold wW
  simp only at this
  omega
theorem wW_inv {mk : Nat → Nat} {p : Nat} (h : mk (p / 4) < 4) (h0 : mk (p / 4) ≠ 0) : wW mk (wW mk p) = p ∧ wW mk p ≠ p := by
  have hx := xor_k ⟨p % 4, by omega⟩ ⟨mk (p / 4), h⟩
  simp only at hx
  obtain ⟨b1, b2⟩ := wW_box h
  constructor
  · have : wW mk (wW mk p) = 4 * (wW mk p / 4) + ((wW mk p % 4) ^^^ mk (wW mk p / 4)) := rfl
    rw [this, b1, b2, hx.2.1]
    omega
  · intro e
    rw [e] at b2
    exact hx.2.2.1 h0 b2.symm
theorem prs_of {s : drS} {side : Nat} (h : dI s) (hs : s.1 = 1) : prs (dD s.2.1 s.2.2.1) (wW s.2.2.2.2.2.2.1) (drEnd s side).2.2.2.2.2.1 := by
  have hp := dI_end side h hs
  obtain ⟨a1, a2, a3, a4, a5, a6, a7, a8, a9⟩ := h
  refine ⟨hp.1, fun p hD => ?_, fun p hD => ⟨(hp.2.2.2 p hD (fun q => q)).1, (hp.2.2.2 p hD (fun q => q)).2.2.1, (hp.2.2.2 p hD (fun q => q)).2.2.2⟩⟩
  have hm : s.2.2.2.2.2.2.1 (p / 4) < 4 ∧ s.2.2.2.2.2.2.1 (p / 4) ≠ 0 := by
    unfold dD at hD
    rcases hD with hD | hD
    · rw [a7 (p / 4) (by omega)]
      decide
    · have := a8 (p / 4 - 24) (by omega)
      rw [show 24 + (p / 4 - 24) = p / 4 by omega] at this
      omega
  obtain ⟨b1, b2⟩ := wW_box hm.1
  obtain ⟨i1, i2⟩ := wW_inv hm.1 hm.2
  refine ⟨?_, i1, i2⟩
  unfold dD at hD ⊢
  omega
