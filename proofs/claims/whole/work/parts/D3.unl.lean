/-! how many changes unlink a name -/
def tm (P Q : Int) (k : Nat) : Int := (rst 3 P Q k).1 / (rst 3 P Q k).2
noncomputable def tmN (P Q : Int) : Nat := Classical.epsilon (fun M => (rst 3 P Q M).2 = 0 ∧ ∀ j, j < M → (rst 3 P Q j).2 ≠ 0)
def chg (t : Nat → Int) (k i : Nat) : Int := if i = k then t i - 2 else t i
def ctF (b : Nat → Int) (M : Nat) : Nat → Int × Int
  | 0 => (1, 0)
  | j + 1 => (b (M - 1 - j) * (ctF b M j).1 + (ctF b M j).2, (ctF b M j).1)
noncomputable def nxt (P Q : Int) (k : Nat) : Int × Int := nm (ctF (chg (tm P Q) k) (tmN P Q) (tmN P Q)).1 (ctF (chg (tm P Q) k) (tmN P Q) (tmN P Q)).2
def szN (P Q : Int) : Nat := if P < 2 then 0 else eS P.toNat Q.toNat
noncomputable def bstG (U : Int → Int → Int) (P Q : Int) : Nat → Int × Int
  | 0 => (-1, -1)
  | k + 1 => if szN (nxt P Q k).1 (nxt P Q k).2 < szN P Q then (if (bstG U P Q k).1 < 0 ∨ U (nxt P Q k).1 (nxt P Q k).2 < (bstG U P Q k).1 then (U (nxt P Q k).1 (nxt P Q k).2, (k : Int)) else bstG U P Q k) else bstG U P Q k
noncomputable def unl : Nat → Int → Int → Int
  | 0, _, _ => 0
  | f + 1, P, Q => if P < 2 then 0 else (bstG (unl f) P Q (tmN P Q)).1 + 1
/-- a name above 1, with its terms -/
def nmT (P Q : Int) : Prop := 2 ≤ P ∧ P ≤ 16777216 ∧ isNm P Q
theorem nmT.bd {P Q : Int} (h : nmT P Q) : 0 < Q ∧ Q < P := h.2.2.bd.2.2.1 h.1
theorem tmN_is {P Q : Int} (h : nmT P Q) : 1 ≤ tmN P Q ∧ tmN P Q ≤ 47 ∧ (rst 3 P Q (tmN P Q)).2 = 0 ∧ ∀ j, j < tmN P Q → (rst 3 P Q j).2 ≠ 0 := by
  have hb := h.bd
  obtain ⟨N, n1, n2, n3, n4⟩ := rst_ex (u := P) (v := Q) (by have := h.1; omega) hb.1 (by have := h.2.1; omega)
  have sp : (rst 3 P Q (tmN P Q)).2 = 0 ∧ ∀ j, j < tmN P Q → (rst 3 P Q j).2 ≠ 0 := Classical.epsilon_spec (p := fun M => (rst 3 P Q M).2 = 0 ∧ ∀ j, j < M → (rst 3 P Q j).2 ≠ 0) ⟨N, n3, n4⟩
  have e := rst_uniq sp.1 sp.2 n3 n4
  rw [e]
  exact ⟨n1, n2, n3, n4⟩
theorem rst_gt {P Q : Int} (h : nmT P Q) : ∀ k, k ≤ tmN P Q → 0 ≤ (rst 3 P Q k).2 ∧ (rst 3 P Q k).2 < (rst 3 P Q k).1 := by
  have hb := h.bd
  obtain ⟨m1, m2, m3, m4⟩ := tmN_is h
  intro k
  induction k with
  | zero =>
    intro _
    show 0 ≤ Q ∧ Q < P
    omega
  | succ k ih =>
    intro hk
    have i1 := ih (by omega)
    obtain ⟨f1, f2, f3⟩ := rst_floor (u := P) (v := Q) (by omega) (by omega) k (fun j hj => m4 j (by omega))
    have hk0 := m4 k (by omega)
    rw [f3 hk0]
    exact ⟨Int.emod_nonneg _ hk0, Int.emod_lt_of_pos _ (by omega)⟩
theorem tm_ge {P Q : Int} (h : nmT P Q) {k : Nat} (hk : k < tmN P Q) : 1 ≤ tm P Q k ∧ (k + 1 = tmN P Q → 2 ≤ tm P Q k) := by
  obtain ⟨m1, m2, m3, m4⟩ := tmN_is h
  have g := rst_gt h k (by omega)
  have hk0 := m4 k hk
  have hb := h.bd
  obtain ⟨f1, f2, f3⟩ := rst_floor (u := P) (v := Q) (by omega) (by omega) k (fun j hj => m4 j (by omega))
  have f4 := f3 hk0
  unfold tm
  have e := Int.emod_add_mul_ediv (rst 3 P Q k).1 (rst 3 P Q k).2
  have hlast : k + 1 = tmN P Q → (rst 3 P Q k).1 % (rst 3 P Q k).2 = 0 := by
    intro q
    rw [← q] at m3
    rw [f4] at m3
    exact m3
  generalize (rst 3 P Q k).1 = x at *
  generalize (rst 3 P Q k).2 = y at *
  have hm := Int.emod_lt_of_pos x (show 0 < y by omega)
  constructor
  · apply Classical.byContradiction
    intro hn
    have := Int.mul_le_mul_of_nonneg_left (show x / y ≤ 0 by omega) (show 0 ≤ y by omega)
    omega
  · intro q
    have h0 := hlast q
    apply Classical.byContradiction
    intro hn
    have := Int.mul_le_mul_of_nonneg_left (show x / y ≤ 1 by omega) (show 0 ≤ y by omega)
    omega
theorem szS_sN {P Q : Int} (h : nmT P Q) : ∀ k, k ≤ tmN P Q → szS P Q k = (sN (fun i => (tm P Q i).natAbs) k : Nat) := by
  intro k
  induction k with
  | zero => exact fun _ => rfl
  | succ k ih =>
    intro hk
    have h1 := (tm_ge h (show k < tmN P Q by omega)).1
    show szS P Q k + tm P Q k = ((sN (fun i => (tm P Q i).natAbs) k + (tm P Q k).natAbs : Nat) : Int)
    rw [ih (by omega)]
    omega
theorem szN_is {P Q : Int} (h : nmT P Q) : szN P Q = sN (fun i => (tm P Q i).natAbs) (tmN P Q) ∧ szS P Q (tmN P Q) = (szN P Q : Int) := by
  obtain ⟨m1, m2, m3, m4⟩ := tmN_is h
  have hb := h.bd
  have e1 := szS_end (u := P) (v := Q) (by omega) (by omega) m3 m4
  have e2 := szS_sN h _ (Nat.le_refl _)
  have e3 : szN P Q = eS P.toNat Q.toNat := if_neg (by have := h.1; omega)
  constructor
  · omega
  · omega
theorem sN_ge {f : Nat → Nat} : ∀ n, (∀ i, i < n → 1 ≤ f i) → n ≤ sN f n := by
  intro n
  induction n with
  | zero => exact fun _ => Nat.le_refl _
  | succ n ih =>
    intro h
    have h1 := ih (fun i hi => h i (by omega))
    have h2 := h n (by omega)
    show n + 1 ≤ sN f n + f n
    omega
theorem tmN_le {P Q : Int} (h : nmT P Q) : tmN P Q ≤ szN P Q := by
  rw [(szN_is h).1]
  exact sN_ge _ (fun i hi => by have := (tm_ge h hi).1; omega)
theorem tm_le {P Q : Int} (h : nmT P Q) {k : Nat} (hk : k < tmN P Q) : tm P Q k ≤ szN P Q := by
  have h1 := (tm_ge h hk).1
  have : ∀ n, k < n → (tm P Q k).natAbs ≤ sN (fun i => (tm P Q i).natAbs) n := by
    intro n
    induction n with
    | zero => exact fun h => absurd h (Nat.not_lt_zero _)
    | succ n ih =>
      intro hkn
      show _ ≤ sN (fun i => (tm P Q i).natAbs) n + (tm P Q n).natAbs
      by_cases q : k = n
      · rw [q]; exact Nat.le_add_left _ _
      · exact Nat.le_trans (ih (by omega)) (Nat.le_add_right _ _)
  have h2 := this _ hk
  rw [← (szN_is h).1] at h2
  omega
/-! continuants -/
theorem ctF_cop (b : Nat → Int) (M : Nat) : ∀ j, Int.gcd (ctF b M j).1 (ctF b M j).2 = 1 := by
  intro j
  induction j with
  | zero =>
    show Int.gcd 1 0 = 1
    decide
  | succ j ih =>
    show Int.gcd (b (M - 1 - j) * (ctF b M j).1 + (ctF b M j).2) (ctF b M j).1 = 1
    rw [Int.gcd_comm, Int.add_comm, Int.mul_comm, Int.gcd_add_mul_left_right]
    exact ih
theorem ctF_sz (b : Nat → Int) (M : Nat) : ∀ j, j ≤ M → eS (ctF b M j).1.natAbs (ctF b M j).2.natAbs + sN (fun i => (b i).natAbs) (M - j) ≤ sN (fun i => (b i).natAbs) M ∧ (ctF b M j).1.natAbs + (ctF b M j).2.natAbs ≤ 2 ^ (sN (fun i => (b i).natAbs) M - sN (fun i => (b i).natAbs) (M - j)) := by
  intro j
  induction j with
  | zero =>
    intro _
    constructor
    · show eS 1 0 + sN _ (M - 0) ≤ _
      rw [eS_0, Nat.sub_zero]
      omega
    · rw [Nat.sub_zero, Nat.sub_self]
      exact Nat.le_refl _
  | succ j ih =>
    intro hj
    obtain ⟨i1, i2⟩ := ih (by omega)
    have e : sN (fun i => (b i).natAbs) (M - j) = sN (fun i => (b i).natAbs) (M - (j + 1)) + (b (M - 1 - j)).natAbs := by
      rw [show M - j = (M - (j + 1)) + 1 by omega]
      show sN _ (M - (j + 1)) + (b (M - (j + 1))).natAbs = _
      rw [show M - (j + 1) = M - 1 - j by omega]
    show eS (b (M - 1 - j) * (ctF b M j).1 + (ctF b M j).2).natAbs (ctF b M j).1.natAbs + _ ≤ _ ∧ (b (M - 1 - j) * (ctF b M j).1 + (ctF b M j).2).natAbs + (ctF b M j).1.natAbs ≤ _
    generalize (ctF b M j).1 = u at *
    generalize (ctF b M j).2 = v at *
    generalize b (M - 1 - j) = t at *
    constructor
    · have := eS_upk (x := v) (y := u) (k := t)
      rw [Int.add_comm v] at this
      rw [eS_sw v.natAbs] at this
      omega
    · have p1 := Int.natAbs_add_le (t * u) v
      rw [Int.natAbs_mul] at p1
      have p2 := two_pow_le t.natAbs
      have p3 : (t.natAbs + 1) * (u.natAbs + v.natAbs) ≤ 2 ^ t.natAbs * 2 ^ (sN (fun i => (b i).natAbs) M - sN (fun i => (b i).natAbs) (M - j)) := Nat.mul_le_mul p2 i2
      rw [← Nat.pow_add, show t.natAbs + (sN (fun i => (b i).natAbs) M - sN (fun i => (b i).natAbs) (M - j)) = sN (fun i => (b i).natAbs) M - sN (fun i => (b i).natAbs) (M - (j + 1)) by omega] at p3
      rw [Nat.add_mul, Nat.mul_add, Nat.one_mul] at p3
      omega
theorem chg_le {P Q : Int} (h : nmT P Q) {k i : Nat} (hi : i < tmN P Q) : (chg (tm P Q) k i).natAbs ≤ (tm P Q i).natAbs := by
  have := (tm_ge h hi).1
  unfold chg
  split <;> omega
theorem sN_chg {P Q : Int} (h : nmT P Q) (k : Nat) : sN (fun i => (chg (tm P Q) k i).natAbs) (tmN P Q) ≤ szN P Q := by
  rw [(szN_is h).1]
  exact sN_le _ (fun i hi => chg_le h hi)
theorem sN_last {P Q : Int} (h : nmT P Q) : sN (fun i => (chg (tm P Q) (tmN P Q - 1) i).natAbs) (tmN P Q) + 2 ≤ szN P Q := by
  rw [(szN_is h).1]
  obtain ⟨m1, m2, m3, m4⟩ := tmN_is h
  obtain ⟨N, hN⟩ : ∃ N, tmN P Q = N + 1 := ⟨tmN P Q - 1, by omega⟩
  have h2 := (tm_ge h (show N < tmN P Q by omega)).2 (by omega)
  have hle : ∀ i, i < N → (chg (tm P Q) (tmN P Q - 1) i).natAbs ≤ (tm P Q i).natAbs := fun i hi => chg_le h (by omega)
  rw [hN] at *
  show sN (fun i => (chg (tm P Q) (N + 1 - 1) i).natAbs) N + (chg (tm P Q) (N + 1 - 1) N).natAbs + 2 ≤ sN (fun i => (tm P Q i).natAbs) N + (tm P Q N).natAbs
  have h3 := sN_le N hle
  have e : chg (tm P Q) (N + 1 - 1) N = tm P Q N - 2 := if_pos rfl
  omega
theorem nxt_is {P Q : Int} (h : nmT P Q) (hs : szN P Q ≤ 12) (k : Nat) : isNm (nxt P Q k).1 (nxt P Q k).2 ∧ (nxt P Q k).1 ≤ 4096 ∧ (ctF (chg (tm P Q) k) (tmN P Q) (tmN P Q)).1.natAbs ≤ 4096 ∧ (ctF (chg (tm P Q) k) (tmN P Q) (tmN P Q)).2.natAbs ≤ 4096 := by
  have hg := ctF_cop (chg (tm P Q) k) (tmN P Q) (tmN P Q)
  have hb := (ctF_sz (chg (tm P Q) k) (tmN P Q) (tmN P Q) (Nat.le_refl _)).2
  have hc := sN_chg h k
  have hp : 2 ^ (sN (fun i => (chg (tm P Q) k i).natAbs) (tmN P Q) - sN (fun i => (chg (tm P Q) k i).natAbs) (tmN P Q - tmN P Q)) ≤ 2 ^ 12 := Nat.pow_le_pow_right (by decide) (by omega)
  have h12 : (2 : Nat) ^ 12 = 4096 := by decide
  unfold nxt
  rw [nm_fst]
  have := nm_is hg
  rw [nm_fst] at this
  exact ⟨this, by omega, by omega, by omega⟩
theorem nxt_T {P Q : Int} (h : nmT P Q) (hs : szN P Q ≤ 12) {k : Nat} (h2 : 2 ≤ (nxt P Q k).1) : nmT (nxt P Q k).1 (nxt P Q k).2 := by
  obtain ⟨a, b, _⟩ := nxt_is h hs k
  exact ⟨h2, by omega, a⟩
theorem szN_2 {P Q : Int} (h : nmT P Q) : 2 ≤ szN P Q := by
  have h1 := sN_last h
  omega
theorem nxt_sz {P Q : Int} (k : Nat) : szN (nxt P Q k).1 (nxt P Q k).2 ≤ sN (fun i => (chg (tm P Q) k i).natAbs) (tmN P Q) := by
  have hg := ctF_cop (chg (tm P Q) k) (tmN P Q) (tmN P Q)
  have hb := (ctF_sz (chg (tm P Q) k) (tmN P Q) (tmN P Q) (Nat.le_refl _)).1
  unfold szN
  split
  · exact Nat.zero_le _
  · rename_i hn
    unfold nxt at *
    have := nm_sz hg (by rw [nm_fst] at hn; omega)
    omega
/-- the last place always serves -/
theorem nxt_last {P Q : Int} (h : nmT P Q) : szN (nxt P Q (tmN P Q - 1)).1 (nxt P Q (tmN P Q - 1)).2 < szN P Q := by
  have h1 := nxt_sz (P := P) (Q := Q) (tmN P Q - 1)
  have h2 := sN_last h
  omega
theorem nxt_small {P Q : Int} (h : nmT P Q) (hs : szN P Q ≤ 3) {k : Nat} (hk : k < tmN P Q) : (nxt P Q k).1 < 2 := by
  have e0 : (nxt P Q k).1 = ((ctF (chg (tm P Q) k) (tmN P Q) (tmN P Q)).1.natAbs : Int) := nm_fst _ _
  rw [e0]
  obtain ⟨m1, m2, m3, m4⟩ := tmN_is h
  have e := (szN_is h).1
  have hN : tmN P Q = 1 ∨ tmN P Q = 2 := by
    apply Classical.byContradiction
    intro hn
    have h3 := sN_last h
    have h4 := sN_chg h (tmN P Q)
    have hle := tmN_le h
    have g0 := (tm_ge h (show 0 < tmN P Q by omega)).1
    have g1 := (tm_ge h (show 1 < tmN P Q by omega)).1
    have g2 := (tm_ge h (show 2 < tmN P Q by omega))
    have hN3 : tmN P Q = 3 := by omega
    rw [hN3] at e
    have e' : szN P Q = 0 + (tm P Q 0).natAbs + (tm P Q 1).natAbs + (tm P Q 2).natAbs := e
    have g3 := g2.2 (by omega)
    omega
  rcases hN with hN | hN
  · rw [hN] at e hk ⊢
    have e' : szN P Q = 0 + (tm P Q 0).natAbs := e
    have g := (tm_ge h (show 0 < tmN P Q by omega))
    have g2 := g.2 (by omega)
    have hk0 : k = 0 := by omega
    subst hk0
    show (((tm P Q 0 - 2) * 1 + 0).natAbs : Int) < 2
    omega
  · rw [hN] at e hk ⊢
    have e' : szN P Q = 0 + (tm P Q 0).natAbs + (tm P Q 1).natAbs := e
    have g0 := (tm_ge h (show 0 < tmN P Q by omega)).1
    have g1 := (tm_ge h (show 1 < tmN P Q by omega)).2 (by omega)
    have t0 : tm P Q 0 = 1 := by omega
    have t1 : tm P Q 1 = 2 := by omega
    have hk0 : k = 0 ∨ k = 1 := by omega
    rcases hk0 with rfl | rfl
    · show (((tm P Q 0 - 2) * (tm P Q 1 * 1 + 0) + 1).natAbs : Int) < 2
      rw [t0, t1]
      decide
    · show (((tm P Q 0) * ((tm P Q 1 - 2) * 1 + 0) + 1).natAbs : Int) < 2
      rw [t0, t1]
      decide
/-! the best -/
def lss (P Q : Int) (k : Nat) : Prop := szN (nxt P Q k).1 (nxt P Q k).2 < szN P Q
theorem bst_is {U : Int → Int → Int} (hU : ∀ P Q, 0 ≤ U P Q) (P Q : Int) : ∀ n, ((bstG U P Q n = (-1, -1)) ∧ ∀ k, k < n → ¬ lss P Q k) ∨ (0 ≤ (bstG U P Q n).1 ∧ ∃ k0, k0 < n ∧ (bstG U P Q n).2 = (k0 : Int) ∧ lss P Q k0 ∧ U (nxt P Q k0).1 (nxt P Q k0).2 = (bstG U P Q n).1 ∧ (∀ k, k < n → lss P Q k → (bstG U P Q n).1 ≤ U (nxt P Q k).1 (nxt P Q k).2) ∧ ∀ k, k < k0 → lss P Q k → (bstG U P Q n).1 < U (nxt P Q k).1 (nxt P Q k).2) := by
  intro n
  induction n with
  | zero => exact Or.inl ⟨rfl, fun k hk => absurd hk (Nat.not_lt_zero _)⟩
  | succ n ih =>
    have e : bstG U P Q (n + 1) = if szN (nxt P Q n).1 (nxt P Q n).2 < szN P Q then (if (bstG U P Q n).1 < 0 ∨ U (nxt P Q n).1 (nxt P Q n).2 < (bstG U P Q n).1 then (U (nxt P Q n).1 (nxt P Q n).2, (n : Int)) else bstG U P Q n) else bstG U P Q n := rfl
    by_cases hl : szN (nxt P Q n).1 (nxt P Q n).2 < szN P Q
    · rw [if_pos hl] at e
      have hU0 := hU (nxt P Q n).1 (nxt P Q n).2
      by_cases hb : (bstG U P Q n).1 < 0 ∨ U (nxt P Q n).1 (nxt P Q n).2 < (bstG U P Q n).1
      · rw [if_pos hb] at e
        rw [e]
        refine Or.inr ⟨hU0, n, by omega, rfl, hl, rfl, fun k hk hlk => ?_, fun k hk hlk => ?_⟩
        · show U (nxt P Q n).1 (nxt P Q n).2 ≤ _
          by_cases hkn : k = n
          · rw [hkn]; exact Int.le_refl _
          · rcases ih with ⟨_, i2⟩ | ⟨i0, _, _, _, _, _, i5, _⟩
            · exact absurd hlk (i2 k (by omega))
            · have := i5 k (by omega) hlk
              omega
        · show U (nxt P Q n).1 (nxt P Q n).2 < _
          rcases ih with ⟨_, i2⟩ | ⟨i0, _, _, _, _, _, i5, _⟩
          · exact absurd hlk (i2 k hk)
          · have := i5 k hk hlk
            omega
      · rw [if_neg hb] at e
        rw [e]
        rcases ih with ⟨i1, i2⟩ | ⟨i0, k0, i1, i2, i3, i4, i5, i6⟩
        · rw [i1] at hb
          exact absurd (Or.inl (by decide)) hb
        · refine Or.inr ⟨i0, k0, by omega, i2, i3, i4, fun k hk hlk => ?_, i6⟩
          by_cases hkn : k = n
          · rw [hkn]; omega
          · exact i5 k (by omega) hlk
    · rw [if_neg hl] at e
      rw [e]
      rcases ih with ⟨i1, i2⟩ | ⟨i0, k0, i1, i2, i3, i4, i5, i6⟩
      · refine Or.inl ⟨i1, fun k hk => ?_⟩
        by_cases hkn : k = n
        · rw [hkn]; exact hl
        · exact i2 k (by omega)
      · refine Or.inr ⟨i0, k0, by omega, i2, i3, i4, fun k hk hlk => ?_, i6⟩
        by_cases hkn : k = n
        · rw [hkn] at hlk; exact absurd hlk hl
        · exact i5 k (by omega) hlk
theorem unl_nn : ∀ f P Q, 0 ≤ unl f P Q := by
  intro f
  induction f with
  | zero => exact fun _ _ => Int.le_refl _
  | succ f ih =>
    intro P Q
    show 0 ≤ if P < 2 then 0 else (bstG (unl f) P Q (tmN P Q)).1 + 1
    split
    · exact Int.le_refl _
    · rcases bst_is ih P Q (tmN P Q) with ⟨h, _⟩ | ⟨h, _⟩
      · rw [h]; decide
      · omega
theorem unl_low {f : Nat} {P Q : Int} (h : P < 2) : unl f P Q = 0 := by
  cases f with
  | zero => rfl
  | succ f => exact if_pos h
/-- the least number, and the first place that gives it -/
theorem unl_is {f : Nat} {P Q : Int} (h : nmT P Q) : ∃ k0, k0 < tmN P Q ∧ (bstG (unl f) P Q (tmN P Q)).2 = (k0 : Int) ∧ lss P Q k0 ∧ unl (f + 1) P Q = unl f (nxt P Q k0).1 (nxt P Q k0).2 + 1 ∧ (∀ k, k < tmN P Q → lss P Q k → unl (f + 1) P Q ≤ unl f (nxt P Q k).1 (nxt P Q k).2 + 1) ∧ ∀ k, k < k0 → lss P Q k → unl (f + 1) P Q < unl f (nxt P Q k).1 (nxt P Q k).2 + 1 := by
  have e : unl (f + 1) P Q = (bstG (unl f) P Q (tmN P Q)).1 + 1 := if_neg (by have := h.1; omega)
  obtain ⟨m1, _⟩ := tmN_is h
  rcases bst_is (unl_nn f) P Q (tmN P Q) with ⟨_, i2⟩ | ⟨i0, k0, i1, i2, i3, i4, i5, i6⟩
  · exact absurd (nxt_last h) (i2 _ (by omega))
  · refine ⟨k0, i1, i2, i3, by rw [e, i4], fun k hk hl => ?_, fun k hk hl => ?_⟩
    · have := i5 k hk hl
      omega
    · have := i6 k hk hl
      omega
theorem unl_le : ∀ f P Q, (P < 2 ∨ nmT P Q ∧ szN P Q ≤ 12) → unl f P Q ≤ szN P Q := by
  intro f
  induction f with
  | zero => exact fun P Q _ => Int.natCast_nonneg _
  | succ f ih =>
    intro P Q h
    rcases h with h | ⟨h, hs⟩
    · rw [unl_low h]
      exact Int.natCast_nonneg _
    · obtain ⟨k0, i1, i2, i3, i4, i5, i6⟩ := unl_is (f := f) h
      have hl := i3
      unfold lss at hl
      have := ih (nxt P Q k0).1 (nxt P Q k0).2 (by
        by_cases h2 : (nxt P Q k0).1 < 2
        · exact Or.inl h2
        · exact Or.inr ⟨nxt_T h hs (by omega), by omega⟩)
      omega
