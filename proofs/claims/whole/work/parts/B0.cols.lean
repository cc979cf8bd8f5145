/-! where a pass stands, and which columns are its -/
section COL
variable {c K Z w : Nat} {po st ps ho ea : Nat → Nat}
theorem blk {f : Nat → Nat} : ∀ K i, f 0 ≤ i → i < f K → ∃ k, k < K ∧ f k ≤ i ∧ i < f (k + 1) := by
  intro K
  induction K with
  | zero => intro i h1 h2; omega
  | succ K ih =>
    intro i h1 h2
    by_cases h3 : i < f K
    · obtain ⟨k, a, b⟩ := ih i h1 h3
      exact ⟨k, by omega, b⟩
    · exact ⟨K, by omega, by omega, h2⟩
theorem pos_ex (hF : rF c K Z w po st ps ho ea) {q : Nat} (hq : q < 2 * c) : ∃ kx : Nat × Nat, kx.1 < K ∧ st kx.1 + kx.2 < st (kx.1 + 1) ∧ ps (st kx.1 + kx.2) = q := by
  obtain ⟨i, hi, e⟩ := hF.2.2.2.2.2.2.2.2.2.2.1 q hq
  have h0 := hF.2.2.2.2.2.2.1
  have hK := hF.2.2.2.2.2.2.2.1
  obtain ⟨k, hk, a, b⟩ := blk (f := st) K i (by omega) (by omega)
  exact ⟨(k, i - st k), hk, by show st k + (i - st k) < st (k + 1); omega, by show ps (st k + (i - st k)) = q; rw [show st k + (i - st k) = i by omega]; exact e⟩
theorem pos_un (hF : rF c K Z w po st ps ho ea) {k x k' x' : Nat} (hk : k < K) (hk' : k' < K) (hx : st k + x < st (k + 1)) (hx' : st k' + x' < st (k' + 1)) (he : ps (st k + x) = ps (st k' + x')) : k = k' ∧ x = x' := by
  have h1 := (rF_pos hF hk hx).1
  have h2 := (rF_pos hF hk' hx').1
  have h3 := hF.2.2.2.2.2.2.2.2.2.1 _ _ h1 h2 he
  have h4 : k = k' := by
    apply Classical.byContradiction
    intro hn
    by_cases hlt : k < k'
    · have := hF.2.2.2.2.2.1 (k + 1) k' (by omega) (by omega)
      omega
    · have := hF.2.2.2.2.2.1 (k' + 1) k (by omega) (by omega)
      omega
  subst h4
  exact ⟨rfl, by omega⟩
theorem asm_le (hF : rF c K Z w po st ps ho ea) : ∀ k, k ≤ K → asm ps st k ≤ st k := by
  intro k
  induction k with
  | zero => exact fun _ => Nat.zero_le _
  | succ k ih =>
    intro hk
    have h1 := ih (by omega)
    have h2 := unc_le ps (st k) (st (k + 1) - st k)
    have h3 := hF.2.2.1.2 k (by omega)
    show asm ps st k + amn ps st k ≤ _
    unfold amn
    omega
theorem asm_mono (ps st : Nat → Nat) (k : Nat) : ∀ r, asm ps st k ≤ asm ps st (k + r) := by
  intro r
  induction r with
  | zero => exact Nat.le_refl _
  | succ r ih => exact Nat.le_trans ih (Nat.le_add_right _ _)
theorem asm_48 (hF : rF c K Z w po st ps ho ea) : asm ps st K ≤ 48 := by
  have h1 := asm_le hF K (Nat.le_refl _)
  have h2 := hF.2.2.2.2.2.2.2.1
  have h3 := hF.2.2.2.1
  have h4 := hF.1
  omega
/-- the place of a pass -/
noncomputable def pkx (K : Nat) (st ps : Nat → Nat) (q : Nat) : Nat × Nat := Classical.epsilon (fun kx : Nat × Nat => kx.1 < K ∧ st kx.1 + kx.2 < st (kx.1 + 1) ∧ ps (st kx.1 + kx.2) = q)
theorem pkx_is (hF : rF c K Z w po st ps ho ea) {q : Nat} (hq : q < 2 * c) : (pkx K st ps q).1 < K ∧ st (pkx K st ps q).1 + (pkx K st ps q).2 < st ((pkx K st ps q).1 + 1) ∧ ps (st (pkx K st ps q).1 + (pkx K st ps q).2) = q := Classical.epsilon_spec (pos_ex hF hq)
theorem pkx_at (hF : rF c K Z w po st ps ho ea) {k x : Nat} (hk : k < K) (hx : st k + x < st (k + 1)) : pkx K st ps (ps (st k + x)) = (k, x) := by
  have h0 := (rF_pos hF hk hx).2
  obtain ⟨h1, h2, h3⟩ := pkx_is hF h0
  have h4 := pos_un hF h1 hk h2 hx h3
  exact Prod.ext h4.1 h4.2
/-- columns of a pass: in the class (g = 0, 1), in the reference (g = amn - 1, amn) -/
noncomputable def colG (K : Nat) (st ps : Nat → Nat) (g : Nat → Nat) (q : Nat) : Nat := asm ps st (pkx K st ps q).1 + (g (amn ps st (pkx K st ps q).1) + unc ps (st (pkx K st ps q).1) (pkx K st ps q).2) % amn ps st (pkx K st ps q).1
noncomputable def shf (K : Nat) (st ps : Nat → Nat) (j : Nat) : Nat := asm ps st (Classical.epsilon (fun k => k < K ∧ asm ps st k ≤ j ∧ j < asm ps st (k + 1))) + (j - asm ps st (Classical.epsilon (fun k => k < K ∧ asm ps st k ≤ j ∧ j < asm ps st (k + 1))) + 1) % amn ps st (Classical.epsilon (fun k => k < K ∧ asm ps st k ≤ j ∧ j < asm ps st (k + 1)))
theorem asm_un {ps st : Nat → Nat} {k k' j : Nat} (h1 : asm ps st k ≤ j) (h2 : j < asm ps st (k + 1)) (h3 : asm ps st k' ≤ j) (h4 : j < asm ps st (k' + 1)) : k = k' := by
  apply Classical.byContradiction
  intro hn
  by_cases hlt : k < k'
  · have := asm_mono ps st (k + 1) (k' - (k + 1))
    rw [show k + 1 + (k' - (k + 1)) = k' by omega] at this
    omega
  · have := asm_mono ps st (k' + 1) (k - (k' + 1))
    rw [show k' + 1 + (k - (k' + 1)) = k by omega] at this
    omega
theorem shf_at {ps st : Nat → Nat} {K k y : Nat} (hk : k < K) (hy : y < amn ps st k) : shf K st ps (asm ps st k + y) = asm ps st k + (y + 1) % amn ps st k := by
  have hs : asm ps st (k + 1) = asm ps st k + amn ps st k := rfl
  have hex : ∃ k', k' < K ∧ asm ps st k' ≤ asm ps st k + y ∧ asm ps st k + y < asm ps st (k' + 1) := ⟨k, hk, by omega, by omega⟩
  have hsp := Classical.epsilon_spec hex
  have hkk : Classical.epsilon (fun k' => k' < K ∧ asm ps st k' ≤ asm ps st k + y ∧ asm ps st k + y < asm ps st (k' + 1)) = k := asm_un hsp.2.1 hsp.2.2 (by omega) (by omega)
  unfold shf
  rw [hkk]
  congr 2
  omega
theorem col_blk {K j : Nat} {ps st : Nat → Nat} (hj : j < asm ps st K) : ∃ k y, k < K ∧ y < amn ps st k ∧ j = asm ps st k + y := by
  obtain ⟨k, hk, a, b⟩ := blk (f := asm ps st) K j (Nat.zero_le _) hj
  have hs : asm ps st (k + 1) = asm ps st k + amn ps st k := rfl
  exact ⟨k, j - asm ps st k, hk, by omega, by omega⟩
theorem blk_lt {K k y : Nat} {ps st : Nat → Nat} (hk : k < K) (hy : y < amn ps st k) : asm ps st k + y < asm ps st K := by
  have hs : asm ps st (k + 1) = asm ps st k + amn ps st k := rfl
  have := asm_mono ps st (k + 1) (K - (k + 1))
  rw [show k + 1 + (K - (k + 1)) = K by omega] at this
  omega
theorem shf_lt {K j : Nat} {ps st : Nat → Nat} (hj : j < asm ps st K) : shf K st ps j < asm ps st K := by
  obtain ⟨k, y, hk, hy, rfl⟩ := col_blk hj
  rw [shf_at hk hy]
  exact blk_lt hk (Nat.mod_lt _ (by have := (amn_bd ps st k).1; omega))
theorem mod_in {A y y' : Nat} (hy : y < A) (hy' : y' < A) (h : (y + 1) % A = (y' + 1) % A) : y = y' := by
  by_cases h1 : y + 1 = A
  · by_cases h2 : y' + 1 = A
    · omega
    · rw [h1, Nat.mod_self, Nat.mod_eq_of_lt (show y' + 1 < A by omega)] at h
      omega
  · by_cases h2 : y' + 1 = A
    · rw [h2, Nat.mod_self, Nat.mod_eq_of_lt (show y + 1 < A by omega)] at h
      omega
    · rw [Nat.mod_eq_of_lt (show y + 1 < A by omega), Nat.mod_eq_of_lt (show y' + 1 < A by omega)] at h
      omega
theorem shf_inj {K j j' : Nat} {ps st : Nat → Nat} (hj : j < asm ps st K) (hj' : j' < asm ps st K) (h : shf K st ps j = shf K st ps j') : j = j' := by
  obtain ⟨k, y, hk, hy, rfl⟩ := col_blk hj
  obtain ⟨k', y', hk', hy', rfl⟩ := col_blk hj'
  rw [shf_at hk hy, shf_at hk' hy'] at h
  have b1 := Nat.mod_lt (y + 1) (show 0 < amn ps st k by omega)
  have b2 := Nat.mod_lt (y' + 1) (show 0 < amn ps st k' by omega)
  have hs : asm ps st (k + 1) = asm ps st k + amn ps st k := rfl
  have hs' : asm ps st (k' + 1) = asm ps st k' + amn ps st k' := rfl
  have hkk : k = k' := by
    refine asm_un (ps := ps) (st := st) (j := asm ps st k + (y + 1) % amn ps st k) (Nat.le_add_right _ _) ?_ ?_ ?_
    · rw [hs]; exact Nat.add_lt_add_left b1 _
    · rw [h]; exact Nat.le_add_right _ _
    · rw [h, hs']; exact Nat.add_lt_add_left b2 _
  subst hkk
  have := mod_in hy hy' (Nat.add_left_cancel h)
  omega
/-- a column is come to by the shift -/
theorem shf_sur {K j : Nat} {ps st : Nat → Nat} (hj : j < asm ps st K) : ∃ j', j' < asm ps st K ∧ shf K st ps j' = j := php (asm ps st K) (shf K st ps) (fun _ h => shf_lt h) (fun _ _ h h' e => shf_inj h h' e) j hj
theorem colG_lt (hF : rF c K Z w po st ps ho ea) {q : Nat} (g : Nat → Nat) (hq : q < 2 * c) : colG K st ps g q < asm ps st K := blk_lt (pkx_is hF hq).1 (Nat.mod_lt _ (by have := (amn_bd ps st (pkx K st ps q).1).1; omega))
theorem colG_sh (hF : rF c K Z w po st ps ho ea) {q : Nat} (g g' : Nat → Nat) (hq : q < 2 * c) (hgg : ∀ A u, 1 ≤ A → (g A + u + 1) % A = (g' A + u) % A) : shf K st ps (colG K st ps g q) = colG K st ps g' q := by
  have hA := (amn_bd ps st (pkx K st ps q).1).1
  unfold colG
  rw [shf_at (pkx_is hF hq).1 (Nat.mod_lt _ (by omega)), Nat.mod_add_mod, hgg _ _ hA]
/-- the row of a crossing -/
def eqI (x y : Nat) : Int := if x = y then 1 else 0
noncomputable def mtx (K : Nat) (st ps : Nat → Nat) (g0 g1 : Nat → Nat) (b j : Nat) : Int := 2 * eqI j (colG K st ps g0 (2 * b)) - eqI j (colG K st ps g0 (2 * b + 1)) - eqI j (colG K st ps g1 (2 * b + 1))
theorem mtx_sh (hF : rF c K Z w po st ps ho ea) {b j : Nat} (hb : b < c) (hj : j < asm ps st K) : mtx K st ps (fun _ => 0) (fun _ => 1) b (shf K st ps j) = mtx K st ps (fun A => A - 1) (fun A => A) b j := by
  have one : ∀ (g g' : Nat → Nat) (q : Nat), q < 2 * c → (∀ A u, 1 ≤ A → (g A + u + 1) % A = (g' A + u) % A) → eqI (shf K st ps j) (colG K st ps g' q) = eqI j (colG K st ps g q) := by
    intro g g' q hq hgg
    rw [← colG_sh hF g g' hq hgg]
    unfold eqI
    by_cases h : j = colG K st ps g q
    · rw [if_pos h, if_pos (by rw [h])]
    · rw [if_neg h, if_neg (fun e => h (shf_inj hj (colG_lt hF g hq) e))]
  have m0 : ∀ A u : Nat, 1 ≤ A → ((fun A => A - 1) A + u + 1) % A = ((fun _ => 0) A + u) % A := fun A u hA => by
    show (A - 1 + u + 1) % A = (0 + u) % A
    rw [show A - 1 + u + 1 = u + A by omega, Nat.add_mod_right, Nat.zero_add]
  have m1 : ∀ A u : Nat, 1 ≤ A → ((fun A => A) A + u + 1) % A = ((fun _ => 1) A + u) % A := fun A u hA => by
    show (A + u + 1) % A = (1 + u) % A
    rw [show A + u + 1 = 1 + u + A by omega, Nat.add_mod_right]
  unfold mtx
  rw [one (fun A => A - 1) (fun _ => 0) (2 * b) (by omega) m0, one (fun A => A - 1) (fun _ => 0) (2 * b + 1) (by omega) m0, one (fun A => A) (fun _ => 1) (2 * b + 1) (by omega) m1]
theorem mtx_out (hF : rF c K Z w po st ps ho ea) {g0 g1 : Nat → Nat} {b j : Nat} (hb : b < c) (hj : asm ps st K ≤ j) : mtx K st ps g0 g1 b j = 0 := by
  have h1 := colG_lt hF g0 (show 2 * b < 2 * c by omega)
  have h2 := colG_lt hF g0 (show 2 * b + 1 < 2 * c by omega)
  have h3 := colG_lt hF g1 (show 2 * b + 1 < 2 * c by omega)
  unfold mtx eqI
  rw [if_neg (by omega), if_neg (by omega), if_neg (by omega)]
  rfl
end COL
