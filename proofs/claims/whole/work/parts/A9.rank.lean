/-! sums, digits, and that a rank is one number -/
theorem smc {f g : Nat → Int} : ∀ n, (∀ i, i < n → f i = g i) → sumI f n = sumI g n := by
  intro n
  induction n with
  | zero => exact fun _ => rfl
  | succ n ih =>
    intro h
    show sumI f n + f n = sumI g n + g n
    rw [ih (fun i hi => h i (by omega)), h n (by omega)]
theorem sumI_add (f g : Nat → Int) : ∀ n, sumI (fun i => f i + g i) n = sumI f n + sumI g n := by
  intro n
  induction n with
  | zero => rfl
  | succ n ih =>
    show sumI (fun i => f i + g i) n + (f n + g n) = (sumI f n + f n) + (sumI g n + g n)
    rw [ih]
    omega
theorem sumI_mul (a : Int) (f : Nat → Int) : ∀ n, sumI (fun i => a * f i) n = a * sumI f n := by
  intro n
  induction n with
  | zero => exact (Int.mul_zero a).symm
  | succ n ih =>
    show sumI (fun i => a * f i) n + a * f n = a * (sumI f n + f n)
    rw [ih, Int.mul_add]
theorem sumI_zero : ∀ n, sumI (fun _ => 0) n = 0 := by
  intro n
  induction n with
  | zero => rfl
  | succ n ih =>
    show sumI (fun _ => 0) n + 0 = 0
    rw [ih]
    rfl
theorem sumI_swap (f : Nat → Nat → Int) (n : Nat) : ∀ m, sumI (fun i => sumI (fun j => f i j) n) m = sumI (fun j => sumI (fun i => f i j) m) n := by
  intro m
  induction m with
  | zero => exact (sumI_zero n).symm
  | succ m ih =>
    show sumI (fun i => sumI (fun j => f i j) n) m + sumI (fun j => f m j) n = sumI (fun j => sumI (fun i => f i j) m + f m j) n
    rw [sumI_add, ih]
/-- alike modulo p -/
def md (p x y : Int) : Prop := p ∣ x - y
theorem md.rf {p x : Int} : md p x x := by unfold md; rw [Int.sub_self]; exact Int.dvd_zero _
theorem md.sy {p x y : Int} (h : md p x y) : md p y x := by
  unfold md at *
  have := Int.dvd_neg.mpr h
  rw [Int.neg_sub] at this
  exact this
theorem md.tr {p x y z : Int} (h : md p x y) (h' : md p y z) : md p x z := by
  unfold md at *
  have := Int.dvd_add h h'
  rw [show x - y + (y - z) = x - z by omega] at this
  exact this
theorem md.add {p x y z w : Int} (h : md p x y) (h' : md p z w) : md p (x + z) (y + w) := by
  unfold md at *
  have := Int.dvd_add h h'
  rw [show x - y + (z - w) = x + z - (y + w) by omega] at this
  exact this
theorem md.mul {p x y : Int} (a : Int) (h : md p x y) : md p (a * x) (a * y) := by
  obtain ⟨k, hk⟩ := h
  exact ⟨a * k, by rw [← Int.mul_sub, hk, Int.mul_left_comm]⟩
theorem md.mulr {p x y : Int} (a : Int) (h : md p x y) : md p (x * a) (y * a) := by
  rw [Int.mul_comm x, Int.mul_comm y]
  exact h.mul a
theorem md_mod (p x : Int) : md p (x % p) x := by
  unfold md
  have := Int.emod_add_mul_ediv x p
  exact ⟨-(x / p), by rw [Int.mul_neg]; omega⟩
theorem md_sum {p : Int} {f g : Nat → Int} : ∀ n, (∀ i, i < n → md p (f i) (g i)) → md p (sumI f n) (sumI g n) := by
  intro n
  induction n with
  | zero => exact fun _ => md.rf
  | succ n ih => exact fun h => (ih (fun i hi => h i (by omega))).add (h n (by omega))
/-! digits -/
def enc (p : Nat) (f : Nat → Nat) : Nat → Nat
  | 0 => 0
  | n + 1 => enc p f n + (f n % p) * p ^ n
theorem enc_lt {p : Nat} (hp : 1 ≤ p) (f : Nat → Nat) : ∀ n, enc p f n < p ^ n := by
  intro n
  induction n with
  | zero => exact Nat.one_pos
  | succ n ih =>
    have h1 := Nat.mod_lt (f n) hp
    show enc p f n + (f n % p) * p ^ n < p ^ (n + 1)
    have h2 : (f n % p + 1) * p ^ n ≤ p * p ^ n := Nat.mul_le_mul_right _ h1
    rw [Nat.pow_succ, Nat.mul_comm (p ^ n) p]
    rw [Nat.add_mul] at h2
    omega
theorem enc_inj {p : Nat} (hp : 1 ≤ p) (f g : Nat → Nat) : ∀ n, enc p f n = enc p g n → ∀ i, i < n → f i % p = g i % p := by
  intro n
  induction n with
  | zero => exact fun _ i hi => absurd hi (Nat.not_lt_zero _)
  | succ n ih =>
    intro h i hi
    have l1 := enc_lt hp f n
    have l2 := enc_lt hp g n
    have h' : enc p f n + (f n % p) * p ^ n = enc p g n + (g n % p) * p ^ n := h
    have hd : f n % p = g n % p := by
      have q1 : (enc p f n + (f n % p) * p ^ n) / p ^ n = f n % p := by
        rw [Nat.add_mul_div_right _ _ (by omega), Nat.div_eq_of_lt l1, Nat.zero_add]
      have q2 : (enc p g n + (g n % p) * p ^ n) / p ^ n = g n % p := by
        rw [Nat.add_mul_div_right _ _ (by omega), Nat.div_eq_of_lt l2, Nat.zero_add]
      rw [← q1, ← q2, h']
    rw [hd] at h'
    by_cases hin : i = n
    · rw [hin]; exact hd
    · exact ih (by omega) i (by omega)
theorem dig_inj {p : Nat} (hp : 2 ≤ p) : ∀ n x y, x < p ^ n → y < p ^ n → (∀ i, i < n → x / p ^ i % p = y / p ^ i % p) → x = y := by
  intro n
  induction n with
  | zero =>
    intro x y hx hy _
    rw [Nat.pow_zero] at hx hy
    omega
  | succ n ih =>
    intro x y hx hy h
    have h0 := h 0 (by omega)
    rw [Nat.pow_zero, Nat.div_one, Nat.div_one] at h0
    have h1 : x / p = y / p := by
      refine ih (x / p) (y / p) ?_ ?_ (fun i hi => ?_)
      · rw [Nat.pow_succ] at hx; exact Nat.div_lt_of_lt_mul (by rw [Nat.mul_comm]; exact hx)
      · rw [Nat.pow_succ] at hy; exact Nat.div_lt_of_lt_mul (by rw [Nat.mul_comm]; exact hy)
      · have := h (i + 1) (by omega)
        rw [Nat.pow_succ, Nat.mul_comm, ← Nat.div_div_eq_div_mul, ← Nat.div_div_eq_div_mul] at this
        exact this
    have e1 := Nat.div_add_mod x p
    have e2 := Nat.div_add_mod y p
    rw [h1, h0] at e1
    omega
/-- more than r rows of r numbers: some of them cancel, not all by nought -/
theorem dep {p r r' : Nat} (hp : 2 ≤ p) (hr : r < r') (C : Nat → Nat → Int) : ∃ a : Nat → Int, (∃ i, i < r' ∧ ¬ md p (a i) 0) ∧ ∀ j, j < r → md p (sumI (fun i => a i * C i j) r') 0 := by
  have hpw : p ^ r < p ^ r' := Nat.pow_lt_pow_right (by omega) hr
  obtain ⟨V, hV⟩ : ∃ V : Nat → Nat → Int, V = fun x j => sumI (fun i => ((x / p ^ i % p : Nat) : Int) * C i j) r' := ⟨_, rfl⟩
  have hx : ∃ x y, x < p ^ r' ∧ y < p ^ r' ∧ x ≠ y ∧ enc p (fun j => (V x j % (p : Int)).toNat) r = enc p (fun j => (V y j % (p : Int)).toNat) r := by
    apply Classical.byContradiction
    intro hn
    have := inj_le (w := p ^ r') (n := p ^ r) (f := fun x => enc p (fun j => (V x j % (p : Int)).toNat) r) (fun i _ => enc_lt (by omega) _ r) (fun x y hx hy e => by
      apply Classical.byContradiction
      intro hxy
      exact hn ⟨x, y, hx, hy, hxy, e⟩)
    omega
  obtain ⟨x, y, hx, hy, hxy, e⟩ := hx
  refine ⟨fun i => ((x / p ^ i % p : Nat) : Int) - ((y / p ^ i % p : Nat) : Int), ?_, fun j hj => ?_⟩
  · apply Classical.byContradiction
    intro hn
    apply hxy
    refine dig_inj hp r' x y hx hy (fun i hi => ?_)
    apply Classical.byContradiction
    intro hne
    apply hn
    refine ⟨i, hi, fun hd => ?_⟩
    have hd' : (p : Int) ∣ ((x / p ^ i % p : Nat) : Int) - ((y / p ^ i % p : Nat) : Int) - 0 := hd
    rw [Int.sub_zero] at hd'
    have l1 := Nat.mod_lt (x / p ^ i) (show 0 < p by omega)
    have l2 := Nat.mod_lt (y / p ^ i) (show 0 < p by omega)
    have := Int.eq_zero_of_dvd_of_natAbs_lt_natAbs hd' (by rw [Int.natAbs_natCast]; omega)
    omega
  · have e2 := enc_inj (by omega) _ _ r e j hj
    have b1 := Int.emod_nonneg (V x j) (show (p : Int) ≠ 0 by omega)
    have b2 := Int.emod_nonneg (V y j) (show (p : Int) ≠ 0 by omega)
    have b3 := Int.emod_lt_of_pos (V x j) (show (0 : Int) < p by omega)
    have b4 := Int.emod_lt_of_pos (V y j) (show (0 : Int) < p by omega)
    rw [Nat.mod_eq_of_lt (by omega), Nat.mod_eq_of_lt (by omega)] at e2
    have e3 : V x j % (p : Int) = V y j % (p : Int) := by omega
    have e4 : md p (V x j) (V y j) := (md_mod p (V x j)).sy.tr (by rw [e3]; exact md_mod p (V y j))
    have e5 : sumI (fun i => (((x / p ^ i % p : Nat) : Int) - ((y / p ^ i % p : Nat) : Int)) * C i j) r' = V x j - V y j := by
      rw [hV]
      have : ∀ i, i < r' → (((x / p ^ i % p : Nat) : Int) - ((y / p ^ i % p : Nat) : Int)) * C i j = ((x / p ^ i % p : Nat) : Int) * C i j + (-1) * (((y / p ^ i % p : Nat) : Int) * C i j) := fun i _ => by
        rw [Int.sub_mul]
        omega
      rw [smc r' this, sumI_add, sumI_mul]
      show _ = sumI (fun i => ((x / p ^ i % p : Nat) : Int) * C i j) r' - sumI (fun i => ((y / p ^ i % p : Nat) : Int) * C i j) r'
      omega
    rw [e5]
    unfold md at *
    rw [Int.sub_zero]
    exact e4
/-- rows G below r0 with pivots -/
def Ech (p : Int) (c n r : Nat) (G : Nat → Nat → Int) (q : Nat → Nat) : Prop := r ≤ c ∧ (∀ i, i < r → q i < n ∧ ∀ a, md p (a * G i (q i)) 0 → md p a 0) ∧ (∀ i i', i < r → i < i' → i' < c → md p (G i' (q i)) 0) ∧ ∀ i j, r ≤ i → i < c → j < n → md p (G i j) 0
/-- v is a sum of rows -/
def Sp (p : Int) (c n : Nat) (G : Nat → Nat → Int) (v : Nat → Int) : Prop := ∃ a : Nat → Int, ∀ j, j < n → md p (v j) (sumI (fun i => a i * G i j) c)
theorem Ech_ind {p : Int} {c n r : Nat} {G : Nat → Nat → Int} {q : Nat → Nat} (h : Ech p c n r G q) {a : Nat → Int} (ha : ∀ j, j < n → md p (sumI (fun i => a i * G i j) r) 0) : ∀ i, i < r → md p (a i) 0 := by
  intro i
  induction i using Nat.strongRecOn with
  | ind i ih =>
    intro hi
    obtain ⟨h1, h2, h3, h4⟩ := h
    have hz := ha (q i) (h2 i hi).1
    refine (h2 i hi).2 (a i) ?_
    refine md.tr ?_ hz
    have key : ∀ m, m ≤ r → md p (sumI (fun k => a k * G k (q i)) m) (if i < m then a i * G i (q i) else 0) := by
      intro m
      induction m with
      | zero => intro _; rw [if_neg (Nat.not_lt_zero _)]; exact md.rf
      | succ m ihm =>
        intro hm
        have h5 := ihm (by omega)
        show md p (sumI (fun k => a k * G k (q i)) m + a m * G m (q i)) _
        by_cases him : i < m
        · rw [if_pos him] at h5
          rw [if_pos (by omega)]
          have h6 := (h3 i m hi him (by omega)).mul (a m)
          rw [Int.mul_zero] at h6
          have := h5.add h6
          rw [Int.add_zero] at this
          exact this
        · rw [if_neg him] at h5
          by_cases hie : i = m
          · subst hie
            rw [if_pos (by omega)]
            have := h5.add (md.rf (p := p) (x := a i * G i (q i)))
            rw [Int.zero_add] at this
            exact this
          · rw [if_neg (by omega)]
            have h6 := (ih m (by omega) (by omega)).mulr (G m (q i))
            rw [Int.zero_mul] at h6
            have := h5.add h6
            rw [Int.add_zero] at this
            exact this
    have := key r (Nat.le_refl _)
    rw [if_pos hi] at this
    exact this.sy
theorem sumI_tail {p : Int} {f : Nat → Int} {r : Nat} : ∀ c, r ≤ c → (∀ i, r ≤ i → i < c → md p (f i) 0) → md p (sumI f c) (sumI f r) := by
  intro c
  induction c with
  | zero => intro h _; rw [show r = 0 by omega]; exact md.rf
  | succ c ih =>
    intro h hf
    by_cases hrc : r = c + 1
    · rw [hrc]; exact md.rf
    · have h1 := ih (by omega) (fun i a b => hf i a (by omega))
      have := h1.add (hf c (by omega) (by omega))
      rw [Int.add_zero] at this
      exact this
theorem rank_le {p c c' n r r' : Nat} {G G' : Nat → Nat → Int} {q q' : Nat → Nat} (hp : 2 ≤ p) (h : Ech p c n r G q) (h' : Ech p c' n r' G' q') (hS : ∀ i, i < r' → Sp p c n G (G' i)) : r' ≤ r := by
  apply Classical.byContradiction
  intro hn
  have hex : ∃ C : Nat → Nat → Int, ∀ i, i < r' → ∀ j, j < n → md p (G' i j) (sumI (fun k => C i k * G k j) c) := by
    have := Classical.axiomOfChoice (r := fun (i : Nat) (a : Nat → Int) => i < r' → ∀ j, j < n → md p (G' i j) (sumI (fun k => a k * G k j) c)) (fun i => by
      by_cases hi : i < r'
      · obtain ⟨a, ha⟩ := hS i hi
        exact ⟨a, fun _ => ha⟩
      · exact ⟨fun _ => 0, fun h => absurd h hi⟩)
    exact this
  obtain ⟨C, hC⟩ := hex
  obtain ⟨a, ⟨i0, hi0, hne⟩, ha⟩ := dep (p := p) (r := r) (r' := r') hp (by omega) C
  apply hne
  refine Ech_ind h' (a := a) (fun j hj => ?_) i0 hi0
  have e1 : md p (sumI (fun i => a i * G' i j) r') (sumI (fun i => a i * sumI (fun k => C i k * G k j) r) r') := md_sum r' (fun i hi => ((hC i hi j hj).mul (a i)).tr ((sumI_tail c h.1 (fun k hk hkc => by
    have := (h.2.2.2 k j hk hkc hj).mul (C i k)
    rw [Int.mul_zero] at this
    exact this)).mul (a i)))
  refine e1.tr ?_
  have e2 : sumI (fun i => a i * sumI (fun k => C i k * G k j) r) r' = sumI (fun k => G k j * sumI (fun i => a i * C i k) r') r := by
    have f1 : ∀ i, i < r' → a i * sumI (fun k => C i k * G k j) r = sumI (fun k => a i * (C i k * G k j)) r := fun i _ => (sumI_mul (a i) _ r).symm
    rw [smc r' f1, sumI_swap]
    refine smc r (fun k _ => ?_)
    rw [← sumI_mul]
    refine smc r' (fun i _ => ?_)
    rw [← Int.mul_assoc, Int.mul_comm]
  rw [e2]
  have e3 : md p (sumI (fun k => G k j * sumI (fun i => a i * C i k) r') r) (sumI (fun _ => 0) r) := md_sum r (fun k hk => by
    have := (ha k hk).mul (G k j)
    rw [Int.mul_zero] at this
    exact this)
  rw [sumI_zero] at e3
  exact e3
