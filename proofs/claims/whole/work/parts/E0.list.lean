/-! names of a size: which pairs they are, and that all ways come to them -/
theorem lsz_mono : ∀ f a b, lsz f a b ≤ eS a b := by
  intro f
  induction f with
  | zero => exact fun a b => Nat.zero_le _
  | succ f ih =>
    intro a b
    show (if b = 0 then 0 else a / b + lsz f b (a % b)) ≤ eS a b
    by_cases hb : b = 0
    · rw [if_pos hb]; exact Nat.zero_le _
    · rw [if_neg hb, eS_st (by omega)]
      have := ih b (a % b)
      omega
theorem lsz_or : ∀ f a b, b < a → lsz f a b = eS a b ∨ f ≤ lsz f a b := by
  intro f
  induction f with
  | zero => exact fun a b _ => Or.inr (Nat.zero_le _)
  | succ f ih =>
    intro a b hab
    show (if b = 0 then 0 else a / b + lsz f b (a % b)) = eS a b ∨ f + 1 ≤ (if b = 0 then 0 else a / b + lsz f b (a % b))
    by_cases hb : b = 0
    · rw [if_pos hb, hb]; exact Or.inl rfl
    · rw [if_neg hb, eS_st (a := a) (b := b) (by omega)]
      have hm := Nat.mod_lt a (show 0 < b by omega)
      have hd : 1 ≤ a / b := by
        have := Nat.div_le_div_right (c := b) (show b ≤ a by omega)
        rw [Nat.div_self (by omega)] at this
        exact this
      rcases ih b (a % b) hm with h | h
      · exact Or.inl (by rw [h])
      · exact Or.inr (by omega)
theorem lsz20 {s a b : Nat} (hab : b < a) (hs : s ≤ 12) : lsz 20 a b = s ↔ eS a b = s := by
  have h1 := lsz_mono 20 a b
  have h2 := lsz_or 20 a b hab
  omega
def goodP (s a b : Nat) : Prop := 2 ≤ a ∧ 1 ≤ b ∧ b < a ∧ Nat.gcd a b = 1 ∧ eS a b = s ∧ nmB (a : Int) (b : Int) = (b : Int)
/-- no lesser inverse -/
theorem nmB_self {a b : Nat} (ha : 2 ≤ a) (hb : b < a) (hg : Nat.gcd a b = 1) : nmB (a : Int) (b : Int) = (b : Int) ↔ ∀ v, v < b → v * b % a ≠ 1 := by
  have hm : (b : Int) % (a : Int) = (b : Int) := Int.emod_eq_of_lt (by omega) (by omega)
  obtain ⟨i, hi⟩ := inv_ex (p := (a : Int)) (q := (b : Int)) (by omega) (gcd_cop hg)
  rw [nmB_of hi, hm]
  rw [hm] at hi
  obtain ⟨i1, i2, c, i3⟩ := hi
  obtain ⟨j, rfl⟩ : ∃ j : Nat, i = (j : Int) := ⟨i.toNat, by omega⟩
  have hc0 : 0 ≤ c := by
    apply Classical.byContradiction
    intro hn
    have h5 : c * (a : Int) ≤ -1 * (a : Int) := Int.mul_le_mul_of_nonneg_right (by omega) (by omega)
    have h6 : 0 ≤ (j : Int) * (b : Int) := Int.mul_nonneg (by omega) (by omega)
    omega
  obtain ⟨k, rfl⟩ : ∃ k : Nat, c = (k : Int) := ⟨c.toNat, by omega⟩
  have e : j * b = 1 + k * a := by
    have : ((j * b : Nat) : Int) = ((1 + k * a : Nat) : Int) := by
      rw [Int.natCast_mul, i3, Int.natCast_add, Int.natCast_mul]
      rfl
    omega
  have ej : j * b % a = 1 := by rw [e, Nat.add_mul_mod_self_right, Nat.mod_eq_of_lt (by omega)]
  constructor
  · intro h v hv hv1
    have hu : isInv (a : Int) (b : Int) (v : Int) := by
      refine ⟨by omega, by omega, ((v * b / a : Nat) : Int), ?_⟩
      have := Nat.div_add_mod (v * b) a
      rw [hv1] at this
      have e2 : ((a * (v * b / a) + 1 : Nat) : Int) = ((v * b : Nat) : Int) := by rw [this]
      rw [← Int.natCast_mul, ← e2, Int.natCast_add, Int.natCast_mul, Int.mul_comm, Int.add_comm]
      rfl
    have := isInv.uniq hu ⟨i1, i2, (k : Int), i3⟩
    omega
  · intro h
    by_cases hjb : j < b
    · exact absurd ej (h j hjb)
    · omega
/-- the pair before -/
theorem eS_pred {a b : Nat} (h1 : 1 ≤ b) (h2 : b < a) (hg : Nat.gcd a b = 1) (hne : ¬ (a = 2 ∧ b = 1)) : (b < a - b ∧ Nat.gcd (a - b) b = 1 ∧ eS a b = eS (a - b) b + 1) ∨ (a - b < b ∧ 1 ≤ a - b ∧ Nat.gcd b (a - b) = 1 ∧ eS a b = eS b (a - b) + 1) := by
  have e : eS a b = eS (a - b) b + 1 := by
    have := eS_add (a := a - b) (b := b) (by omega)
    rw [show a - b + b = a by omega] at this
    exact this
  have hg2 : Nat.gcd (a - b) b = 1 := by
    rw [Nat.gcd_sub_self_left (show b ≤ a by omega)]
    exact hg
  by_cases hlt : b < a - b
  · exact Or.inl ⟨hlt, hg2, e⟩
  · have hn : a - b ≠ b := fun q => by
      rw [q, Nat.gcd_self] at hg2
      omega
    exact Or.inr ⟨by omega, by omega, by rw [Nat.gcd_comm]; exact hg2, by rw [e, eS_sw]⟩
theorem eS_21 : eS 2 1 = 2 := rfl
def fb : Nat → Nat
  | 0 => 1
  | 1 => 1
  | n + 2 => fb (n + 1) + fb n
theorem eS_ge2 {a b : Nat} (h1 : 1 ≤ b) (h2 : b < a) (hg : Nat.gcd a b = 1) : 2 ≤ eS a b := by
  rw [eS_st (by omega)]
  have hd : 1 ≤ a / b := by
    have := Nat.div_le_div_right (c := b) (show b ≤ a by omega)
    rw [Nat.div_self (by omega)] at this
    exact this
  by_cases hb : b = 1
  · subst hb
    rw [Nat.div_one] at *
    omega
  · have hm : 0 < a % b := by
      apply Classical.byContradiction
      intro hn
      have hdv : b ∣ a := Nat.dvd_of_mod_eq_zero (by omega)
      have := Nat.gcd_eq_right hdv
      omega
    rw [eS_st hm]
    have hml := Nat.mod_lt a (show 0 < b by omega)
    have : 1 ≤ b / (a % b) := by
      have := Nat.div_le_div_right (c := a % b) (show a % b ≤ b by omega)
      rw [Nat.div_self hm] at this
      exact this
    omega
theorem eS_fb : ∀ s a b, 1 ≤ b → b < a → Nat.gcd a b = 1 → eS a b = s + 2 → a ≤ fb (s + 2) ∧ b ≤ fb (s + 1) := by
  intro s
  induction s with
  | zero =>
    intro a b h1 h2 hg he
    by_cases hne : a = 2 ∧ b = 1
    · obtain ⟨rfl, rfl⟩ := hne
      decide
    · rcases eS_pred h1 h2 hg hne with ⟨q1, q2, q3⟩ | ⟨q1, q2, q3, q4⟩
      · have := eS_ge2 h1 q1 q2
        omega
      · have := eS_ge2 q2 q1 q3
        omega
  | succ s ih =>
    intro a b h1 h2 hg he
    have f1 : fb (s + 1 + 2) = fb (s + 2) + fb (s + 1) := rfl
    have f2 : fb (s + 1 + 1) = fb (s + 1) + fb s := rfl
    have f3 : fb (s + 2) = fb (s + 1) + fb s := rfl
    by_cases hne : a = 2 ∧ b = 1
    · obtain ⟨rfl, rfl⟩ := hne
      rw [eS_21] at he
      omega
    · rcases eS_pred h1 h2 hg hne with ⟨q1, q2, q3⟩ | ⟨q1, q2, q3, q4⟩
      · have := ih (a - b) b h1 q1 q2 (by omega)
        omega
      · have := ih b (a - b) q2 q1 q3 (by omega)
        omega
theorem fb_mono : ∀ n, fb n ≤ fb (n + 1) := by
  intro n
  cases n with
  | zero => exact Nat.le_refl _
  | succ n => exact Nat.le_add_right _ _
theorem fb_le : ∀ n k, fb n ≤ fb (n + k) := by
  intro n k
  induction k with
  | zero => exact Nat.le_refl _
  | succ k ih => exact Nat.le_trans ih (fb_mono _)
theorem eS_bd {a b : Nat} (h1 : 1 ≤ b) (h2 : b < a) (hg : Nat.gcd a b = 1) (hs : eS a b ≤ 12) : a ≤ 233 := by
  have hg2 := eS_ge2 h1 h2 hg
  have h := (eS_fb (eS a b - 2) a b h1 h2 hg (by omega)).1
  have h3 := fb_le (eS a b - 2 + 2) (12 - eS a b)
  rw [show eS a b - 2 + 2 + (12 - eS a b) = 12 by omega] at h3
  have : fb 12 = 233 := by decide
  omega
theorem lok_is {s a b : Nat} (hs : s ≤ 12) (ha : 2 ≤ a) (hb1 : 1 ≤ b) (hb : b < a) : lok s a b = true ↔ goodP s a b := by
  unfold lok goodP
  rw [Bool.and_eq_true, Bool.and_eq_true, beq_iff_eq, beq_iff_eq, List.all_eq_true]
  constructor
  · rintro ⟨⟨h1, h2⟩, h3⟩
    refine ⟨ha, hb1, hb, h1, (lsz20 hb hs).mp h2, (nmB_self ha hb h1).mpr (fun v hv q => ?_)⟩
    have := h3 v (List.mem_range.mpr hv)
    rw [q] at this
    exact absurd this (by decide)
  · rintro ⟨_, _, _, h1, h2, h3⟩
    refine ⟨⟨h1, (lsz20 hb hs).mpr h2⟩, fun v hv => ?_⟩
    have := (nmB_self ha hb h1).mp h3 v (List.mem_range.mp hv)
    exact bne_iff_ne.mpr this
theorem lcode_mem {s x : Nat} (hs : s ≤ 12) : x ∈ lcode s ↔ ∃ a b, goodP s a b ∧ x = 1024 * a + b := by
  unfold lcode
  rw [List.mem_flatMap]
  constructor
  · rintro ⟨a, h1, h2⟩
    rw [List.mem_map] at h2
    obtain ⟨b, h3, h4⟩ := h2
    rw [List.mem_filter, List.mem_range, Bool.and_eq_true, Bool.and_eq_true, decide_eq_true_eq, decide_eq_true_eq] at h3
    exact ⟨a, b, (lok_is hs h3.2.1.2 h3.2.1.1 h3.1).mp h3.2.2, h4.symm⟩
  · rintro ⟨a, b, h, rfl⟩
    have hb := eS_bd h.2.1 h.2.2.1 h.2.2.2.1 (by rw [h.2.2.2.2.1]; exact hs)
    refine ⟨a, List.mem_range.mpr (by omega), ?_⟩
    rw [List.mem_map]
    refine ⟨b, ?_, rfl⟩
    rw [List.mem_filter, List.mem_range, Bool.and_eq_true, Bool.and_eq_true, decide_eq_true_eq, decide_eq_true_eq]
    exact ⟨h.2.2.1, ⟨h.2.1, h.1⟩, (lok_is hs h.1 h.2.1 h.2.2.1).mpr h⟩
theorem lcode_lt (s : Nat) : (lcode s).Pairwise (· < ·) := by
  unfold lcode
  rw [List.pairwise_flatMap]
  constructor
  · intro a ha
    rw [List.pairwise_map]
    refine List.Pairwise.imp ?_ (List.Pairwise.filter _ List.pairwise_lt_range)
    intro x y hxy
    omega
  · refine List.Pairwise.imp_of_mem ?_ (List.pairwise_lt_range (n := 401))
    intro a a' ha ha' haa x hx y hy
    rw [List.mem_map] at hx hy
    obtain ⟨b, hb, rfl⟩ := hx
    obtain ⟨b', hb', rfl⟩ := hy
    rw [List.mem_filter, List.mem_range] at hb hb'
    rw [List.mem_range] at ha ha'
    omega
/-- n numbers, each less than the next, that are just the codes of a size -/
def enm (s n : Nat) (g : Nat → Nat) : Prop := (∀ i j, i < j → j < n → g i < g j) ∧ (∀ i, i < n → ∃ a b, goodP s a b ∧ g i = 1024 * a + b) ∧ ∀ a b, goodP s a b → ∃ i, i < n ∧ g i = 1024 * a + b
theorem lcode_enm {s : Nat} (hs : s ≤ 12) : enm s (lcode s).length (fun k => (lcode s).getD k 0) := by
  have hp := List.pairwise_iff_getElem.mp (lcode_lt s)
  refine ⟨fun i j hij hj => ?_, fun i hi => ?_, fun a b h => ?_⟩
  · simp only
    rw [List.getD_eq_getElem?_getD, List.getD_eq_getElem?_getD, List.getElem?_eq_getElem hj, List.getElem?_eq_getElem (show i < _ by omega)]
    exact hp i j (by omega) hj hij
  · have : (lcode s)[i] ∈ lcode s := List.getElem_mem hi
    obtain ⟨a, b, h1, h2⟩ := (lcode_mem hs).mp this
    refine ⟨a, b, h1, ?_⟩
    simp only
    rw [List.getD_eq_getElem?_getD, List.getElem?_eq_getElem hi]
    exact h2
  · have := (lcode_mem hs).mpr ⟨a, b, h, rfl⟩
    obtain ⟨i, hi, e⟩ := List.getElem_of_mem this
    refine ⟨i, hi, ?_⟩
    simp only
    rw [List.getD_eq_getElem?_getD, List.getElem?_eq_getElem hi]
    exact e
theorem enm_le {s n n' : Nat} {g g' : Nat → Nat} (h : enm s n g) (h' : enm s n' g') : ∀ k, k < n → k < n' → g k = g' k := by
  intro k
  induction k using Nat.strongRecOn with
  | ind k ih =>
    intro hk hk'
    obtain ⟨a, b, e1, e2⟩ := h.2.1 k hk
    obtain ⟨j, j1, j2⟩ := h'.2.2 a b e1
    obtain ⟨a', b', e1', e2'⟩ := h'.2.1 k hk'
    obtain ⟨i, i1, i2⟩ := h.2.2 a' b' e1'
    by_cases hjk : j < k
    · have := ih j hjk (by omega) (by omega)
      have := h.1 j k hjk hk
      omega
    · by_cases hik : i < k
      · have := ih i hik (by omega) (by omega)
        have := h'.1 i k hik hk'
        omega
      · have a1 : g' k ≤ g' j := by
          by_cases q : j = k
          · rw [q]; exact Nat.le_refl _
          · exact Nat.le_of_lt (h'.1 k j (by omega) j1)
        have a2 : g k ≤ g i := by
          by_cases q : i = k
          · rw [q]; exact Nat.le_refl _
          · exact Nat.le_of_lt (h.1 k i (by omega) i1)
        omega
theorem enm_n {s n n' : Nat} {g g' : Nat → Nat} (h : enm s n g) (h' : enm s n' g') : n ≤ n' := by
  apply Classical.byContradiction
  intro hn
  obtain ⟨a, b, e1, e2⟩ := h.2.1 n' (by omega)
  obtain ⟨j, j1, j2⟩ := h'.2.2 a b e1
  have := enm_le h h' j (by omega) j1
  have := h.1 j n' j1 (by omega)
  omega
theorem enm_eq {s n n' : Nat} {g g' : Nat → Nat} (h : enm s n g) (h' : enm s n' g') : n = n' ∧ ∀ k, k < n → g k = g' k := by
  have e : n = n' := Nat.le_antisymm (enm_n h h') (enm_n h' h)
  exact ⟨e, fun k hk => enm_le h h' k hk (by omega)⟩
/-! the ways -/
def wst (p : Nat × Nat) (b : Nat) : Nat × Nat := (p.1 + p.2, if b = 0 then p.2 else p.1)
def wv : Nat → Nat → Nat × Nat
  | 0, _ => (2, 1)
  | k + 1, w => wst (wv k w) (w / 2 ^ k % 2)
theorem wv_is (w : Nat) : ∀ k, 1 ≤ (wv k w).2 ∧ (wv k w).2 < (wv k w).1 ∧ Nat.gcd (wv k w).1 (wv k w).2 = 1 ∧ eS (wv k w).1 (wv k w).2 = k + 2 := by
  intro k
  induction k with
  | zero =>
    show 1 ≤ 1 ∧ 1 < 2 ∧ Nat.gcd 2 1 = 1 ∧ eS 2 1 = 2
    exact ⟨by decide, by decide, by decide, rfl⟩
  | succ k ih =>
    obtain ⟨h1, h2, h3, h4⟩ := ih
    show 1 ≤ (wst (wv k w) (w / 2 ^ k % 2)).2 ∧ (wst (wv k w) (w / 2 ^ k % 2)).2 < (wst (wv k w) (w / 2 ^ k % 2)).1 ∧ Nat.gcd (wst (wv k w) (w / 2 ^ k % 2)).1 (wst (wv k w) (w / 2 ^ k % 2)).2 = 1 ∧ eS (wst (wv k w) (w / 2 ^ k % 2)).1 (wst (wv k w) (w / 2 ^ k % 2)).2 = k + 1 + 2
    unfold wst
    generalize (wv k w).1 = u at *
    generalize (wv k w).2 = v at *
    by_cases hb : w / 2 ^ k % 2 = 0
    · simp only [if_pos hb]
      refine ⟨h1, by omega, ?_, ?_⟩
      · rw [Nat.gcd_add_self_left]; exact h3
      · rw [eS_add (by omega), h4]
    · simp only [if_neg hb]
      refine ⟨by omega, by omega, ?_, ?_⟩
      · rw [Nat.gcd_self_add_left, Nat.gcd_comm]; exact h3
      · rw [Nat.add_comm u v, eS_add (by omega), eS_sw, h4]
theorem wv_low : ∀ k w w', (∀ j, j < k → w / 2 ^ j % 2 = w' / 2 ^ j % 2) → wv k w = wv k w' := by
  intro k
  induction k with
  | zero => exact fun _ _ _ => rfl
  | succ k ih =>
    intro w w' h
    show wst (wv k w) _ = wst (wv k w') _
    rw [ih w w' (fun j hj => h j (by omega)), h k (by omega)]
theorem bit_up {k j w b : Nat} (hj : j < k) : (w + b * 2 ^ k) / 2 ^ j % 2 = w / 2 ^ j % 2 := by
  obtain ⟨r, rfl⟩ : ∃ r, k = j + (r + 1) := ⟨k - j - 1, by omega⟩
  have e : w + b * 2 ^ (j + (r + 1)) = w + 2 ^ j * (2 * (b * 2 ^ r)) := by
    rw [Nat.pow_add, Nat.pow_succ]
    grind
  rw [e, Nat.add_mul_div_left _ _ (Nat.two_pow_pos j), Nat.add_mul_mod_self_left]
theorem wv_sur : ∀ k a b, 1 ≤ b → b < a → Nat.gcd a b = 1 → eS a b = k + 2 → ∃ w, w < 2 ^ k ∧ wv k w = (a, b) := by
  intro k
  induction k with
  | zero =>
    intro a b h1 h2 hg he
    refine ⟨0, by decide, ?_⟩
    have hne : a = 2 ∧ b = 1 := by
      apply Classical.byContradiction
      intro hne
      rcases eS_pred h1 h2 hg hne with ⟨q1, q2, q3⟩ | ⟨q1, q2, q3, q4⟩
      · have := eS_ge2 h1 q1 q2
        omega
      · have := eS_ge2 q2 q1 q3
        omega
    rw [hne.1, hne.2]
    rfl
  | succ k ih =>
    intro a b h1 h2 hg he
    have hne : ¬ (a = 2 ∧ b = 1) := fun q => by
      rw [q.1, q.2, eS_21] at he
      omega
    have top : ∀ w bt, w < 2 ^ k → bt < 2 → (w + bt * 2 ^ k) / 2 ^ k % 2 = bt ∧ w + bt * 2 ^ k < 2 ^ (k + 1) := by
      intro w bt hw hbt
      refine ⟨by rw [Nat.add_mul_div_right _ _ (Nat.two_pow_pos k), Nat.div_eq_of_lt hw, Nat.zero_add, Nat.mod_eq_of_lt hbt], ?_⟩
      have : bt * 2 ^ k ≤ 1 * 2 ^ k := Nat.mul_le_mul_right _ (by omega)
      rw [Nat.pow_succ]
      omega
    rcases eS_pred h1 h2 hg hne with ⟨q1, q2, q3⟩ | ⟨q1, q2, q3, q4⟩
    · obtain ⟨w, hw, e⟩ := ih (a - b) b h1 q1 q2 (by omega)
      obtain ⟨t1, t2⟩ := top w 0 hw (by decide)
      refine ⟨w + 0 * 2 ^ k, t2, ?_⟩
      show wst (wv k (w + 0 * 2 ^ k)) _ = _
      rw [wv_low k (w + 0 * 2 ^ k) w (fun j hj => bit_up hj), e, t1]
      show (a - b + b, b) = (a, b)
      rw [show a - b + b = a by omega]
    · obtain ⟨w, hw, e⟩ := ih b (a - b) q2 q1 q3 (by omega)
      obtain ⟨t1, t2⟩ := top w 1 hw (by decide)
      refine ⟨w + 1 * 2 ^ k, t2, ?_⟩
      show wst (wv k (w + 1 * 2 ^ k)) _ = _
      rw [wv_low k (w + 1 * 2 ^ k) w (fun j hj => bit_up hj), e, t1]
      show (b + (a - b), b) = (a, b)
      rw [show b + (a - b) = a by omega]
theorem wv_inj : ∀ k w w', w < 2 ^ k → w' < 2 ^ k → wv k w = wv k w' → w = w' := by
  intro k
  induction k with
  | zero =>
    intro w w' h1 h2 _
    rw [Nat.pow_zero] at h1 h2
    omega
  | succ k ih =>
    intro w w' h1 h2 e
    have e' : wst (wv k w) (w / 2 ^ k % 2) = wst (wv k w') (w' / 2 ^ k % 2) := e
    have a1 := wv_is w k
    have a2 := wv_is w' k
    have hw := Nat.div_add_mod w (2 ^ k)
    have hw' := Nat.div_add_mod w' (2 ^ k)
    have hm := Nat.mod_lt w (Nat.two_pow_pos k)
    have hm' := Nat.mod_lt w' (Nat.two_pow_pos k)
    have hd : w / 2 ^ k < 2 := Nat.div_lt_of_lt_mul (by rw [Nat.pow_succ] at h1; omega)
    have hd' : w' / 2 ^ k < 2 := Nat.div_lt_of_lt_mul (by rw [Nat.pow_succ] at h2; omega)
    rw [Nat.mod_eq_of_lt hd, Nat.mod_eq_of_lt hd'] at e'
    unfold wst at e'
    rw [Prod.ext_iff] at e'
    obtain ⟨e1, e2⟩ := e'
    have low : ∀ x, wv k (x % 2 ^ k) = wv k x := fun x => by
      refine wv_low k _ _ (fun j hj => ?_)
      have := bit_up (k := k) (j := j) (w := x % 2 ^ k) (b := x / 2 ^ k) hj
      rw [show x % 2 ^ k + x / 2 ^ k * 2 ^ k = x by rw [Nat.mul_comm]; exact Nat.mod_add_div x _] at this
      exact this.symm
    have fin : wv k w = wv k w' → w / 2 ^ k = w' / 2 ^ k → w = w' := by
      intro q1 q2
      have := ih (w % 2 ^ k) (w' % 2 ^ k) hm hm' (by rw [low, low]; exact q1)
      rw [this, q2] at hw
      omega
    by_cases b1 : w / 2 ^ k = 0
    · by_cases b2 : w' / 2 ^ k = 0
      · rw [b1, b2] at e2
        simp only [if_true] at e1 e2
        exact fin (Prod.ext (by omega) e2) (b1.trans b2.symm)
      · rw [if_pos b1, if_neg b2] at e2
        simp only at e1 e2
        omega
    · by_cases b2 : w' / 2 ^ k = 0
      · rw [if_neg b1, if_pos b2] at e2
        simp only at e1 e2
        omega
      · rw [if_neg b1, if_neg b2] at e2
        simp only at e1 e2
        exact fin (Prod.ext e2 (by omega)) ((Nat.le_antisymm (Nat.le_of_lt_succ hd) (Nat.one_le_iff_ne_zero.mpr b1)).trans (Nat.le_antisymm (Nat.le_of_lt_succ hd') (Nat.one_le_iff_ne_zero.mpr b2)).symm)
