/-! rows of terms: floor, ceiling, even, same -/
def rTm (how u v : Int) : Int := if how = 1 then -((-u) / v) else if how = 2 then 2 * ((u + v) / (2 * v)) else u / v
def rRs (how u v : Int) : Int := if how = 1 then rTm how u v * v - u else u - rTm how u v * v
def rst (how u v : Int) : Nat → Int × Int
  | 0 => (u, v)
  | k + 1 => (if rRs how (rst how u v k).1 (rst how u v k).2 < 0 then -(rst how u v k).2 else (rst how u v k).2, ((rRs how (rst how u v k).1 (rst how u v k).2).natAbs : Int))
theorem rRs_bd {how u v : Int} (hv : 0 < v) : -v ≤ rRs how u v ∧ rRs how u v < v ∧ (how ≠ 2 → 0 ≤ rRs how u v) := by
  unfold rRs rTm
  by_cases h1 : how = 1
  · rw [if_pos h1, if_pos h1]
    have e := Int.emod_add_mul_ediv (-u) v
    have a1 := Int.emod_nonneg (-u) (show v ≠ 0 by omega)
    have a2 := Int.emod_lt_of_pos (-u) hv
    have : -(-u / v) * v - u = (-u) % v := by grind
    omega
  · rw [if_neg h1, if_neg h1]
    by_cases h2 : how = 2
    · rw [if_pos h2]
      have e := Int.emod_add_mul_ediv (u + v) (2 * v)
      have a1 := Int.emod_nonneg (u + v) (show 2 * v ≠ 0 by omega)
      have a2 := Int.emod_lt_of_pos (u + v) (show 0 < 2 * v by omega)
      have : u - 2 * ((u + v) / (2 * v)) * v = (u + v) % (2 * v) - v := by grind
      omega
    · rw [if_neg h2]
      have e := Int.emod_add_mul_ediv u v
      have a1 := Int.emod_nonneg u (show v ≠ 0 by omega)
      have a2 := Int.emod_lt_of_pos u hv
      have : u - u / v * v = u % v := by grind
      omega
theorem rTm_mul {how u v : Int} (hv : 0 < v) : -(u.natAbs + v) ≤ rTm how u v * v ∧ rTm how u v * v ≤ u.natAbs + v := by
  have h := rRs_bd (how := how) (u := u) hv
  unfold rRs at h
  by_cases h1 : how = 1
  · rw [if_pos h1] at h
    omega
  · rw [if_neg h1] at h
    omega
theorem rTm_bd {how u v : Int} (hv : 0 < v) : -(u.natAbs + v) ≤ rTm how u v ∧ rTm how u v ≤ u.natAbs + v := by
  have h := rTm_mul (how := how) (u := u) hv
  generalize rTm how u v = t at *
  have h2 : (t * v).natAbs ≤ u.natAbs + v.natAbs := by omega
  rw [Int.natAbs_mul] at h2
  have h3 := Nat.mul_le_mul (Nat.le_refl t.natAbs) (show 1 ≤ v.natAbs by omega)
  omega
theorem rst_bd {how u v B : Int} (hu : (u.natAbs : Int) ≤ B) (hv0 : 0 ≤ v) (hv : v ≤ B) : ∀ k, (∀ j, j < k → (rst how u v j).2 ≠ 0) → ((rst how u v k).1.natAbs : Int) ≤ B ∧ 0 ≤ (rst how u v k).2 ∧ (rst how u v k).2 ≤ B := by
  intro k
  induction k with
  | zero => exact fun _ => ⟨hu, hv0, hv⟩
  | succ k ih =>
    intro hn
    obtain ⟨h1, h2, h3⟩ := ih (fun j hj => hn j (by omega))
    have h4 := hn k (by omega)
    have h5 := rRs_bd (how := how) (u := (rst how u v k).1) (v := (rst how u v k).2) (by omega)
    rw [rst]
    refine ⟨?_, by simp, ?_⟩
    · show ((if _ then _ else _ : Int).natAbs : Int) ≤ B
      split
      · rw [Int.natAbs_neg]
        omega
      · omega
    · show ((rRs _ _ _).natAbs : Int) ≤ B
      omega
theorem even_by (u v : Int) (hv : 0 < v) : 2 * ((u + v) / (2 * v)) = if (u / v) % 2 = 0 then u / v else u / v + 1 := by
  have e : (u + v) / (2 * v) = (u / v + 1) / 2 := by
    rw [Int.mul_comm 2 v, ← Int.ediv_ediv_of_nonneg (by omega), show u + v = u + 1 * v by omega, Int.add_mul_ediv_right _ _ (by omega)]
  rw [e]
  split <;> omega
/-- rows that go down to nought: each is at least the sum of the next two -/
def fib : Nat → Nat
  | 0 => 1
  | 1 => 2
  | n + 2 => fib (n + 1) + fib n
theorem rst_floor {u v : Int} (hu : 0 ≤ u) (hv : 0 ≤ v) : ∀ k, (∀ j, j < k → (rst 3 u v j).2 ≠ 0) → 0 ≤ (rst 3 u v k).1 ∧ 0 ≤ (rst 3 u v k).2 ∧ ((rst 3 u v k).2 ≠ 0 → rst 3 u v (k + 1) = ((rst 3 u v k).2, (rst 3 u v k).1 % (rst 3 u v k).2)) := by
  have step : ∀ k, 0 < (rst 3 u v k).2 → rst 3 u v (k + 1) = ((rst 3 u v k).2, (rst 3 u v k).1 % (rst 3 u v k).2) := by
    intro k h
    have e : rRs 3 (rst 3 u v k).1 (rst 3 u v k).2 = (rst 3 u v k).1 % (rst 3 u v k).2 := by
      unfold rRs rTm
      rw [if_neg (by decide), if_neg (by decide), if_neg (by decide), Int.emod_def, Int.mul_comm]
    have h2 := Int.emod_nonneg (rst 3 u v k).1 (show (rst 3 u v k).2 ≠ 0 by omega)
    rw [rst, e, if_neg (by omega)]
    congr 1
    omega
  intro k
  induction k with
  | zero => exact fun _ => ⟨hu, hv, fun h => step 0 (by have h' : v ≠ 0 := h; show 0 < v; omega)⟩
  | succ k ih =>
    intro hn
    obtain ⟨h1, h2, h3⟩ := ih (fun j hj => hn j (by omega))
    have h4 := hn k (by omega)
    have h5 := h3 h4
    have h6 := Int.emod_nonneg (rst 3 u v k).1 (show (rst 3 u v k).2 ≠ 0 by omega)
    have a1 : 0 ≤ (rst 3 u v (k + 1)).1 := by rw [h5]; exact h2
    have a2 : 0 ≤ (rst 3 u v (k + 1)).2 := by rw [h5]; exact h6
    exact ⟨a1, a2, fun h => step (k + 1) (by omega)⟩
theorem rst_fib {u v : Int} (hu : 0 ≤ u) (hv : 0 < v) (N : Nat) (hn : ∀ j, j ≤ N → (rst 3 u v j).2 ≠ 0) : ∀ r, r ≤ N → (fib r : Int) ≤ (rst 3 u v (N - r)).2 ∧ (r + 1 ≤ N → (fib (r + 1) : Int) ≤ (rst 3 u v (N - (r + 1))).2) := by
  have key : ∀ k, k + 1 ≤ N → (rst 3 u v (k + 1)).2 < (rst 3 u v k).2 ∧ (k + 2 ≤ N → (rst 3 u v (k + 1)).2 + (rst 3 u v (k + 2)).2 ≤ (rst 3 u v k).2) := by
    intro k hk
    obtain ⟨h1, h2, h3⟩ := rst_floor hu (by omega) k (fun j hj => hn j (by omega))
    have h4 := h3 (hn k (by omega))
    have h5 := Int.emod_lt_of_pos (rst 3 u v k).1 (show 0 < (rst 3 u v k).2 by have := hn k (by omega); omega)
    refine ⟨by rw [h4]; exact h5, fun hk2 => ?_⟩
    obtain ⟨a1, a2, a3⟩ := rst_floor hu (by omega) (k + 1) (fun j hj => hn j (by omega))
    have a4 := a3 (hn (k + 1) (by omega))
    have e1 : (rst 3 u v (k + 1)).1 = (rst 3 u v k).2 := by rw [h4]
    have e2 : (rst 3 u v (k + 2)).2 = (rst 3 u v k).2 % (rst 3 u v (k + 1)).2 := by rw [show k + 2 = (k + 1) + 1 from rfl, a4, e1]
    have lt : (rst 3 u v (k + 1)).2 < (rst 3 u v k).2 := by rw [h4]; exact h5
    have pos : 0 < (rst 3 u v (k + 1)).2 := by have := hn (k + 1) (by omega); omega
    rw [e2]
    have e := Int.emod_add_mul_ediv (rst 3 u v k).2 (rst 3 u v (k + 1)).2
    have q1 : 1 ≤ (rst 3 u v k).2 / (rst 3 u v (k + 1)).2 := by
      apply Int.le_ediv_of_mul_le pos
      omega
    have := Int.mul_le_mul_of_nonneg_left q1 (show 0 ≤ (rst 3 u v (k + 1)).2 by omega)
    omega
  intro r
  induction r with
  | zero =>
    intro _
    have h0 := hn N (by omega)
    have h1 := (rst_floor hu (by omega) N (fun j hj => hn j (by omega))).2.1
    refine ⟨by show (1 : Int) ≤ _; rw [Nat.sub_zero]; omega, fun h => ?_⟩
    have := (key (N - 1) (by omega)).1
    rw [show N - 1 + 1 = N by omega] at this
    show (2 : Int) ≤ (rst 3 u v (N - 1)).2
    omega
  | succ r ih =>
    intro hr
    obtain ⟨h1, h2⟩ := ih (by omega)
    have h3 := h2 (by omega)
    refine ⟨h3, fun h => ?_⟩
    have h4 := (key (N - (r + 2)) (by omega)).2 (by omega)
    rw [show N - (r + 2) + 1 = N - (r + 1) by omega, show N - (r + 2) + 2 = N - r by omega] at h4
    show (fib (r + 2) : Int) ≤ (rst 3 u v (N - (r + 2))).2
    have : fib (r + 2) = fib (r + 1) + fib r := rfl
    omega
theorem rst_ex {u v : Int} (hu : 0 ≤ u) (hv : 0 < v) (hv2 : v ≤ 1000000000) : ∃ N, 1 ≤ N ∧ N ≤ 47 ∧ (rst 3 u v N).2 = 0 ∧ ∀ j, j < N → (rst 3 u v j).2 ≠ 0 := by
  have h0 : ∃ N, N ≤ 47 ∧ (rst 3 u v N).2 = 0 := by
    apply Classical.byContradiction
    intro h
    have hn : ∀ j, j ≤ 47 → (rst 3 u v j).2 ≠ 0 := fun j hj e => h ⟨j, hj, e⟩
    have := (rst_fib hu hv 47 hn 47 (by omega)).1
    have e : (rst 3 u v (47 - 47)).2 = v := rfl
    have f47 : fib 47 = 7778742049 := by decide +kernel
    rw [f47, e] at this
    omega
  have key : ∀ n, (∃ N, N ≤ n ∧ (rst 3 u v N).2 = 0) → ∃ N, N ≤ n ∧ (rst 3 u v N).2 = 0 ∧ ∀ j, j < N → (rst 3 u v j).2 ≠ 0 := by
    intro n
    induction n with
    | zero =>
      intro ⟨N, h1, h2⟩
      exact ⟨N, h1, h2, fun j hj => by omega⟩
    | succ n ih =>
      intro ⟨N, h1, h2⟩
      by_cases hs : ∃ N, N ≤ n ∧ (rst 3 u v N).2 = 0
      · obtain ⟨N, a1, a2, a3⟩ := ih hs
        exact ⟨N, by omega, a2, a3⟩
      · exact ⟨N, h1, h2, fun j hj e => hs ⟨j, by omega, e⟩⟩
  obtain ⟨N, a1, a2, a3⟩ := key 47 h0
  refine ⟨N, ?_, a1, a2, a3⟩
  rcases Nat.eq_zero_or_pos N with h | h
  · subst h
    have : v = 0 := a2
    omega
  · exact h
/-- the odd row of it -/
def smN (N : Nat) : Nat := if N % 2 = 0 ∧ 0 < N then N + 1 else N
def smT (N : Nat) (a : Nat → Int) (k : Nat) : Int := if N % 2 = 0 ∧ 0 < N then (if k + 1 = N then a k - 1 else if k = N then 1 else a k) else a k
section ROW
variable {E : sm_E} {L : sm_S → Prop} {d d1 d2 : Nat} {m : sm_M} {c : Nat}
theorem nnJ_msb (x : Int64) : (0 ≤ x) ↔ x.toBitVec.msb = false := by
  rw [Int64.le_iff_toInt_le, BitVec.msb_eq_toInt]
  show (0 : Int) ≤ x.toBitVec.toInt ↔ _
  simp
theorem jI_xor_nn {a b : Int} (h1 : -9223372036854775808 ≤ a) (h2 : a ≤ 9223372036854775807) (h3 : -9223372036854775808 ≤ b) (h4 : b ≤ 9223372036854775807) : (0 ≤ jI a ^^^ jI b) ↔ (0 ≤ a ↔ 0 ≤ b) := by
  have ea : (0 ≤ jI a) ↔ 0 ≤ a := by rw [jI_lit, jI_le (by omega) (by omega) (by omega) (by omega)]
  have eb : (0 ≤ jI b) ↔ 0 ≤ b := by rw [jI_lit, jI_le (by omega) (by omega) (by omega) (by omega)]
  rw [nnJ_msb] at ea eb
  rw [← ea, ← eb, nnJ_msb, Int64.toBitVec_xor, BitVec.msb_xor]
  cases (jI a).toBitVec.msb <;> cases (jI b).toBitVec.msb <;> simp
theorem c_floorDivJ {Q : Int64 → sm_M → Prop} {a b : Int} (h1 : -4000000000000000000 ≤ a) (h2 : a ≤ 4000000000000000000) (h3 : 0 < b) (h4 : b ≤ 4000000000000000000) (hd : 1 ≤ d) (h : Q (jI (a / b)) m) : sm_callJ E L mJ9_floorDiv_f86c9 d 0 0 [.long (jI a), .long (jI b)] m Q := by
  have hx := jI_xor_nn (a := a) (b := b) (by omega) (by omega) (by omega) (by omega)
  have ht := Int.tdiv_eq_ediv (a := a) (b := b)
  rw [Int.sign_eq_one_of_pos h3] at ht
  have e := Int.emod_add_mul_ediv a b
  have r1 := Int.emod_nonneg a (show b ≠ 0 by omega)
  have r2 := Int.emod_lt_of_pos a h3
  have hab : (a / b * b).natAbs ≤ 8000000000000000000 := by
    rw [Int.mul_comm]
    omega
  have hab1 : ((a / b + 1) * b).natAbs ≤ 9000000000000000000 := by
    rw [Int.add_mul, Int.one_mul, Int.mul_comm]
    omega
  refine vJ9_floorDiv_f86c9_0 hd ?_
  rw [jI_div (by omega) (by omega) (by omega) (by omega), hx]
  simp only [forall_eq]
  refine ⟨?_, ?_⟩
  · rw [jI_lit, jI_eq (by omega) (by omega) (by omega) (by omega)]
    show ¬ b = 0
    omega
  by_cases ha : 0 ≤ a
  · rw [if_pos (Or.inl ha), Int.add_zero] at ht
    rw [ht]
    exact ⟨fun _ => h, fun z => absurd ⟨fun _ => by omega, fun _ => ha⟩ z⟩
  · refine ⟨fun z => absurd (z.mpr (by omega)) ha, fun _ => ?_⟩
    by_cases hdv : b ∣ a
    · rw [if_pos (Or.inr hdv), Int.add_zero] at ht
      rw [ht]
      refine ⟨fun _ => h, fun z => ?_⟩
      rw [jI_mul] at z
      refine absurd ?_ z
      congr 1
      rw [Int.emod_eq_zero_of_dvd hdv, Int.mul_comm] at e
      omega
    · rw [if_neg (by omega)] at ht
      rw [ht]
      refine ⟨fun z => ?_, fun _ => ?_⟩
      · rw [jI_mul, jI_eq (by omega) (by omega) (by omega) (by omega)] at z
        exact absurd ⟨_, (by rw [Int.mul_comm]; exact z.symm)⟩ hdv
      · rw [jI_lit, jI_sub]
        have : a / b + 1 - (OfNat.ofNat 1 : Int) = a / b := by
          show a / b + 1 - 1 = a / b
          omega
        rw [this]
        exact h
theorem c_termOf {Q : Int64 → sm_M → Prop} {how u v : Int} (hd : 2 ≤ d) (hw1 : 0 ≤ how) (hw2 : how ≤ 3) (hu : (u.natAbs : Int) ≤ 4000000000) (hv : 0 < v) (hv2 : v ≤ 4000000000) (h : Q (jI (rTm how u v)) m) : sm_callJ E L mX7_termOf d 0 0 [.long (jI u), .long (jI v), .int (iI how)] m Q := by
  refine vX7_termOf_0 hd ?_
  unfold rTm at h
  simp (disch := omega) only [forall_eq, true_and, and_true, false_and, and_false, forall_const, true_implies, implies_true, not_true_eq_false, not_false_eq_true, false_implies, if_true, if_false, ↓reduceIte, Int.toNat_natCast, Int.reduceEq, Int.reduceNe, Int.reduceLT, Int.reduceLE, Int.reduceToNat, Int.reduceAdd, Int.reduceSub, Int.reduceMul, Int.reduceNeg, Nat.reduceAdd, Nat.reduceMul, Nat.reduceSub, iI_lit, jI_lit, iI_add, iI_sub, iI_mul, iI_neg, jI_add, jI_sub, jI_mul, jI_neg, nI_i, lN_j, iI_le, iI_lt, iI_eq, jI_le, jI_lt, jI_eq, iI_in, iI_cl, iI_j, jI_i, cN, inN, wI_eq, wI_ne, wJ_1, wJ_eq, wJ_ne, wI_2, wJ_3, iI_div, iI_rem, jI_div, jI_rem, true_or, or_true, false_or, or_false, eq_self, Nat.add_zero]
  refine ⟨fun _ => ⟨fun z => ?_, fun z => ?_, fun z => ?_⟩, fun z => by omega⟩
  · refine c_floorDivJ (by omega) (by omega) hv (by omega) (by omega) ?_
    rw [if_pos z] at h
    rw [jI_neg]
    exact h
  · refine c_floorDivJ (by omega) (by omega) (by omega) (by omega) (by omega) ?_
    rw [if_neg (by omega), if_pos z] at h
    rw [jI_mul]
    exact h
  · refine c_floorDivJ (by omega) (by omega) hv (by omega) (by omega) ?_
    rw [if_neg (by omega), if_neg (by omega)] at h
    exact h
def rowOK (m : sm_M) (a n : Nat) (A : Nat → Int) : Prop := m.1 a 2 = iI (n : Nat) ∧ ∀ k, k < n → m.2.1 (a + 1) k = jI (A k)
theorem c_expand_loop {Q : Int32 → sm_M → Prop} {vs : List Value} {a : Nat} {how ng u v : Int} (hT : sm_she L a) (hd : 3 ≤ d) (hw1 : 0 ≤ how) (hw2 : how ≤ 3) (hu : (u.natAbs : Int) ≤ 4000000000) (hv0 : 0 ≤ v) (hv : v ≤ 4000000000) (m0 : sm_M)
    (hK : ∀ (N : Nat) (m' : sm_M), N ≤ 48 → (∀ j, j < N → (rst how u v j).2 ≠ 0) → (N = 48 ∨ (rst how u v N).2 = 0) → fr (rsP a) m0 m' → rowOK m' a N (fun k => rTm how (rst how u v k).1 (rst how u v k).2) → (¬ how = 3 → gX7_expand_154 E L d vs a (iI ng) (jI (rst how u v N).2) m' Q) ∧ (how = 3 → sm_callV E L mX7_makeOdd 1 0 0 [.ref (sm_B E + a)] m' (fun m_1 => gX7_expand_154 E L d vs a (iI ng) (jI (rst how u v N).2) m_1 Q))) :
    ∀ (r k : Nat) (m : sm_M), k + r = 48 → (∀ j, j < k → (rst how u v j).2 ≠ 0) → fr (rsP a) m0 m → rowOK m a k (fun k => rTm how (rst how u v k).1 (rst how u v k).2) → gX7_expand_42 E L d vs a (iI how) (iI ng) (jI (rst how u v k).1) (jI (rst how u v k).2) m Q := by
  intro r
  induction r with
  | zero =>
    intro k m hk hn hf hr
    have : k = 48 := by omega
    subst this
    have h9 := hK 48 m (by omega) hn (Or.inl rfl) hf hr
    refine vX7_expand_42 hd hT ?_
    rw [hr.1]
    simp (disch := omega) only [forall_eq, true_and, and_true, false_and, and_false, forall_const, true_implies, implies_true, not_true_eq_false, not_false_eq_true, false_implies, if_true, if_false, ↓reduceIte, Int.toNat_natCast, Int.reduceEq, Int.reduceNe, Int.reduceLT, Int.reduceLE, Int.reduceToNat, Int.reduceAdd, Int.reduceSub, Int.reduceMul, Int.reduceNeg, Nat.reduceAdd, Nat.reduceMul, Nat.reduceSub, iI_lit, jI_lit, iI_add, iI_sub, iI_mul, iI_neg, jI_add, jI_sub, jI_mul, jI_neg, nI_i, lN_j, iI_le, iI_lt, iI_eq, jI_le, jI_lt, jI_eq, iI_in, iI_cl, iI_j, jI_i, cN, inN, wI_eq, wI_ne, wJ_1, wJ_eq, wJ_ne, wI_2, wJ_3, iI_div, iI_rem, jI_div, jI_rem, true_or, or_true, false_or, or_false, eq_self, Nat.add_zero]
    exact ⟨fun _ => h9, fun z => by omega⟩
  | succ r ih =>
    intro k m hk hn hf hr
    obtain ⟨b1, b2, b3⟩ := rst_bd hu hv0 hv k hn
    have hr1 := hr.1
    refine vX7_expand_42 hd hT ?_
    rw [hr1]
    by_cases hz : (rst how u v k).2 = 0
    · have h9 := hK k m (by omega) hn (Or.inr hz) hf hr
      simp (disch := omega) only [forall_eq, true_and, and_true, false_and, and_false, forall_const, true_implies, implies_true, not_true_eq_false, not_false_eq_true, false_implies, if_true, if_false, ↓reduceIte, Int.toNat_natCast, Int.reduceEq, Int.reduceNe, Int.reduceLT, Int.reduceLE, Int.reduceToNat, Int.reduceAdd, Int.reduceSub, Int.reduceMul, Int.reduceNeg, Nat.reduceAdd, Nat.reduceMul, Nat.reduceSub, iI_lit, jI_lit, iI_add, iI_sub, iI_mul, iI_neg, jI_add, jI_sub, jI_mul, jI_neg, nI_i, lN_j, iI_le, iI_lt, iI_eq, jI_le, jI_lt, jI_eq, iI_in, iI_cl, iI_j, jI_i, cN, inN, wI_eq, wI_ne, wJ_1, wJ_eq, wJ_ne, wI_2, wJ_3, iI_div, iI_rem, jI_div, jI_rem, true_or, or_true, false_or, or_false, eq_self, Nat.add_zero]
      exact ⟨fun z => by omega, fun _ => ⟨fun _ => h9, fun z => absurd hz z⟩⟩
    · have ihk := ih (k + 1)
      have rb := rRs_bd (how := how) (u := (rst how u v k).1) (v := (rst how u v k).2) (by omega)
      have tb := rTm_bd (how := how) (u := (rst how u v k).1) (v := (rst how u v k).2) (by omega)
      have tmb := rTm_mul (how := how) (u := (rst how u v k).1) (v := (rst how u v k).2) (by omega)
      have g95 : ∀ s : Int, s = rRs how (rst how u v k).1 (rst how u v k).2 → gX7_expand_95 E L d vs a (iI how) (iI ng) (jI (rst how u v k).2) (jI (rTm how (rst how u v k).1 (rst how u v k).2)) (jI s) m Q := by
        intro s hs
        have e5 : ((k : Nat) : Int) + 1 = ((k + 1 : Nat) : Int) := by omega
        have f2 : fr (rsP a) m0 (sm_wI (sm_wJ m (a + 1) k (jI (rTm how (rst how u v k).1 (rst how u v k).2))) a 2 (iI ((k + 1 : Nat) : Int))) := (hf.wJ (Or.inr rfl)).wI (Or.inl ⟨rfl, Or.inr rfl⟩)
        have ro : rowOK (sm_wI (sm_wJ m (a + 1) k (jI (rTm how (rst how u v k).1 (rst how u v k).2))) a 2 (iI ((k + 1 : Nat) : Int))) a (k + 1) (fun k => rTm how (rst how u v k).1 (rst how u v k).2) := by
          refine ⟨wI_eq rfl rfl, fun j hj => ?_⟩
          show (sm_wJ m (a + 1) k (jI (rTm how (rst how u v k).1 (rst how u v k).2))).2.1 (a + 1) j = _
          by_cases hjk : j = k
          · subst hjk
            rw [wJ_eq rfl rfl]
          · rw [wJ_ne (by omega)]
            exact hr.2 j (by omega)
        have nz : ∀ j, j < k + 1 → (rst how u v j).2 ≠ 0 := fun j hj => by
          by_cases hjk : j = k
          · subst hjk
            exact hz
          · exact hn j (by omega)
        have ihk := ihk _ (by omega) nz f2 ro
        rw [rst, ← hs] at ihk
        refine vX7_expand_95 hd hT ?_
        simp (disch := omega) only [forall_eq, true_and, and_true, false_and, and_false, forall_const, true_implies, implies_true, not_true_eq_false, not_false_eq_true, false_implies, if_true, if_false, ↓reduceIte, Int.toNat_natCast, Int.reduceEq, Int.reduceNe, Int.reduceLT, Int.reduceLE, Int.reduceToNat, Int.reduceAdd, Int.reduceSub, Int.reduceMul, Int.reduceNeg, Nat.reduceAdd, Nat.reduceMul, Nat.reduceSub, iI_lit, jI_lit, iI_add, iI_sub, iI_mul, iI_neg, jI_add, jI_sub, jI_mul, jI_neg, nI_i, lN_j, iI_le, iI_lt, iI_eq, jI_le, jI_lt, jI_eq, iI_in, iI_cl, iI_j, jI_i, cN, inN, wI_eq, wI_ne, wJ_1, wJ_eq, wJ_ne, wI_2, wJ_3, iI_div, iI_rem, jI_div, jI_rem, true_or, or_true, false_or, or_false, eq_self, Nat.add_zero, hr1, e5]
        refine ⟨by omega, fun z => c_labs (by omega) (by omega) (by omega) ?_, fun z => c_labs (by omega) (by omega) (by omega) ?_⟩
        · rw [if_neg (by omega)] at ihk
          exact ihk
        · rw [if_pos (by omega)] at ihk
          exact ihk
      simp (disch := omega) only [forall_eq, true_and, and_true, false_and, and_false, forall_const, true_implies, implies_true, not_true_eq_false, not_false_eq_true, false_implies, if_true, if_false, ↓reduceIte, Int.toNat_natCast, Int.reduceEq, Int.reduceNe, Int.reduceLT, Int.reduceLE, Int.reduceToNat, Int.reduceAdd, Int.reduceSub, Int.reduceMul, Int.reduceNeg, Nat.reduceAdd, Nat.reduceMul, Nat.reduceSub, iI_lit, jI_lit, iI_add, iI_sub, iI_mul, iI_neg, jI_add, jI_sub, jI_mul, jI_neg, nI_i, lN_j, iI_le, iI_lt, iI_eq, jI_le, jI_lt, jI_eq, iI_in, iI_cl, iI_j, jI_i, cN, inN, wI_eq, wI_ne, wJ_1, wJ_eq, wJ_ne, wI_2, wJ_3, iI_div, iI_rem, jI_div, jI_rem, true_or, or_true, false_or, or_false, eq_self, Nat.add_zero]
      refine ⟨fun z => by omega, fun _ => ⟨fun z => absurd z hz, fun _ => c_termOf (by omega) hw1 hw2 b1 (by omega) b3 ?_⟩⟩
      simp (disch := omega) only [forall_eq, true_and, and_true, false_and, and_false, forall_const, true_implies, implies_true, not_true_eq_false, not_false_eq_true, false_implies, if_true, if_false, ↓reduceIte, Int.toNat_natCast, Int.reduceEq, Int.reduceNe, Int.reduceLT, Int.reduceLE, Int.reduceToNat, Int.reduceAdd, Int.reduceSub, Int.reduceMul, Int.reduceNeg, Nat.reduceAdd, Nat.reduceMul, Nat.reduceSub, iI_lit, jI_lit, iI_add, iI_sub, iI_mul, iI_neg, jI_add, jI_sub, jI_mul, jI_neg, nI_i, lN_j, iI_le, iI_lt, iI_eq, jI_le, jI_lt, jI_eq, iI_in, iI_cl, iI_j, jI_i, cN, inN, wI_eq, wI_ne, wJ_1, wJ_eq, wJ_ne, wI_2, wJ_3, iI_div, iI_rem, jI_div, jI_rem, true_or, or_true, false_or, or_false, eq_self, Nat.add_zero]
      refine ⟨fun z => g95 _ ?_, fun z => g95 _ ?_⟩
      · rw [rRs, if_neg z]
      · rw [rRs, if_pos z]
theorem c_makeOdd {Q : sm_M → Prop} {a N : Nat} {A : Nat → Int} (hT : sm_she L a) (hd : 1 ≤ d) (hN : N ≤ 47) (hr : rowOK m a N A) (h : ∀ m', fr (rsP a) m m' → rowOK m' a (smN N) (smT N A) → Q m') : sm_callV E L mX7_makeOdd d 0 0 [.ref (sm_B E + a)] m Q := by
  obtain ⟨r1, r2⟩ := hr
  refine vX7_makeOdd_0 hd hT ?_
  have e2 : ((N : Nat) : Int).tmod 2 = ((N % 2 : Nat) : Int) := tmod_nat N 2
  simp (disch := omega) only [forall_eq, true_and, and_true, false_and, and_false, forall_const, true_implies, implies_true, not_true_eq_false, not_false_eq_true, false_implies, if_true, if_false, ↓reduceIte, Int.toNat_natCast, Int.reduceEq, Int.reduceNe, Int.reduceLT, Int.reduceLE, Int.reduceToNat, Int.reduceAdd, Int.reduceSub, Int.reduceMul, Int.reduceNeg, Nat.reduceAdd, Nat.reduceMul, Nat.reduceSub, iI_lit, jI_lit, iI_add, iI_sub, iI_mul, iI_neg, jI_add, jI_sub, jI_mul, jI_neg, nI_i, lN_j, iI_le, iI_lt, iI_eq, jI_le, jI_lt, jI_eq, iI_in, iI_cl, iI_j, jI_i, cN, inN, wI_eq, wI_ne, wJ_1, wJ_eq, wJ_ne, wI_2, wJ_3, iI_div, iI_rem, jI_div, jI_rem, true_or, or_true, false_or, or_false, eq_self, Nat.add_zero, r1, e2]
  refine ⟨fun z => h m fr.rf ?_, fun z => ⟨fun z2 => h m fr.rf ?_, fun z2 => ⟨fun z3 => by omega, fun z3 => ?_⟩⟩⟩
  · have : N = 0 := by omega
    subst this
    exact ⟨r1, fun k hk => absurd hk (Nat.not_lt_zero _)⟩
  · unfold smN
    rw [if_neg (by omega)]
    refine ⟨r1, fun k hk => ?_⟩
    rw [smT, if_neg (by omega)]
    exact r2 k hk
  · have e1 : ((N : Nat) : Int) - 1 = ((N - 1 : Nat) : Int) := by omega
    have e5 : ((N : Nat) : Int) + 1 = ((N + 1 : Nat) : Int) := by omega
    simp (disch := omega) only [forall_eq, true_and, and_true, false_and, and_false, forall_const, true_implies, implies_true, not_true_eq_false, not_false_eq_true, false_implies, if_true, if_false, ↓reduceIte, Int.toNat_natCast, Int.reduceEq, Int.reduceNe, Int.reduceLT, Int.reduceLE, Int.reduceToNat, Int.reduceAdd, Int.reduceSub, Int.reduceMul, Int.reduceNeg, Nat.reduceAdd, Nat.reduceMul, Nat.reduceSub, iI_lit, jI_lit, iI_add, iI_sub, iI_mul, iI_neg, jI_add, jI_sub, jI_mul, jI_neg, nI_i, lN_j, iI_le, iI_lt, iI_eq, jI_le, jI_lt, jI_eq, iI_in, iI_cl, iI_j, jI_i, cN, inN, wI_eq, wI_ne, wJ_1, wJ_eq, wJ_ne, wI_2, wJ_3, iI_div, iI_rem, jI_div, jI_rem, true_or, or_true, false_or, or_false, eq_self, Nat.add_zero, e1, e5, r1, r2 (N - 1) (by omega)]
    refine ⟨by omega, by omega, by omega, h _ (((fr.rf.wJ (Or.inr rfl)).wJ (Or.inr rfl)).wI (Or.inl ⟨rfl, Or.inr rfl⟩)) ?_⟩
    unfold smN
    rw [if_pos (by omega)]
    refine ⟨wI_eq rfl rfl, fun k hk => ?_⟩
    rw [smT, if_pos (by omega)]
    show (sm_wJ (sm_wJ m (a + 1) (N - 1) (jI (A (N - 1) - 1))) (a + 1) N (jI 1)).2.1 (a + 1) k = _
    by_cases h1 : k + 1 = N
    · rw [if_pos h1, wJ_ne (by omega), wJ_eq rfl (by omega), show N - 1 = k by omega]
    · rw [if_neg h1]
      by_cases h2 : k = N
      · rw [if_pos h2, wJ_eq rfl h2]
      · rw [if_neg h2, wJ_ne (by omega), wJ_ne (by omega)]
        exact r2 k (by omega)
theorem c_negate {Q : sm_M → Prop} {a N : Nat} {A : Nat → Int} (hT : sm_she L a) (hd : 1 ≤ d) (hN : N ≤ 48) (hr : rowOK m a N A) (h : ∀ m', fr (rsP a) m m' → rowOK m' a N (fun k => -(A k)) → Q m') : sm_callV E L mX7_negate d 0 0 [.ref (sm_B E + a)] m Q := by
  refine vX7_negate_0 hd hT ?_
  have key : ∀ (r k : Nat) (m1 : sm_M), k + r = N → fr (rsP a) m m1 → m1.1 a 2 = iI (N : Nat) → (∀ j, j < N → m1.2.1 (a + 1) j = jI (if j < k then -(A j) else A j)) → gX7_negate_2 E L d [.ref (sm_B E + a)] a (iI (k : Nat)) m1 Q := by
    intro r
    induction r with
    | zero =>
      intro k m1 hk hf h1 h2
      have : k = N := by omega
      subst this
      refine vX7_negate_2 hd hT ?_
      simp (disch := omega) only [forall_eq, true_and, and_true, false_and, and_false, forall_const, true_implies, implies_true, not_true_eq_false, not_false_eq_true, false_implies, if_true, if_false, ↓reduceIte, Int.toNat_natCast, Int.reduceEq, Int.reduceNe, Int.reduceLT, Int.reduceLE, Int.reduceToNat, Int.reduceAdd, Int.reduceSub, Int.reduceMul, Int.reduceNeg, Nat.reduceAdd, Nat.reduceMul, Nat.reduceSub, iI_lit, jI_lit, iI_add, iI_sub, iI_mul, iI_neg, jI_add, jI_sub, jI_mul, jI_neg, nI_i, lN_j, iI_le, iI_lt, iI_eq, jI_le, jI_lt, jI_eq, iI_in, iI_cl, iI_j, jI_i, cN, inN, wI_eq, wI_ne, wJ_1, wJ_eq, wJ_ne, wI_2, wJ_3, iI_div, iI_rem, jI_div, jI_rem, true_or, or_true, false_or, or_false, eq_self, Nat.add_zero, h1]
      refine ⟨fun _ => h m1 hf ⟨h1, fun j hj => ?_⟩, fun z => by omega⟩
      rw [h2 j hj, if_pos hj]
    | succ r ih =>
      intro k m1 hk hf h1 h2
      have e5 : ((k : Nat) : Int) + 1 = ((k + 1 : Nat) : Int) := by omega
      have hk2 := h2 k (by omega)
      rw [if_neg (by omega)] at hk2
      refine vX7_negate_2 hd hT ?_
      simp (disch := omega) only [forall_eq, true_and, and_true, false_and, and_false, forall_const, true_implies, implies_true, not_true_eq_false, not_false_eq_true, false_implies, if_true, if_false, ↓reduceIte, Int.toNat_natCast, Int.reduceEq, Int.reduceNe, Int.reduceLT, Int.reduceLE, Int.reduceToNat, Int.reduceAdd, Int.reduceSub, Int.reduceMul, Int.reduceNeg, Nat.reduceAdd, Nat.reduceMul, Nat.reduceSub, iI_lit, jI_lit, iI_add, iI_sub, iI_mul, iI_neg, jI_add, jI_sub, jI_mul, jI_neg, nI_i, lN_j, iI_le, iI_lt, iI_eq, jI_le, jI_lt, jI_eq, iI_in, iI_cl, iI_j, jI_i, cN, inN, wI_eq, wI_ne, wJ_1, wJ_eq, wJ_ne, wI_2, wJ_3, iI_div, iI_rem, jI_div, jI_rem, true_or, or_true, false_or, or_false, eq_self, Nat.add_zero, h1, hk2, e5]
      refine ⟨fun z => by omega, fun _ => ⟨by omega, by omega, ih (k + 1) _ (by omega) (hf.wJ (Or.inr rfl)) h1 (fun j hj => ?_)⟩⟩
      by_cases hjk : j = k
      · subst hjk
        rw [wJ_eq rfl rfl, if_pos (by omega)]
      · rw [wJ_ne (by omega), h2 j hj]
        by_cases hlt : j < k
        · rw [if_pos hlt, if_pos (by omega)]
        · rw [if_neg hlt, if_neg (by omega)]
  exact key N 0 m (by omega) fr.rf hr.1 (fun j hj => by rw [if_neg (by omega)]; exact hr.2 j hj)
/-- floor, ceiling, even -/
theorem c_expand {Q : Int32 → sm_M → Prop} {a : Nat} {how p q : Int} (hT : sm_she L a) (hd : 3 ≤ d) (hw1 : 0 ≤ how) (hw2 : how ≤ 2) (hp : (p.natAbs : Int) ≤ 2000000000) (hq0 : 0 ≤ q) (hq : q ≤ 2000000000)
    (h : ∀ (N : Nat) (m' : sm_M), N ≤ 48 → (∀ j, j < N → (rst how p q j).2 ≠ 0) → (N = 48 ∨ (rst how p q N).2 = 0) → fr (rsP a) m m' → rowOK m' a N (fun k => rTm how (rst how p q k).1 (rst how p q k).2) → Q (iI (if (rst how p q N).2 = 0 then 1 else 0)) m') : sm_callI E L mX7_expand d 0 0 [.ref (sm_B E + a), .int (iI p), .int (iI q), .int (iI how)] m Q := by
  refine vX7_expand_0 hd hT ?_
  refine c_reset (b := 64) (n := 0) hT (by omega) (by omega) (fun m1 f1 w1 w2 w3 => ?_)
  have go : ∀ vs, gX7_expand_42 E L d vs a (iI how) (iI 0) (jI p) (jI q) m1 Q := by
    intro vs
    refine c_expand_loop (how := how) (u := p) (v := q) hT hd hw1 (by omega) (by omega) hq0 (by omega) m (fun N m' hN hn hz hf hr => ⟨fun _ => ?_, fun h3 => by omega⟩) 48 0 m1 (by omega) (fun j hj => absurd hj (Nat.not_lt_zero _)) f1 ⟨w2, fun j hj => absurd hj (Nat.not_lt_zero _)⟩
    have h9 := h N m' hN hn hz hf hr
    obtain ⟨b1, b2, b3⟩ := rst_bd (how := how) (u := p) (v := q) (B := 2000000000) (by omega) hq0 (by omega) N hn
    refine vX7_expand_154 hd hT ?_
    simp (disch := omega) only [forall_eq, true_and, and_true, false_and, and_false, forall_const, true_implies, implies_true, not_true_eq_false, not_false_eq_true, false_implies, if_true, if_false, ↓reduceIte, Int.toNat_natCast, Int.reduceEq, Int.reduceNe, Int.reduceLT, Int.reduceLE, Int.reduceToNat, Int.reduceAdd, Int.reduceSub, Int.reduceMul, Int.reduceNeg, Nat.reduceAdd, Nat.reduceMul, Nat.reduceSub, iI_lit, jI_lit, iI_add, iI_sub, iI_mul, iI_neg, jI_add, jI_sub, jI_mul, jI_neg, nI_i, lN_j, iI_le, iI_lt, iI_eq, jI_le, jI_lt, jI_eq, iI_in, iI_cl, iI_j, jI_i, cN, inN, wI_eq, wI_ne, wJ_1, wJ_eq, wJ_ne, wI_2, wJ_3, iI_div, iI_rem, jI_div, jI_rem, true_or, or_true, false_or, or_false, eq_self, Nat.add_zero]
    refine ⟨fun z => ?_, fun z => ?_⟩
    · rw [if_neg z] at h9; exact h9
    · rw [if_pos z] at h9; exact h9
  simp (disch := omega) only [forall_eq, true_and, and_true, false_and, and_false, forall_const, true_implies, implies_true, not_true_eq_false, not_false_eq_true, false_implies, if_true, if_false, ↓reduceIte, Int.toNat_natCast, Int.reduceEq, Int.reduceNe, Int.reduceLT, Int.reduceLE, Int.reduceToNat, Int.reduceAdd, Int.reduceSub, Int.reduceMul, Int.reduceNeg, Nat.reduceAdd, Nat.reduceMul, Nat.reduceSub, iI_lit, jI_lit, iI_add, iI_sub, iI_mul, iI_neg, jI_add, jI_sub, jI_mul, jI_neg, nI_i, lN_j, iI_le, iI_lt, iI_eq, jI_le, jI_lt, jI_eq, iI_in, iI_cl, iI_j, jI_i, cN, inN, wI_eq, wI_ne, wJ_1, wJ_eq, wJ_ne, wI_2, wJ_3, iI_div, iI_rem, jI_div, jI_rem, true_or, or_true, false_or, or_false, eq_self, Nat.add_zero]
  refine ⟨fun _ => vX7_expand_21 hd hT ?_, fun z => by omega⟩
  simp (disch := omega) only [forall_eq, true_and, and_true, false_and, and_false, forall_const, true_implies, implies_true, not_true_eq_false, not_false_eq_true, false_implies, if_true, if_false, ↓reduceIte, Int.toNat_natCast, Int.reduceEq, Int.reduceNe, Int.reduceLT, Int.reduceLE, Int.reduceToNat, Int.reduceAdd, Int.reduceSub, Int.reduceMul, Int.reduceNeg, Nat.reduceAdd, Nat.reduceMul, Nat.reduceSub, iI_lit, jI_lit, iI_add, iI_sub, iI_mul, iI_neg, jI_add, jI_sub, jI_mul, jI_neg, nI_i, lN_j, iI_le, iI_lt, iI_eq, jI_le, jI_lt, jI_eq, iI_in, iI_cl, iI_j, jI_i, cN, inN, wI_eq, wI_ne, wJ_1, wJ_eq, wJ_ne, wI_2, wJ_3, iI_div, iI_rem, jI_div, jI_rem, true_or, or_true, false_or, or_false, eq_self, Nat.add_zero]
  exact go _
/-- same: the terms of a fraction -/
noncomputable def tN (p q : Int) : Nat := if h : 0 < q ∧ q ≤ 1000000000 then smN (Classical.choose (rst_ex (u := p.natAbs) (by omega) h.1 h.2)) else 0
noncomputable def tT (p q : Int) (k : Nat) : Int := if h : 0 < q ∧ q ≤ 1000000000 then (if p < 0 then -(smT (Classical.choose (rst_ex (u := p.natAbs) (by omega) h.1 h.2)) (fun k => rTm 3 (rst 3 p.natAbs q k).1 (rst 3 p.natAbs q k).2) k) else smT (Classical.choose (rst_ex (u := p.natAbs) (by omega) h.1 h.2)) (fun k => rTm 3 (rst 3 p.natAbs q k).1 (rst 3 p.natAbs q k).2) k) else 0
theorem tN_le (p q : Int) : tN p q ≤ 48 := by
  unfold tN
  split
  · rename_i h
    have := (Classical.choose_spec (rst_ex (u := p.natAbs) (by omega) h.1 h.2)).2.1
    unfold smN
    split <;> omega
  · omega
theorem rst_uniq {how u v : Int} {N M : Nat} (h1 : (rst how u v N).2 = 0) (h2 : ∀ j, j < N → (rst how u v j).2 ≠ 0) (h3 : (rst how u v M).2 = 0) (h4 : ∀ j, j < M → (rst how u v j).2 ≠ 0) : N = M := by
  rcases Nat.lt_trichotomy N M with h | h | h
  · exact absurd h1 (h4 N h)
  · exact h
  · exact absurd h3 (h2 M h)
theorem c_expandS {Q : Int32 → sm_M → Prop} {a : Nat} {p q : Int} (hT : sm_she L a) (hd : 3 ≤ d) (hp : (p.natAbs : Int) ≤ 1000000000) (hq0 : 0 ≤ q) (hq : q ≤ 1000000000) (hpq : q = 0 → 0 ≤ p)
    (h : ∀ m', fr (rsP a) m m' → rowOK m' a (tN p q) (tT p q) → Q (iI 1) m') : sm_callI E L mX7_expand d 0 0 [.ref (sm_B E + a), .int (iI p), .int (iI q), .int (iI 3)] m Q := by
  refine vX7_expand_0 hd hT ?_
  refine c_reset (b := 64) (n := 0) hT (by omega) (by omega) (fun m1 f1 w1 w2 w3 => ?_)
  have go : ∀ vs (ng : Int), (ng = 0 ∨ ng = 1) → (ng = 1 ↔ p < 0) → gX7_expand_42 E L d vs a (iI 3) (iI ng) (jI (p.natAbs : Int)) (jI q) m1 Q := by
    intro vs ng hng hng2
    refine c_expand_loop (how := 3) (u := (p.natAbs : Int)) (v := q) hT hd (by omega) (by omega) (by omega) hq0 (by omega) m (fun N m' hN hn hz hf hr => ⟨fun h3 => absurd rfl h3, fun _ => ?_⟩) 48 0 m1 (by omega) (fun j hj => absurd hj (Nat.not_lt_zero _)) f1 ⟨w2, fun j hj => absurd hj (Nat.not_lt_zero _)⟩
    by_cases hq1 : q = 0
    · subst hq1
      have hN0 : N = 0 := by
        rcases Nat.eq_zero_or_pos N with e | e
        · exact e
        · exact absurd rfl (hn 0 e)
      subst hN0
      have hng0 : ng = 0 := by have := hpq rfl; omega
      subst hng0
      have t0 : tN p 0 = 0 := by unfold tN; rw [dif_neg (by omega)]
      refine c_makeOdd hT (by omega) (by omega) hr (fun m2 f2 r2 => vX7_expand_154 hd hT ?_)
      have : (rst 3 (p.natAbs : Int) 0 0).2 = 0 := rfl
      rw [this]
      simp (disch := omega) only [forall_eq, true_and, and_true, false_and, and_false, forall_const, true_implies, implies_true, not_true_eq_false, not_false_eq_true, false_implies, if_true, if_false, ↓reduceIte, Int.toNat_natCast, Int.reduceEq, Int.reduceNe, Int.reduceLT, Int.reduceLE, Int.reduceToNat, Int.reduceAdd, Int.reduceSub, Int.reduceMul, Int.reduceNeg, Nat.reduceAdd, Nat.reduceMul, Nat.reduceSub, iI_lit, jI_lit, iI_add, iI_sub, iI_mul, iI_neg, jI_add, jI_sub, jI_mul, jI_neg, nI_i, lN_j, iI_le, iI_lt, iI_eq, jI_le, jI_lt, jI_eq, iI_in, iI_cl, iI_j, jI_i, cN, inN, wI_eq, wI_ne, wJ_1, wJ_eq, wJ_ne, wI_2, wJ_3, iI_div, iI_rem, jI_div, jI_rem, true_or, or_true, false_or, or_false, eq_self, Nat.add_zero]
      refine h m2 (hf.tr f2) ?_
      rw [t0]
      exact ⟨r2.1, fun k hk => absurd hk (Nat.not_lt_zero _)⟩
    · have hqp : 0 < q ∧ q ≤ 1000000000 := by omega
      obtain ⟨c1, c2, c3, c4⟩ := Classical.choose_spec (rst_ex (u := p.natAbs) (by omega) hqp.1 hqp.2)
      have eN : tN p q = smN (Classical.choose (rst_ex (u := p.natAbs) (by omega) hqp.1 hqp.2)) := by unfold tN; rw [dif_pos hqp]
      have eT : ∀ k, tT p q k = (if p < 0 then -(smT (Classical.choose (rst_ex (u := p.natAbs) (by omega) hqp.1 hqp.2)) (fun k => rTm 3 (rst 3 p.natAbs q k).1 (rst 3 p.natAbs q k).2) k) else smT (Classical.choose (rst_ex (u := p.natAbs) (by omega) hqp.1 hqp.2)) (fun k => rTm 3 (rst 3 p.natAbs q k).1 (rst 3 p.natAbs q k).2) k) := fun k => by unfold tT; rw [dif_pos hqp]
      generalize Classical.choose (rst_ex (u := p.natAbs) (by omega) hqp.1 hqp.2) = M at c1 c2 c3 c4 eN eT
      have hNM : N = M := by
        rcases hz with e | e
        · exact absurd c3 (hn M (by omega))
        · exact rst_uniq e hn c3 c4
      subst hNM
      refine c_makeOdd hT (by omega) c2 hr (fun m2 f2 r2 => vX7_expand_154 hd hT ?_)
      have hs : smN N ≤ 48 := by unfold smN; split <;> omega
      rw [c3]
      rcases hng with rfl | rfl
      · simp (disch := omega) only [forall_eq, true_and, and_true, false_and, and_false, forall_const, true_implies, implies_true, not_true_eq_false, not_false_eq_true, false_implies, if_true, if_false, ↓reduceIte, Int.toNat_natCast, Int.reduceEq, Int.reduceNe, Int.reduceLT, Int.reduceLE, Int.reduceToNat, Int.reduceAdd, Int.reduceSub, Int.reduceMul, Int.reduceNeg, Nat.reduceAdd, Nat.reduceMul, Nat.reduceSub, iI_lit, jI_lit, iI_add, iI_sub, iI_mul, iI_neg, jI_add, jI_sub, jI_mul, jI_neg, nI_i, lN_j, iI_le, iI_lt, iI_eq, jI_le, jI_lt, jI_eq, iI_in, iI_cl, iI_j, jI_i, cN, inN, wI_eq, wI_ne, wJ_1, wJ_eq, wJ_ne, wI_2, wJ_3, iI_div, iI_rem, jI_div, jI_rem, true_or, or_true, false_or, or_false, eq_self, Nat.add_zero]
        refine h m2 (hf.tr f2) ?_
        rw [eN]
        refine ⟨r2.1, fun k hk => ?_⟩
        rw [eT, if_neg (by omega)]
        exact r2.2 k hk
      · simp (disch := omega) only [forall_eq, true_and, and_true, false_and, and_false, forall_const, true_implies, implies_true, not_true_eq_false, not_false_eq_true, false_implies, if_true, if_false, ↓reduceIte, Int.toNat_natCast, Int.reduceEq, Int.reduceNe, Int.reduceLT, Int.reduceLE, Int.reduceToNat, Int.reduceAdd, Int.reduceSub, Int.reduceMul, Int.reduceNeg, Nat.reduceAdd, Nat.reduceMul, Nat.reduceSub, iI_lit, jI_lit, iI_add, iI_sub, iI_mul, iI_neg, jI_add, jI_sub, jI_mul, jI_neg, nI_i, lN_j, iI_le, iI_lt, iI_eq, jI_le, jI_lt, jI_eq, iI_in, iI_cl, iI_j, jI_i, cN, inN, wI_eq, wI_ne, wJ_1, wJ_eq, wJ_ne, wI_2, wJ_3, iI_div, iI_rem, jI_div, jI_rem, true_or, or_true, false_or, or_false, eq_self, Nat.add_zero]
        refine c_negate hT (by omega) hs r2 (fun m3 f3 r3 => h m3 ((hf.tr f2).tr f3) ?_)
        rw [eN]
        refine ⟨r3.1, fun k hk => ?_⟩
        rw [eT, if_pos (by omega)]
        exact r3.2 k hk
  simp (disch := omega) only [forall_eq, true_and, and_true, false_and, and_false, forall_const, true_implies, implies_true, not_true_eq_false, not_false_eq_true, false_implies, if_true, if_false, ↓reduceIte, Int.toNat_natCast, Int.reduceEq, Int.reduceNe, Int.reduceLT, Int.reduceLE, Int.reduceToNat, Int.reduceAdd, Int.reduceSub, Int.reduceMul, Int.reduceNeg, Nat.reduceAdd, Nat.reduceMul, Nat.reduceSub, iI_lit, jI_lit, iI_add, iI_sub, iI_mul, iI_neg, jI_add, jI_sub, jI_mul, jI_neg, nI_i, lN_j, iI_le, iI_lt, iI_eq, jI_le, jI_lt, jI_eq, iI_in, iI_cl, iI_j, jI_i, cN, inN, wI_eq, wI_ne, wJ_1, wJ_eq, wJ_ne, wI_2, wJ_3, iI_div, iI_rem, jI_div, jI_rem, true_or, or_true, false_or, or_false, eq_self, Nat.add_zero]
  refine ⟨fun z => vX7_expand_21 hd hT ?_, fun z => vX7_expand_21 hd hT ?_⟩
  · simp (disch := omega) only [forall_eq, true_and, and_true, false_and, and_false, forall_const, true_implies, implies_true, not_true_eq_false, not_false_eq_true, false_implies, if_true, if_false, ↓reduceIte, Int.toNat_natCast, Int.reduceEq, Int.reduceNe, Int.reduceLT, Int.reduceLE, Int.reduceToNat, Int.reduceAdd, Int.reduceSub, Int.reduceMul, Int.reduceNeg, Nat.reduceAdd, Nat.reduceMul, Nat.reduceSub, iI_lit, jI_lit, iI_add, iI_sub, iI_mul, iI_neg, jI_add, jI_sub, jI_mul, jI_neg, nI_i, lN_j, iI_le, iI_lt, iI_eq, jI_le, jI_lt, jI_eq, iI_in, iI_cl, iI_j, jI_i, cN, inN, wI_eq, wI_ne, wJ_1, wJ_eq, wJ_ne, wI_2, wJ_3, iI_div, iI_rem, jI_div, jI_rem, true_or, or_true, false_or, or_false, eq_self, Nat.add_zero]
    have := go [.ref (sm_B E + a), .int (iI p), .int (iI q), .int (iI 3)] 0 (Or.inl rfl) ⟨fun e => by omega, fun e => by omega⟩
    rw [show (p.natAbs : Int) = p by omega] at this
    exact this
  · simp (disch := omega) only [forall_eq, true_and, and_true, false_and, and_false, forall_const, true_implies, implies_true, not_true_eq_false, not_false_eq_true, false_implies, if_true, if_false, ↓reduceIte, Int.toNat_natCast, Int.reduceEq, Int.reduceNe, Int.reduceLT, Int.reduceLE, Int.reduceToNat, Int.reduceAdd, Int.reduceSub, Int.reduceMul, Int.reduceNeg, Nat.reduceAdd, Nat.reduceMul, Nat.reduceSub, iI_lit, jI_lit, iI_add, iI_sub, iI_mul, iI_neg, jI_add, jI_sub, jI_mul, jI_neg, nI_i, lN_j, iI_le, iI_lt, iI_eq, jI_le, jI_lt, jI_eq, iI_in, iI_cl, iI_j, jI_i, cN, inN, wI_eq, wI_ne, wJ_1, wJ_eq, wJ_ne, wI_2, wJ_3, iI_div, iI_rem, jI_div, jI_rem, true_or, or_true, false_or, or_false, eq_self, Nat.add_zero]
    have := go [.ref (sm_B E + a), .int (iI p), .int (iI q), .int (iI 3)] 1 (Or.inr rfl) ⟨fun e => by omega, fun e => rfl⟩
    rw [show (p.natAbs : Int) = -p by omega] at this
    exact this
end ROW
