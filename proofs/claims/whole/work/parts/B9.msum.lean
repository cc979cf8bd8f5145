/-! the reference's sums -/
def MV (m : sm_M) (n : Nat) (G : Nat → Nat → Int) : Prop := ∀ i k, i < 24 → k < n → m.1 144 (80 * i + k) = iI (G i k)
def smP (a _k : Nat) : Prop := a = 144
def GbN (c n p : Nat) (G : Nat → Nat → Int) : Prop := ∀ i k, i < c → k < n → 0 ≤ G i k ∧ G i k < p
theorem smP_sc {a k : Nat} (h : smP a k) : scM a k := by
  unfold smP at h
  unfold scM
  omega
theorem MV.w {m : sm_M} {n i k : Nat} {G : Nat → Nat → Int} {v : Int} (h : MV m n G) (hn : n ≤ 80) (hk : k < n) : MV (sm_wI m 144 (80 * i + k) (iI v)) n (upG G i k v) := by
  intro i' k' hi' hk'
  rw [upG_at]
  by_cases hq : i' = i ∧ k' = k
  · rw [if_pos hq, wI_eq rfl (by omega)]
  · rw [if_neg hq, wI_ne (Or.inr (by omega))]
    exact h i' k' hi' hk'
theorem MV.cg {m : sm_M} {n : Nat} {G G' : Nat → Nat → Int} (h : MV m n G) (he : ∀ i k, i < 24 → k < n → G i k = G' i k) : MV m n G' := fun i k hi hk => by rw [← he i k hi hk]; exact h i k hi hk
section MSM
variable {E : sm_E} {L : sm_S → Prop} {d d1 d2 : Nat} {c n : Nat} {m : sm_M} {G : Nat → Nat → Int}
theorem c12_at {Q : Int32 → sm_M → Prop} {i k : Nat} (hly : ∀ S, L S → ly S) (hd : 1 ≤ d) (hV : MV m n G) (hn : n ≤ 80) (hi : i < 24) (hk : k < n) (h : Q (iI (G i k)) m) : sm_callI E L mX12_at d 0 0 [.ref (sm_B E + 109), .int (iI (i : Nat)), .int (iI (k : Nat))] m Q := by
  have e : (80 * (i : Int) + (k : Int)).toNat = 80 * i + k := by omega
  refine vX12_at_0 hly hd ?_
  simp (disch := omega) only [forall_eq, true_and, and_true, false_and, and_false, forall_const, true_implies, implies_true, not_true_eq_false, not_false_eq_true, false_implies, if_true, if_false, ↓reduceIte, Int.toNat_natCast, Int.reduceEq, Int.reduceNe, Int.reduceLT, Int.reduceLE, Int.reduceToNat, Int.reduceAdd, Int.reduceSub, Int.reduceMul, Int.reduceNeg, Nat.reduceAdd, Nat.reduceMul, Nat.reduceSub, iI_lit, jI_lit, iI_add, iI_sub, iI_mul, iI_neg, jI_add, jI_sub, jI_mul, jI_neg, nI_i, lN_j, iI_le, iI_lt, iI_eq, jI_le, jI_lt, jI_eq, iI_in, iI_cl, iI_j, jI_i, cN, inN, wI_eq, wI_ne, wJ_1, wJ_eq, wJ_ne, wI_2, wJ_3, iI_div, iI_rem, jI_div, jI_rem, true_or, or_true, false_or, or_false, eq_self, Nat.add_zero, e, hV i k hi hk]
  exact ⟨by omega, h⟩
theorem c12_turned_loop {Q : Int32 → sm_M → Prop} {vs : List Value} {p v : Nat} (hd : 1 ≤ d) (hp : p ≤ 13) (hp2 : 2 ≤ p) (hv : v < p) (h : ∀ y, 1 ≤ y → y < p → v * y % p = 1 → Q (iI (y : Nat)) m) :
    ∀ (r i : Nat), i + r = p → 1 ≤ i → (∃ y, i ≤ y ∧ y < p ∧ v * y % p = 1) → gX12_turned_2 E L d vs (iI (v : Nat)) (iI (p : Nat)) (iI (i : Nat)) m Q := by
  intro r
  induction r with
  | zero => intro i hi _ hy; obtain ⟨y, a, b, _⟩ := hy; omega
  | succ r ih =>
    intro i hi hi1 hy
    have u2 : (p : Int) ≠ 0 := by omega
    have hvi : v * i ≤ 13 * 13 := Nat.mul_le_mul (by omega) (by omega)
    have e1 : (i : Int) * (v : Int) = ((v * i : Nat) : Int) := by rw [Int.mul_comm]; rfl
    have e2 : (((v * i : Nat) : Int).tmod (p : Int)) = ((v * i % p : Nat) : Int) := rfl
    have hml : v * i % p < p := Nat.mod_lt _ (by omega)
    refine vX12_turned_2 hd ?_
    simp (disch := omega) only [forall_eq, true_and, and_true, false_and, and_false, forall_const, true_implies, implies_true, not_true_eq_false, not_false_eq_true, false_implies, if_true, if_false, ↓reduceIte, Int.toNat_natCast, Int.reduceEq, Int.reduceNe, Int.reduceLT, Int.reduceLE, Int.reduceToNat, Int.reduceAdd, Int.reduceSub, Int.reduceMul, Int.reduceNeg, Nat.reduceAdd, Nat.reduceMul, Nat.reduceSub, iI_lit, jI_lit, iI_add, iI_sub, iI_mul, iI_neg, jI_add, jI_sub, jI_mul, jI_neg, nI_i, lN_j, iI_le, iI_lt, iI_eq, jI_le, jI_lt, jI_eq, iI_in, iI_cl, iI_j, jI_i, cN, inN, wI_eq, wI_ne, wJ_1, wJ_eq, wJ_ne, wI_2, wJ_3, iI_div, iI_rem, jI_div, jI_rem, true_or, or_true, false_or, or_false, eq_self, Nat.add_zero, u2, e1, e2]
    refine ⟨fun q => h i hi1 (by omega) (by omega), fun q => ?_⟩
    refine ih (i + 1) (by omega) (by omega) ?_
    obtain ⟨y, a, b, e⟩ := hy
    refine ⟨y, ?_, b, e⟩
    have : y ≠ i := fun z => by subst z; omega
    omega
theorem c12_turned {Q : Int32 → sm_M → Prop} {p v : Nat} (hd : 1 ≤ d) (hp : isP p) (hv1 : 1 ≤ v) (hv : v < p) (h : ∀ y, 1 ≤ y → y < p → v * y % p = 1 → Q (iI (y : Nat)) m) : sm_callI E L mX12_turned d 0 0 [.int (iI (v : Nat)), .int (iI (p : Nat))] m Q := by
  have hp2 : 2 ≤ p ∧ p ≤ 13 := by unfold isP at hp; omega
  refine vX12_turned_0 hd ?_
  rw [iI_lit]
  exact c12_turned_loop hd hp2.2 hp2.1 hv h (p - 1) 1 (by omega) (by omega) (invP_ex hp hv1 hv)
theorem c12_szero {Q : Int32 → sm_M → Prop} {vs : List Value} {x3 : Int32} {m0 : sm_M} (hly : ∀ S, L S → ly S) (hd : 5 ≤ d) (hn : n ≤ 80) (h : ∀ m', fr smP m0 m' → MV m' n (fun _ _ => 0) → gX12_colours_105 E L d vs x3 (iI 0) m' Q) :
    ∀ (r x : Nat) (m : sm_M), x + r = 1920 → fr smP m0 m → (∀ q, q < x → m.1 144 q = iI 0) → gX12_colours_78 E L d vs x3 (iI (x : Nat)) m Q := by
  intro r
  induction r with
  | zero =>
    intro x m hx f1 hz
    have hx2 : x = 1920 := by omega
    subst hx2
    refine vX12_colours_78 hly hd ?_
    simp (disch := omega) only [forall_eq, true_and, and_true, false_and, and_false, forall_const, true_implies, implies_true, not_true_eq_false, not_false_eq_true, false_implies, if_true, if_false, ↓reduceIte, Int.toNat_natCast, Int.reduceEq, Int.reduceNe, Int.reduceLT, Int.reduceLE, Int.reduceToNat, Int.reduceAdd, Int.reduceSub, Int.reduceMul, Int.reduceNeg, Nat.reduceAdd, Nat.reduceMul, Nat.reduceSub, iI_lit, jI_lit, iI_add, iI_sub, iI_mul, iI_neg, jI_add, jI_sub, jI_mul, jI_neg, nI_i, lN_j, iI_le, iI_lt, iI_eq, jI_le, jI_lt, jI_eq, iI_in, iI_cl, iI_j, jI_i, cN, inN, wI_eq, wI_ne, wJ_1, wJ_eq, wJ_ne, wI_2, wJ_3, iI_div, iI_rem, jI_div, jI_rem, true_or, or_true, false_or, or_false, eq_self, Nat.add_zero, Int.le_refl]
    exact h m f1 (fun i k hi hk => hz _ (by omega))
  | succ r ih =>
    intro x m hx f1 hz
    have nx := ih (x + 1)
    have u : ¬ (((1920 : Nat) : Int) ≤ (x : Int)) := by omega
    refine vX12_colours_78 hly hd ?_
    simp (disch := omega) only [forall_eq, true_and, and_true, false_and, and_false, forall_const, true_implies, implies_true, not_true_eq_false, not_false_eq_true, false_implies, if_true, if_false, ↓reduceIte, Int.toNat_natCast, Int.reduceEq, Int.reduceNe, Int.reduceLT, Int.reduceLE, Int.reduceToNat, Int.reduceAdd, Int.reduceSub, Int.reduceMul, Int.reduceNeg, Nat.reduceAdd, Nat.reduceMul, Nat.reduceSub, iI_lit, jI_lit, iI_add, iI_sub, iI_mul, iI_neg, jI_add, jI_sub, jI_mul, jI_neg, nI_i, lN_j, iI_le, iI_lt, iI_eq, jI_le, jI_lt, jI_eq, iI_in, iI_cl, iI_j, jI_i, cN, inN, wI_eq, wI_ne, wJ_1, wJ_eq, wJ_ne, wI_2, wJ_3, iI_div, iI_rem, jI_div, jI_rem, true_or, or_true, false_or, or_false, eq_self, Nat.add_zero, u]
    refine ⟨by omega, nx _ (by omega) (f1.wI rfl) (fun q hq => ?_)⟩
    by_cases hqx : q = x
    · rw [wI_eq rfl hqx]
    · rw [wI_ne (Or.inr hqx)]
      exact hz q (by omega)
/-- a row's remainders -/
theorem c12_rowmod {Q : Int32 → sm_M → Prop} {vs : List Value} {p b : Nat} {m0 : sm_M} {H : Nat → Nat → Int} (hly : ∀ S, L S → ly S) (hd : 5 ≤ d) (hn : n ≤ 80) (hb : b < 24) (hp1 : 2 ≤ p) (hp2 : p ≤ 13) (hH : ∀ k, k < n → 0 ≤ H b k ∧ H b k ≤ 1000) (v58 : m0.1 109 58 = iI (n : Nat)) (h : ∀ m', fr smP m0 m' → MV m' n (fun i k => if i = b then H b k % (p : Int) else H i k) → gX12_colours_105 E L d vs (iI (p : Nat)) (iI ((b + 1 : Nat) : Int)) m' Q) :
    ∀ (r x : Nat) (m : sm_M), x + r = n → fr smP m0 m → MV m n (fun i k => if i = b ∧ k < x then H b k % (p : Int) else H i k) → gX12_colours_187 E L d vs (iI (p : Nat)) (iI (b : Nat)) (iI (x : Nat)) m Q := by
  intro r
  induction r with
  | zero =>
    intro x m hx f1 hV
    have hx2 : x = n := by omega
    subst hx2
    have w58 : m.1 109 58 = iI (x : Nat) := (f1.i (by unfold smP; omega)).trans v58
    refine vX12_colours_187 hly hd ?_
    simp (disch := omega) only [forall_eq, true_and, and_true, false_and, and_false, forall_const, true_implies, implies_true, not_true_eq_false, not_false_eq_true, false_implies, if_true, if_false, ↓reduceIte, Int.toNat_natCast, Int.reduceEq, Int.reduceNe, Int.reduceLT, Int.reduceLE, Int.reduceToNat, Int.reduceAdd, Int.reduceSub, Int.reduceMul, Int.reduceNeg, Nat.reduceAdd, Nat.reduceMul, Nat.reduceSub, iI_lit, jI_lit, iI_add, iI_sub, iI_mul, iI_neg, jI_add, jI_sub, jI_mul, jI_neg, nI_i, lN_j, iI_le, iI_lt, iI_eq, jI_le, jI_lt, jI_eq, iI_in, iI_cl, iI_j, jI_i, cN, inN, wI_eq, wI_ne, wJ_1, wJ_eq, wJ_ne, wI_2, wJ_3, iI_div, iI_rem, jI_div, jI_rem, true_or, or_true, false_or, or_false, eq_self, Nat.add_zero, w58, Int.le_refl]
    refine h m f1 (hV.cg (fun i k hi hk => ?_))
    by_cases hib : i = b
    · rw [if_pos ⟨hib, hk⟩, if_pos hib]
    · rw [if_neg (fun q => hib q.1), if_neg hib]
  | succ r ih =>
    intro x m hx f1 hV
    have nx := ih (x + 1)
    clear ih
    have w58 : m.1 109 58 = iI (n : Nat) := (f1.i (by unfold smP; omega)).trans v58
    have u : ¬ ((n : Int) ≤ (x : Int)) := by omega
    have u2 : (p : Int) ≠ 0 := by omega
    have e : (80 * (b : Int) + (x : Int)).toNat = 80 * b + x := by omega
    have v := hV b x hb (by omega)
    simp only at v
    rw [if_neg (by omega)] at v
    have hb0 := hH x (by omega)
    have e2 : (H b x).tmod (p : Int) = H b x % (p : Int) := Int.tmod_eq_emod_of_nonneg hb0.1
    refine vX12_colours_187 hly hd ?_
    simp (disch := omega) only [forall_eq, true_and, and_true, false_and, and_false, forall_const, true_implies, implies_true, not_true_eq_false, not_false_eq_true, false_implies, if_true, if_false, ↓reduceIte, Int.toNat_natCast, Int.reduceEq, Int.reduceNe, Int.reduceLT, Int.reduceLE, Int.reduceToNat, Int.reduceAdd, Int.reduceSub, Int.reduceMul, Int.reduceNeg, Nat.reduceAdd, Nat.reduceMul, Nat.reduceSub, iI_lit, jI_lit, iI_add, iI_sub, iI_mul, iI_neg, jI_add, jI_sub, jI_mul, jI_neg, nI_i, lN_j, iI_le, iI_lt, iI_eq, jI_le, jI_lt, jI_eq, iI_in, iI_cl, iI_j, jI_i, cN, inN, wI_eq, wI_ne, wJ_1, wJ_eq, wJ_ne, wI_2, wJ_3, iI_div, iI_rem, jI_div, jI_rem, true_or, or_true, false_or, or_false, eq_self, Nat.add_zero, w58, u, u2, e, v, e2]
    refine ⟨by omega, by omega, nx _ (by omega) (f1.wI rfl) ((hV.w hn (by omega)).cg (fun i k hi hk => ?_))⟩
    rw [upG_at]
    by_cases hq : i = b ∧ k = x
    · rw [if_pos hq, if_pos ⟨hq.1, by omega⟩, hq.2]
    · rw [if_neg hq]
      by_cases hq2 : i = b ∧ k < x
      · rw [if_pos hq2, if_pos ⟨hq2.1, by omega⟩]
      · rw [if_neg hq2, if_neg (by omega)]
end MSM
