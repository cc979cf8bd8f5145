/-! the book -/
theorem pk_val {p q : Int} (p1 : 0 ≤ p) (p2 : p ≤ 1000000000) (q1 : 0 ≤ q) (q2 : q ≤ 1000000000) : pk p q = jI (p * 4294967296 + q) := by
  obtain ⟨P, rfl⟩ : ∃ n : Nat, p = (n : Int) := ⟨p.toNat, by omega⟩
  obtain ⟨Q, rfl⟩ : ∃ n : Nat, q = (n : Int) := ⟨q.toNat, by omega⟩
  have h1 : ∀ n : Nat, n ≤ 1000000000 → (iI (n : Int)).toInt64.toBitVec.toNat = n := by
    intro n hn
    rw [iI_j (by omega) (by omega)]
    show (BitVec.ofInt 64 (n : Int)).toNat = n
    rw [BitVec.ofInt_natCast, BitVec.toNat_ofNat, Nat.mod_eq_of_lt (by omega)]
  unfold pk
  apply Int64.toBitVec_inj.mp
  apply BitVec.eq_of_toNat_eq
  rw [show ((32 : Int32).toInt64 &&& 63) = (32 : Int64) by decide, Int64.toBitVec_or, Int64.toBitVec_shiftLeft, show (32 : Int64).toBitVec.smod (64 : BitVec 64) = 32#64 by decide, BitVec.toNat_or, BitVec.shiftLeft_eq', BitVec.toNat_shiftLeft, h1 P (by omega), h1 Q (by omega)]
  rw [show (32#64).toNat = 32 by decide, Nat.shiftLeft_eq, Nat.mod_eq_of_lt (by omega)]
  show _ = (BitVec.ofInt 64 ((P : Int) * 4294967296 + (Q : Int))).toNat
  rw [show (P : Int) * 4294967296 + (Q : Int) = ((P * 4294967296 + Q : Nat) : Int) by omega, BitVec.ofInt_natCast, BitVec.toNat_ofNat, Nat.mod_eq_of_lt (show P * 4294967296 + Q < 2 ^ 64 by omega)]
  rw [← Nat.shiftLeft_eq, ← Nat.shiftLeft_add_eq_or_of_lt (show Q < 2 ^ 32 by omega), Nat.shiftLeft_eq]
theorem pkv_inj {p q p' q' : Int} (p1 : 0 ≤ p) (p2 : p ≤ 1000000000) (q1 : 0 ≤ q) (q2 : q ≤ 1000000000) (p1' : 0 ≤ p') (p2' : p' ≤ 1000000000) (q1' : 0 ≤ q') (q2' : q' ≤ 1000000000) : (pk p q = pk p' q') ↔ (p = p' ∧ q = q') := by
  rw [pk_val p1 p2 q1 q2, pk_val p1' p2' q1' q2', jI_eq (by omega) (by omega) (by omega) (by omega)]
  omega
theorem pkv_le {p q p' q' : Int} (p1 : 0 ≤ p) (p2 : p ≤ 1000000000) (q1 : 0 ≤ q) (q2 : q ≤ 1000000000) (p1' : 0 ≤ p') (p2' : p' ≤ 1000000000) (q1' : 0 ≤ q') (q2' : q' ≤ 1000000000) : (pk p q ≤ pk p' q') ↔ (p < p' ∨ (p = p' ∧ q ≤ q')) := by
  rw [pk_val p1 p2 q1 q2, pk_val p1' p2' q1' q2', jI_le (by omega) (by omega) (by omega) (by omega)]
  omega
/-- how many -/
def cnt (f : Nat → Bool) : Nat → Nat
  | 0 => 0
  | n + 1 => cnt f n + (if f n then 1 else 0)
theorem cnt_le {f g : Nat → Bool} {n : Nat} (h : ∀ k, k < n → f k = true → g k = true) : cnt f n ≤ cnt g n := by
  induction n with
  | zero => exact Nat.le_refl _
  | succ n ih =>
    have h1 := ih (fun k hk => h k (by omega))
    have h2 := h n (by omega)
    rw [cnt, cnt]
    by_cases hf : f n = true
    · rw [if_pos hf, if_pos (h2 hf)]
      omega
    · rw [if_neg hf]
      omega
theorem cnt_lt {f g : Nat → Bool} {n : Nat} (h : ∀ k, k < n → f k = true → g k = true) (hx : ∃ k, k < n ∧ g k = true ∧ f k = false) : cnt f n < cnt g n := by
  induction n with
  | zero =>
    obtain ⟨k, hk, -⟩ := hx
    exact absurd hk (Nat.not_lt_zero _)
  | succ n ih =>
    obtain ⟨k, hk, h1, h2⟩ := hx
    rw [cnt, cnt]
    by_cases hkn : k = n
    · subst hkn
      have := cnt_le (n := k) (fun j hj => h j (by omega))
      rw [if_pos h1, if_neg (by rw [h2]; decide)]
      omega
    · have h3 := ih (fun j hj => h j (by omega)) ⟨k, by omega, h1, h2⟩
      have h4 := h n (by omega)
      by_cases hf : f n = true
      · rw [if_pos hf, if_pos (h4 hf)]
        omega
      · rw [if_neg hf]
        omega
theorem cnt_true (n : Nat) : cnt (fun _ => true) n = n := by
  induction n with
  | zero => rfl
  | succ n ih => rw [cnt, ih]; rfl
theorem php : ∀ (n : Nat) (f : Nat → Nat), (∀ i, i < n → f i < n) → (∀ i j, i < n → j < n → f i = f j → i = j) → ∀ r, r < n → ∃ i, i < n ∧ f i = r := by
  intro n
  induction n with
  | zero => exact fun f _ _ r hr => absurd hr (Nat.not_lt_zero _)
  | succ n ih =>
    intro f h1 h2 r hr
    have hne : ∀ i, i < n → f i ≠ f n := fun i hi h => by
      have := h2 i n (by omega) (by omega) h
      omega
    have hv := h1 n (by omega)
    have key := ih (fun i => if f i < f n then f i else f i - 1) (fun i hi => by
      have a1 := h1 i (by omega)
      have a2 := hne i hi
      show (if f i < f n then f i else f i - 1) < n
      split <;> omega) (fun i j hi hj h => by
      have a1 := hne i hi
      have a2 := hne j hj
      have h' : (if f i < f n then f i else f i - 1) = (if f j < f n then f j else f j - 1) := h
      refine h2 i j (by omega) (by omega) ?_
      split at h' <;> split at h' <;> omega)
    by_cases hrv : r = f n
    · exact ⟨n, by omega, hrv.symm⟩
    · by_cases hlt : r < f n
      · obtain ⟨i, hi, e⟩ := key r (by omega)
        have e' : (if f i < f n then f i else f i - 1) = r := e
        have a1 := hne i hi
        refine ⟨i, by omega, ?_⟩
        split at e' <;> omega
      · obtain ⟨i, hi, e⟩ := key (r - 1) (by omega)
        have e' : (if f i < f n then f i else f i - 1) = r - 1 := e
        have a1 := hne i hi
        refine ⟨i, by omega, ?_⟩
        split at e' <;> omega
/-- whether entry j comes ahead of entry i -/
def ahd (p q w : Nat → Int) (j i : Nat) : Bool := decide (w i < w j ∨ (w j = w i ∧ (p j < p i ∨ (p j = p i ∧ q j < q i))))
def rnk (p q w : Nat → Int) (n i : Nat) : Nat := cnt (fun j => ahd p q w j i) n
theorem rnk_lt {p q w : Nat → Int} {n i : Nat} (hi : i < n) : rnk p q w n i < n := by
  have := cnt_lt (f := fun j => ahd p q w j i) (g := fun _ => true) (n := n) (fun _ _ _ => rfl) ⟨i, hi, rfl, by
    unfold ahd
    rw [decide_eq_false_iff_not]
    omega⟩
  rw [cnt_true] at this
  exact this
theorem rnk_inj {p q w : Nat → Int} {n : Nat} (hd : ∀ j k, j < n → k < n → p j = p k → q j = q k → j = k) : ∀ i j, i < n → j < n → rnk p q w n i = rnk p q w n j → i = j := by
  have key : ∀ i j, i < n → j < n → ahd p q w i j = true → rnk p q w n i < rnk p q w n j := by
    intro i j hi hj h
    refine cnt_lt (fun k hk hk2 => ?_) ⟨i, hi, h, ?_⟩
    · unfold ahd at h hk2 ⊢
      rw [decide_eq_true_iff] at h hk2 ⊢
      omega
    · unfold ahd
      rw [decide_eq_false_iff_not]
      omega
  intro i j hi hj h
  by_cases h1 : ahd p q w i j = true
  · have := key i j hi hj h1
    omega
  · by_cases h2 : ahd p q w j i = true
    · have := key j i hj hi h2
      omega
    · refine hd i j hi hj ?_ ?_
      · unfold ahd at h1 h2
        rw [decide_eq_true_iff] at h1 h2
        omega
      · unfold ahd at h1 h2
        rw [decide_eq_true_iff] at h1 h2
        omega
/-- the first entry of a rank, if there is one -/
theorem rnk_ex {p q w : Nat → Int} {n r : Nat} (hd : ∀ j k, j < n → k < n → p j = p k → q j = q k → j = k) (hr : r < n) : ∃ K, K < n ∧ rnk p q w n K = r := php n _ (fun _ hi => rnk_lt hi) (rnk_inj hd) r hr
section BOK
variable {E : sm_E} {L : sm_S → Prop} {d d1 d2 : Nat} {m : sm_M} {c n : Nat} {p q w : Nat → Int}
theorem c_bhas {Q : Int32 → sm_M → Prop} {i : Int} (hly : ∀ S, L S → ly S) (hd : 1 ≤ d) (hb : bkn c m n p q w) (i1 : -2147483648 ≤ i) (i2 : i ≤ 2147483647) (h : Q (iI (if 0 ≤ i ∧ i < n then 1 else 0)) m) : sm_callI E L mX0_has d 0 0 [.ref (sm_B E + 70), .int (iI i)] m Q := by
  have hn := hb.1
  refine vX0_has_0 hly hd ?_
  rw [hb.2.1]
  simp (disch := omega) only [forall_eq, true_and, and_true, false_and, and_false, forall_const, true_implies, implies_true, not_true_eq_false, not_false_eq_true, false_implies, if_true, if_false, ↓reduceIte, Int.toNat_natCast, Int.reduceEq, Int.reduceNe, Int.reduceLT, Int.reduceLE, Int.reduceToNat, Int.reduceAdd, Int.reduceSub, Int.reduceMul, Int.reduceNeg, Nat.reduceAdd, Nat.reduceMul, Nat.reduceSub, iI_lit, jI_lit, iI_add, iI_sub, iI_mul, iI_neg, jI_add, jI_sub, jI_mul, jI_neg, nI_i, lN_j, iI_le, iI_lt, iI_eq, jI_le, jI_lt, jI_eq, iI_in, iI_cl, iI_j, jI_i, cN, inN, wI_eq, wI_ne, wJ_1, wJ_eq, wJ_ne, wI_2, wJ_3, iI_div, iI_rem, jI_div, jI_rem, true_or, or_true, false_or, or_false, eq_self, Nat.add_zero]
  refine ⟨fun q => ?_, fun q => ⟨fun q2 => ?_, fun q2 => ?_⟩⟩
  · rw [if_neg (by omega)] at h; exact h
  · rw [if_neg (by omega)] at h; exact h
  · rw [if_pos (by omega)] at h; exact h
theorem c_tell {Q : Int32 → sm_M → Prop} {i : Nat} {x : Int} (hly : ∀ S, L S → ly S) (hd : 2 ≤ d) (hc : c ≤ 1000) (hb : bkn c m n p q w) (hi : i < n) (x1 : 0 ≤ x) (x2 : x ≤ 2) (h : Q (iI (if x = 0 then p i else if x = 1 then q i else w i)) m) : sm_callI E L mX0_tell d 0 0 [.ref (sm_B E + 70), .int (iI (i : Nat)), .int (iI x)] m Q := by
  have hn := hb.1
  obtain ⟨r, v1, v2, v3, v4, v5⟩ := hb.2.2.2.1 i hi
  refine vX0_tell_0 hly hd (c_bhas hly (by omega) hb (by omega) (by omega) ?_)
  rw [if_pos (by omega)]
  simp (disch := omega) only [forall_eq, true_and, and_true, false_and, and_false, forall_const, true_implies, implies_true, not_true_eq_false, not_false_eq_true, false_implies, if_true, if_false, ↓reduceIte, Int.toNat_natCast, Int.reduceEq, Int.reduceNe, Int.reduceLT, Int.reduceLE, Int.reduceToNat, Int.reduceAdd, Int.reduceSub, Int.reduceMul, Int.reduceNeg, Nat.reduceAdd, Nat.reduceMul, Nat.reduceSub, iI_lit, jI_lit, iI_add, iI_sub, iI_mul, iI_neg, jI_add, jI_sub, jI_mul, jI_neg, nI_i, lN_j, iI_le, iI_lt, iI_eq, jI_le, jI_lt, jI_eq, iI_in, iI_cl, iI_j, jI_i, cN, inN, wI_eq, wI_ne, wJ_1, wJ_eq, wJ_ne, wI_2, wJ_3, iI_div, iI_rem, jI_div, jI_rem, true_or, or_true, false_or, or_false, eq_self, Nat.add_zero, v1, v4]
  refine ⟨fun q0 => ⟨by omega, c_topOf (by omega) (by omega) (by omega) ?_⟩, fun q0 => ⟨by omega, c_bottomOf (by omega) ?_⟩, fun q0 => ⟨by omega, ?_⟩⟩
  · rw [if_pos q0] at h; exact h
  · rw [if_neg (by omega), if_pos q0] at h; exact h
  · rw [if_neg (by omega), if_neg (by omega)] at h; exact h
theorem c12_book {Q : Int32 → sm_M → Prop} {i x : Int} (hly : ∀ S, L S → ly S) (hd : 2 ≤ d) (hc : c ≤ 1000) (hb : bkn c m n p q w) (i1 : -2147483648 ≤ i) (i2 : i ≤ 2147483647) (x1 : 0 ≤ x) (x2 : x ≤ 2) (h1 : 0 ≤ i → i < n → Q (iI (if x = 0 then p i.toNat else if x = 1 then q i.toNat else w i.toNat)) m) (h2 : ¬ (0 ≤ i ∧ i < n) → Q (iI (-1000000000 - (2 : Nat))) (sm_wI m 110 2 (m.1 110 2 + 1))) : sm_callI E L mX12_book d 0 0 [.ref (sm_B E + 109), .int (iI i), .int (iI x)] m Q := by
  have hn := hb.1
  refine vX12_book_0 hly hd ?_
  simp (disch := omega) only [forall_eq, true_and, and_true, false_and, and_false, forall_const, true_implies, implies_true, not_true_eq_false, not_false_eq_true, false_implies, if_true, if_false, ↓reduceIte, Int.toNat_natCast, Int.reduceEq, Int.reduceNe, Int.reduceLT, Int.reduceLE, Int.reduceToNat, Int.reduceAdd, Int.reduceSub, Int.reduceMul, Int.reduceNeg, Nat.reduceAdd, Nat.reduceMul, Nat.reduceSub, iI_lit, jI_lit, iI_add, iI_sub, iI_mul, iI_neg, jI_add, jI_sub, jI_mul, jI_neg, nI_i, lN_j, iI_le, iI_lt, iI_eq, jI_le, jI_lt, jI_eq, iI_in, iI_cl, iI_j, jI_i, cN, inN, wI_eq, wI_ne, wJ_1, wJ_eq, wJ_ne, wI_2, wJ_3, iI_div, iI_rem, jI_div, jI_rem, true_or, or_true, false_or, or_false, eq_self, Nat.add_zero]
  refine c12_isIn (by omega) (by omega) (by omega) (by omega) (by omega) (by omega) (by omega) ?_
  rw [if_pos (by omega), hb.2.2.1]
  simp (disch := omega) only [forall_eq, true_and, and_true, false_and, and_false, forall_const, true_implies, implies_true, not_true_eq_false, not_false_eq_true, false_implies, if_true, if_false, ↓reduceIte, Int.toNat_natCast, Int.reduceEq, Int.reduceNe, Int.reduceLT, Int.reduceLE, Int.reduceToNat, Int.reduceAdd, Int.reduceSub, Int.reduceMul, Int.reduceNeg, Nat.reduceAdd, Nat.reduceMul, Nat.reduceSub, iI_lit, jI_lit, iI_add, iI_sub, iI_mul, iI_neg, jI_add, jI_sub, jI_mul, jI_neg, nI_i, lN_j, iI_le, iI_lt, iI_eq, jI_le, jI_lt, jI_eq, iI_in, iI_cl, iI_j, jI_i, cN, inN, wI_eq, wI_ne, wJ_1, wJ_eq, wJ_ne, wI_2, wJ_3, iI_div, iI_rem, jI_div, jI_rem, true_or, or_true, false_or, or_false, eq_self, Nat.add_zero]
  refine c12_isIn (by omega) (by omega) (by omega) (by omega) (by omega) (by omega) (by omega) ?_
  by_cases hi : 0 ≤ i ∧ i < n
  · obtain ⟨k, rfl⟩ : ∃ k : Nat, i = (k : Int) := ⟨i.toNat, by omega⟩
    obtain ⟨r, v1, v2, v3, v4, v5⟩ := hb.2.2.2.1 k (by omega)
    have h1 := h1 hi.1 hi.2
    rw [Int.toNat_natCast] at h1
    rw [if_pos (by omega)]
    simp (disch := omega) only [forall_eq, true_and, and_true, false_and, and_false, forall_const, true_implies, implies_true, not_true_eq_false, not_false_eq_true, false_implies, if_true, if_false, ↓reduceIte, Int.toNat_natCast, Int.reduceEq, Int.reduceNe, Int.reduceLT, Int.reduceLE, Int.reduceToNat, Int.reduceAdd, Int.reduceSub, Int.reduceMul, Int.reduceNeg, Nat.reduceAdd, Nat.reduceMul, Nat.reduceSub, iI_lit, jI_lit, iI_add, iI_sub, iI_mul, iI_neg, jI_add, jI_sub, jI_mul, jI_neg, nI_i, lN_j, iI_le, iI_lt, iI_eq, jI_le, jI_lt, jI_eq, iI_in, iI_cl, iI_j, jI_i, cN, inN, wI_eq, wI_ne, wJ_1, wJ_eq, wJ_ne, wI_2, wJ_3, iI_div, iI_rem, jI_div, jI_rem, true_or, or_true, false_or, or_false, eq_self, Nat.add_zero, v2, v3, v5]
    refine ⟨fun q0 => ⟨fun q1 => ⟨by omega, ?_⟩, fun q1 => ⟨by omega, ?_⟩⟩, fun q0 => ⟨by omega, ?_⟩⟩
    · rw [if_neg q0, if_neg q1] at h1; exact h1
    · rw [if_neg q0, if_pos q1] at h1; exact h1
    · rw [if_pos q0] at h1; exact h1
  · rw [if_neg (by omega)]
    simp (disch := omega) only [forall_eq, true_and, and_true, false_and, and_false, forall_const, true_implies, implies_true, not_true_eq_false, not_false_eq_true, false_implies, if_true, if_false, ↓reduceIte, Int.toNat_natCast, Int.reduceEq, Int.reduceNe, Int.reduceLT, Int.reduceLE, Int.reduceToNat, Int.reduceAdd, Int.reduceSub, Int.reduceMul, Int.reduceNeg, Nat.reduceAdd, Nat.reduceMul, Nat.reduceSub, iI_lit, jI_lit, iI_add, iI_sub, iI_mul, iI_neg, jI_add, jI_sub, jI_mul, jI_neg, nI_i, lN_j, iI_le, iI_lt, iI_eq, jI_le, jI_lt, jI_eq, iI_in, iI_cl, iI_j, jI_i, cN, inN, wI_eq, wI_ne, wJ_1, wJ_eq, wJ_ne, wI_2, wJ_3, iI_div, iI_rem, jI_div, jI_rem, true_or, or_true, false_or, or_false, eq_self, Nat.add_zero]
    exact c12_finds (e := 2) hly (by decide) (by omega) (h2 hi)
theorem k_book {x1 x2 : Int32} (hly : ∀ S, L S → ly S) (hd1 : 3 ≤ d1) (hd2 : 2 ≤ d2) (hI : Inv c m) : sm_callI E L mX11_book d1 0 0 [.ref (sm_B E + 0), .int x1, .int x2] m (fun r m1 => sm_callI E L mX12_book d2 0 0 [.ref (sm_B E + 109), .int x1, .int x2] m1 (fun r2 m2 => r = r2 ∧ Inv c m2)) := by
  obtain ⟨i, i1, i2, rfl⟩ := iI_ex x1
  obtain ⟨x, x1, x2, rfl⟩ := iI_ex x2
  obtain ⟨n, p, q, w, hb⟩ := hI.2.1.2.2.2.2.1
  have hc := hI.1
  have bad : ¬ (0 ≤ x ∧ x ≤ 2) → sm_callI E L mX12_book d2 0 0 [.ref (sm_B E + 109), .int (iI i), .int (iI x)] (sm_wI m 76 1 (m.1 76 1 + 1)) (fun r2 m2 => iI (-1000000000 - (1 : Nat)) = r2 ∧ Inv c m2) := fun hx => by
    refine vX12_book_0 hly hd2 ?_
    simp (disch := omega) only [forall_eq, true_and, and_true, false_and, and_false, forall_const, true_implies, implies_true, not_true_eq_false, not_false_eq_true, false_implies, if_true, if_false, ↓reduceIte, Int.toNat_natCast, Int.reduceEq, Int.reduceNe, Int.reduceLT, Int.reduceLE, Int.reduceToNat, Int.reduceAdd, Int.reduceSub, Int.reduceMul, Int.reduceNeg, Nat.reduceAdd, Nat.reduceMul, Nat.reduceSub, iI_lit, jI_lit, iI_add, iI_sub, iI_mul, iI_neg, jI_add, jI_sub, jI_mul, jI_neg, nI_i, lN_j, iI_le, iI_lt, iI_eq, jI_le, jI_lt, jI_eq, iI_in, iI_cl, iI_j, jI_i, cN, inN, wI_eq, wI_ne, wJ_1, wJ_eq, wJ_ne, wI_2, wJ_3, iI_div, iI_rem, jI_div, jI_rem, true_or, or_true, false_or, or_false, eq_self, Nat.add_zero]
    refine c12_isIn (by omega) (by omega) (by omega) (by omega) (by omega) (by omega) (by omega) ?_
    rw [if_neg hx]
    simp (disch := omega) only [forall_eq, true_and, and_true, false_and, and_false, forall_const, true_implies, implies_true, not_true_eq_false, not_false_eq_true, false_implies, if_true, if_false, ↓reduceIte, Int.toNat_natCast, Int.reduceEq, Int.reduceNe, Int.reduceLT, Int.reduceLE, Int.reduceToNat, Int.reduceAdd, Int.reduceSub, Int.reduceMul, Int.reduceNeg, Nat.reduceAdd, Nat.reduceMul, Nat.reduceSub, iI_lit, jI_lit, iI_add, iI_sub, iI_mul, iI_neg, jI_add, jI_sub, jI_mul, jI_neg, nI_i, lN_j, iI_le, iI_lt, iI_eq, jI_le, jI_lt, jI_eq, iI_in, iI_cl, iI_j, jI_i, cN, inN, wI_eq, wI_ne, wJ_1, wJ_eq, wJ_ne, wI_2, wJ_3, iI_div, iI_rem, jI_div, jI_rem, true_or, or_true, false_or, or_false, eq_self, Nat.add_zero]
    exact c12_finds (e := 1) hly (by decide) (by omega) ⟨rfl, hI.er frw.rf frw.rf⟩
  refine vX11_book_0 hly hd1 ?_
  simp (disch := omega) only [forall_eq, true_and, and_true, false_and, and_false, forall_const, true_implies, implies_true, not_true_eq_false, not_false_eq_true, false_implies, if_true, if_false, ↓reduceIte, Int.toNat_natCast, Int.reduceEq, Int.reduceNe, Int.reduceLT, Int.reduceLE, Int.reduceToNat, Int.reduceAdd, Int.reduceSub, Int.reduceMul, Int.reduceNeg, Nat.reduceAdd, Nat.reduceMul, Nat.reduceSub, iI_lit, jI_lit, iI_add, iI_sub, iI_mul, iI_neg, jI_add, jI_sub, jI_mul, jI_neg, nI_i, lN_j, iI_le, iI_lt, iI_eq, jI_le, jI_lt, jI_eq, iI_in, iI_cl, iI_j, jI_i, cN, inN, wI_eq, wI_ne, wJ_1, wJ_eq, wJ_ne, wI_2, wJ_3, iI_div, iI_rem, jI_div, jI_rem, true_or, or_true, false_or, or_false, eq_self, Nat.add_zero]
  refine ⟨fun z => c_error (e := 1) hly (by decide) (by omega) (bad (by omega)), fun z => ⟨fun z2 => c_bhas hly (by omega) hb i1 i2 ?_, fun z2 => c_error (e := 1) hly (by decide) (by omega) (bad (by omega))⟩⟩
  by_cases hi : 0 ≤ i ∧ i < n
  · obtain ⟨k, rfl⟩ : ∃ k : Nat, i = (k : Int) := ⟨i.toNat, by omega⟩
    rw [if_pos hi]
    simp (disch := omega) only [forall_eq, true_and, and_true, false_and, and_false, forall_const, true_implies, implies_true, not_true_eq_false, not_false_eq_true, false_implies, if_true, if_false, ↓reduceIte, Int.toNat_natCast, Int.reduceEq, Int.reduceNe, Int.reduceLT, Int.reduceLE, Int.reduceToNat, Int.reduceAdd, Int.reduceSub, Int.reduceMul, Int.reduceNeg, Nat.reduceAdd, Nat.reduceMul, Nat.reduceSub, iI_lit, jI_lit, iI_add, iI_sub, iI_mul, iI_neg, jI_add, jI_sub, jI_mul, jI_neg, nI_i, lN_j, iI_le, iI_lt, iI_eq, jI_le, jI_lt, jI_eq, iI_in, iI_cl, iI_j, jI_i, cN, inN, wI_eq, wI_ne, wJ_1, wJ_eq, wJ_ne, wI_2, wJ_3, iI_div, iI_rem, jI_div, jI_rem, true_or, or_true, false_or, or_false, eq_self, Nat.add_zero]
    exact c_tell hly (by omega) hc hb (by omega) (by omega) z2 (c12_book hly hd2 hc hb i1 i2 (by omega) z2 (fun _ _ => ⟨rfl, hI⟩) (fun h => absurd hi h))
  · rw [if_neg hi]
    simp (disch := omega) only [forall_eq, true_and, and_true, false_and, and_false, forall_const, true_implies, implies_true, not_true_eq_false, not_false_eq_true, false_implies, if_true, if_false, ↓reduceIte, Int.toNat_natCast, Int.reduceEq, Int.reduceNe, Int.reduceLT, Int.reduceLE, Int.reduceToNat, Int.reduceAdd, Int.reduceSub, Int.reduceMul, Int.reduceNeg, Nat.reduceAdd, Nat.reduceMul, Nat.reduceSub, iI_lit, jI_lit, iI_add, iI_sub, iI_mul, iI_neg, jI_add, jI_sub, jI_mul, jI_neg, nI_i, lN_j, iI_le, iI_lt, iI_eq, jI_le, jI_lt, jI_eq, iI_in, iI_cl, iI_j, jI_i, cN, inN, wI_eq, wI_ne, wJ_1, wJ_eq, wJ_ne, wI_2, wJ_3, iI_div, iI_rem, jI_div, jI_rem, true_or, or_true, false_or, or_false, eq_self, Nat.add_zero]
    exact c_error (e := 2) hly (by decide) (by omega) (c12_book hly hd2 hc (hb.frw (fr.rf.wI (P := fun a k => a = 76) rfl).w ⟨by omega, by omega, by omega, fun k => by omega⟩) i1 i2 (by omega) z2 (fun h1 h2 => absurd ⟨h1, h2⟩ hi) (fun _ => ⟨rfl, hI.er frw.rf frw.rf⟩))
theorem c_isAhead {Q : Int32 → sm_M → Prop} {j i : Nat} (hly : ∀ S, L S → ly S) (hd : 1 ≤ d) (hc : c ≤ 1000) (hb : bkn c m n p q w) (hj : j < n) (hi : i < n) (h : Q (iI (if ahd p q w j i = true then 1 else 0)) m) : sm_callI E L mX0_isAhead d 0 0 [.ref (sm_B E + 70), .int (iI (j : Nat)), .int (iI (i : Nat))] m Q := by
  have hn := hb.1
  obtain ⟨r, v1, v2, v3, v4, v5⟩ := hb.2.2.2.1 i hi
  obtain ⟨s, u1, u2, u3, u4, u5⟩ := hb.2.2.2.1 j hj
  have ha : ahd p q w j i = true ↔ (w i < w j ∨ (w j = w i ∧ (p j < p i ∨ (p j = p i ∧ q j < q i)))) := decide_eq_true_iff
  have hpk := pkv_le (p := p i) (q := q i) (p' := p j) (q' := q j) (by omega) (by omega) (by omega) (by omega) (by omega) (by omega) (by omega) (by omega)
  refine vX0_isAhead_0 hly hd ?_
  simp (disch := omega) only [forall_eq, true_and, and_true, false_and, and_false, forall_const, true_implies, implies_true, not_true_eq_false, not_false_eq_true, false_implies, if_true, if_false, ↓reduceIte, Int.toNat_natCast, Int.reduceEq, Int.reduceNe, Int.reduceLT, Int.reduceLE, Int.reduceToNat, Int.reduceAdd, Int.reduceSub, Int.reduceMul, Int.reduceNeg, Nat.reduceAdd, Nat.reduceMul, Nat.reduceSub, iI_lit, jI_lit, iI_add, iI_sub, iI_mul, iI_neg, jI_add, jI_sub, jI_mul, jI_neg, nI_i, lN_j, iI_le, iI_lt, iI_eq, jI_le, jI_lt, jI_eq, iI_in, iI_cl, iI_j, jI_i, cN, inN, wI_eq, wI_ne, wJ_1, wJ_eq, wJ_ne, wI_2, wJ_3, iI_div, iI_rem, jI_div, jI_rem, true_or, or_true, false_or, or_false, eq_self, Nat.add_zero, v1, v4, u1, u4, hpk]
  refine ⟨by omega, by omega, fun z => ⟨by omega, by omega, fun z2 => ?_, fun z2 => ?_⟩, fun z => ⟨by omega, by omega, fun z2 => ?_, fun z2 => ?_⟩⟩
  · rw [if_neg (by rw [ha]; omega)] at h; exact h
  · rw [if_pos (by rw [ha]; omega)] at h; exact h
  · rw [if_neg (by rw [ha]; omega)] at h; exact h
  · rw [if_pos (by rw [ha]; omega)] at h; exact h
theorem c12_isAhead {Q : Int32 → sm_M → Prop} {j i : Nat} (hly : ∀ S, L S → ly S) (hd : 1 ≤ d) (hc : c ≤ 1000) (hb : bkn c m n p q w) (hj : j < n) (hi : i < n) (h : Q (iI (if ahd p q w j i = true then 1 else 0)) m) : sm_callI E L mX12_isAhead d 0 0 [.ref (sm_B E + 109), .int (iI (j : Nat)), .int (iI (i : Nat))] m Q := by
  have hn := hb.1
  obtain ⟨r, v1, v2, v3, v4, v5⟩ := hb.2.2.2.1 i hi
  obtain ⟨s, u1, u2, u3, u4, u5⟩ := hb.2.2.2.1 j hj
  have ha : ahd p q w j i = true ↔ (w i < w j ∨ (w j = w i ∧ (p j < p i ∨ (p j = p i ∧ q j < q i)))) := decide_eq_true_iff
  refine vX12_isAhead_0 hly hd ?_
  simp (disch := omega) only [forall_eq, true_and, and_true, false_and, and_false, forall_const, true_implies, implies_true, not_true_eq_false, not_false_eq_true, false_implies, if_true, if_false, ↓reduceIte, Int.toNat_natCast, Int.reduceEq, Int.reduceNe, Int.reduceLT, Int.reduceLE, Int.reduceToNat, Int.reduceAdd, Int.reduceSub, Int.reduceMul, Int.reduceNeg, Nat.reduceAdd, Nat.reduceMul, Nat.reduceSub, iI_lit, jI_lit, iI_add, iI_sub, iI_mul, iI_neg, jI_add, jI_sub, jI_mul, jI_neg, nI_i, lN_j, iI_le, iI_lt, iI_eq, jI_le, jI_lt, jI_eq, iI_in, iI_cl, iI_j, jI_i, cN, inN, wI_eq, wI_ne, wJ_1, wJ_eq, wJ_ne, wI_2, wJ_3, iI_div, iI_rem, jI_div, jI_rem, true_or, or_true, false_or, or_false, eq_self, Nat.add_zero, v2, v3, v5, u2, u3, u5]
  refine ⟨by omega, by omega, fun z => ⟨by omega, by omega, fun z2 => ⟨by omega, by omega, fun z3 => ?_, fun z3 => ?_⟩, fun z2 => ⟨by omega, by omega, fun z3 => ?_, fun z3 => ?_⟩⟩, fun z => ⟨by omega, by omega, fun z2 => ?_, fun z2 => ?_⟩⟩
  · rw [if_neg (by rw [ha]; omega)] at h; exact h
  · rw [if_pos (by rw [ha]; omega)] at h; exact h
  · rw [if_neg (by rw [ha]; omega)] at h; exact h
  · rw [if_pos (by rw [ha]; omega)] at h; exact h
  · rw [if_neg (by rw [ha]; omega)] at h; exact h
  · rw [if_pos (by rw [ha]; omega)] at h; exact h
theorem c_atRank_in {Q : Int32 → sm_M → Prop} {vs : List Value} {R : Int} {i : Nat} (hly : ∀ S, L S → ly S) (hd : 2 ≤ d) (hc : c ≤ 1000) (hb : bkn c m n p q w) (hi : i < n) (r1 : -2147483648 ≤ R) (r2 : R ≤ 2147483647) (h1 : (rnk p q w n i : Int) ≠ R → gX0_atRank_2 E L d vs (iI R) (iI ((i + 1 : Nat) : Int)) m Q) (h2 : (rnk p q w n i : Int) = R → Q (iI (i : Nat)) m) : ∀ (r j : Nat), j + r = n → gX0_atRank_15 E L d vs (iI R) (iI (i : Nat)) (iI (cnt (fun j => ahd p q w j i) j : Nat)) (iI (j : Nat)) m Q := by
  have hn := hb.1
  have hb2 := hb.2.1
  have e5' : ((i : Nat) : Int) + 1 = ((i + 1 : Nat) : Int) := by omega
  intro r
  induction r with
  | zero =>
    intro j hj
    have : j = n := by omega
    subst this
    have hlt : rnk p q w j i < j := rnk_lt hi
    refine vX0_atRank_15 hly hd ?_
    have hrk : cnt (fun k => ahd p q w k i) j = rnk p q w j i := rfl
    rw [hrk]
    simp (disch := omega) only [forall_eq, true_and, and_true, false_and, and_false, forall_const, true_implies, implies_true, not_true_eq_false, not_false_eq_true, false_implies, if_true, if_false, ↓reduceIte, Int.toNat_natCast, Int.reduceEq, Int.reduceNe, Int.reduceLT, Int.reduceLE, Int.reduceToNat, Int.reduceAdd, Int.reduceSub, Int.reduceMul, Int.reduceNeg, Nat.reduceAdd, Nat.reduceMul, Nat.reduceSub, iI_lit, jI_lit, iI_add, iI_sub, iI_mul, iI_neg, jI_add, jI_sub, jI_mul, jI_neg, nI_i, lN_j, iI_le, iI_lt, iI_eq, jI_le, jI_lt, jI_eq, iI_in, iI_cl, iI_j, jI_i, cN, inN, wI_eq, wI_ne, wJ_1, wJ_eq, wJ_ne, wI_2, wJ_3, iI_div, iI_rem, jI_div, jI_rem, true_or, or_true, false_or, or_false, eq_self, Nat.add_zero, hb2, e5']
    exact ⟨fun _ => ⟨fun z => h1 z, fun z => h2 z⟩, fun z => by omega⟩
  | succ r ih =>
    intro j hj
    have e5 : ((j : Nat) : Int) + 1 = ((j + 1 : Nat) : Int) := by omega
    have hcl : cnt (fun k => ahd p q w k i) j ≤ j := by
      have := cnt_le (f := fun k => ahd p q w k i) (g := fun _ => true) (n := j) (fun _ _ _ => rfl)
      rw [cnt_true] at this
      exact this
    have hcs : cnt (fun k => ahd p q w k i) (j + 1) = cnt (fun k => ahd p q w k i) j + (if ahd p q w j i = true then 1 else 0) := rfl
    have hk := ih (j + 1) (by omega)
    refine vX0_atRank_15 hly hd ?_
    rw [hb2]
    refine ⟨fun z => ?_, fun _ => c_isAhead hly (by omega) hc hb (by omega) hi ?_⟩
    · simp (disch := omega) only [forall_eq, true_and, and_true, false_and, and_false, forall_const, true_implies, implies_true, not_true_eq_false, not_false_eq_true, false_implies, if_true, if_false, ↓reduceIte, Int.toNat_natCast, Int.reduceEq, Int.reduceNe, Int.reduceLT, Int.reduceLE, Int.reduceToNat, Int.reduceAdd, Int.reduceSub, Int.reduceMul, Int.reduceNeg, Nat.reduceAdd, Nat.reduceMul, Nat.reduceSub, iI_lit, jI_lit, iI_add, iI_sub, iI_mul, iI_neg, jI_add, jI_sub, jI_mul, jI_neg, nI_i, lN_j, iI_le, iI_lt, iI_eq, jI_le, jI_lt, jI_eq, iI_in, iI_cl, iI_j, jI_i, cN, inN, wI_eq, wI_ne, wJ_1, wJ_eq, wJ_ne, wI_2, wJ_3, iI_div, iI_rem, jI_div, jI_rem, true_or, or_true, false_or, or_false, eq_self, Nat.add_zero] at z
      omega
    · by_cases hah : ahd p q w j i = true
      · rw [if_pos hah] at hcs ⊢
        rw [hcs] at hk
        simp (disch := omega) only [forall_eq, true_and, and_true, false_and, and_false, forall_const, true_implies, implies_true, not_true_eq_false, not_false_eq_true, false_implies, if_true, if_false, ↓reduceIte, Int.toNat_natCast, Int.reduceEq, Int.reduceNe, Int.reduceLT, Int.reduceLE, Int.reduceToNat, Int.reduceAdd, Int.reduceSub, Int.reduceMul, Int.reduceNeg, Nat.reduceAdd, Nat.reduceMul, Nat.reduceSub, iI_lit, jI_lit, iI_add, iI_sub, iI_mul, iI_neg, jI_add, jI_sub, jI_mul, jI_neg, nI_i, lN_j, iI_le, iI_lt, iI_eq, jI_le, jI_lt, jI_eq, iI_in, iI_cl, iI_j, jI_i, cN, inN, wI_eq, wI_ne, wJ_1, wJ_eq, wJ_ne, wI_2, wJ_3, iI_div, iI_rem, jI_div, jI_rem, true_or, or_true, false_or, or_false, eq_self, Nat.add_zero, e5]
        exact hk
      · rw [if_neg hah] at hcs ⊢
        rw [hcs] at hk
        simp (disch := omega) only [forall_eq, true_and, and_true, false_and, and_false, forall_const, true_implies, implies_true, not_true_eq_false, not_false_eq_true, false_implies, if_true, if_false, ↓reduceIte, Int.toNat_natCast, Int.reduceEq, Int.reduceNe, Int.reduceLT, Int.reduceLE, Int.reduceToNat, Int.reduceAdd, Int.reduceSub, Int.reduceMul, Int.reduceNeg, Nat.reduceAdd, Nat.reduceMul, Nat.reduceSub, iI_lit, jI_lit, iI_add, iI_sub, iI_mul, iI_neg, jI_add, jI_sub, jI_mul, jI_neg, nI_i, lN_j, iI_le, iI_lt, iI_eq, jI_le, jI_lt, jI_eq, iI_in, iI_cl, iI_j, jI_i, cN, inN, wI_eq, wI_ne, wJ_1, wJ_eq, wJ_ne, wI_2, wJ_3, iI_div, iI_rem, jI_div, jI_rem, true_or, or_true, false_or, or_false, eq_self, Nat.add_zero, e5]
        exact hk
theorem c_atRank {Q : Int32 → sm_M → Prop} {R : Int} {K : Nat} (hly : ∀ S, L S → ly S) (hd : 2 ≤ d) (hc : c ≤ 1000) (hb : bkn c m n p q w) (hK : K < n) (hR : (rnk p q w n K : Int) = R) (h : Q (iI (K : Nat)) m) : sm_callI E L mX0_atRank d 0 0 [.ref (sm_B E + 70), .int (iI R)] m Q := by
  have hn := hb.1
  have hb2 := hb.2.1
  have hlt : rnk p q w n K < n := rnk_lt hK
  refine vX0_atRank_0 hd ?_
  have key : ∀ (r i : Nat), i + r = K → gX0_atRank_2 E L d [.ref (sm_B E + 70), .int (iI R)] (iI R) (iI (i : Nat)) m Q := by
    intro r
    induction r with
    | zero =>
      intro i hi
      have : i = K := by omega
      subst this
      refine vX0_atRank_2 hly hd ?_
      simp (disch := omega) only [forall_eq, true_and, and_true, false_and, and_false, forall_const, true_implies, implies_true, not_true_eq_false, not_false_eq_true, false_implies, if_true, if_false, ↓reduceIte, Int.toNat_natCast, Int.reduceEq, Int.reduceNe, Int.reduceLT, Int.reduceLE, Int.reduceToNat, Int.reduceAdd, Int.reduceSub, Int.reduceMul, Int.reduceNeg, Nat.reduceAdd, Nat.reduceMul, Nat.reduceSub, iI_lit, jI_lit, iI_add, iI_sub, iI_mul, iI_neg, jI_add, jI_sub, jI_mul, jI_neg, nI_i, lN_j, iI_le, iI_lt, iI_eq, jI_le, jI_lt, jI_eq, iI_in, iI_cl, iI_j, jI_i, cN, inN, wI_eq, wI_ne, wJ_1, wJ_eq, wJ_ne, wI_2, wJ_3, iI_div, iI_rem, jI_div, jI_rem, true_or, or_true, false_or, or_false, eq_self, Nat.add_zero, hb2]
      refine ⟨fun z => by omega, fun _ => c_atRank_in hly hd hc hb hK (by omega) (by omega) (fun z => absurd hR z) (fun _ => h) n 0 (by omega)⟩
    | succ r ih =>
      intro i hi
      refine vX0_atRank_2 hly hd ?_
      simp (disch := omega) only [forall_eq, true_and, and_true, false_and, and_false, forall_const, true_implies, implies_true, not_true_eq_false, not_false_eq_true, false_implies, if_true, if_false, ↓reduceIte, Int.toNat_natCast, Int.reduceEq, Int.reduceNe, Int.reduceLT, Int.reduceLE, Int.reduceToNat, Int.reduceAdd, Int.reduceSub, Int.reduceMul, Int.reduceNeg, Nat.reduceAdd, Nat.reduceMul, Nat.reduceSub, iI_lit, jI_lit, iI_add, iI_sub, iI_mul, iI_neg, jI_add, jI_sub, jI_mul, jI_neg, nI_i, lN_j, iI_le, iI_lt, iI_eq, jI_le, jI_lt, jI_eq, iI_in, iI_cl, iI_j, jI_i, cN, inN, wI_eq, wI_ne, wJ_1, wJ_eq, wJ_ne, wI_2, wJ_3, iI_div, iI_rem, jI_div, jI_rem, true_or, or_true, false_or, or_false, eq_self, Nat.add_zero, hb2]
      refine ⟨fun z => by omega, fun _ => c_atRank_in hly hd hc hb (by omega) (by omega) (by omega) (fun _ => ih (i + 1) (by omega)) (fun z => ?_) n 0 (by omega)⟩
      have := rnk_inj (w := w) hb.2.2.2.2.1 i K (by omega) hK (by omega)
      omega
  exact key K 0 (by omega)
theorem c12_ranked_in {Q : Int32 → sm_M → Prop} {vs : List Value} {R x : Int} {i : Nat} (hly : ∀ S, L S → ly S) (hd : 3 ≤ d) (hc : c ≤ 1000) (hb : bkn c m n p q w) (hi : i < n) (r1 : -2147483648 ≤ R) (r2 : R ≤ 2147483647) (x1 : 0 ≤ x) (x2 : x ≤ 2) (h1 : (rnk p q w n i : Int) ≠ R → gX12_ranked_20 E L d vs (iI R) (iI x) (iI ((i + 1 : Nat) : Int)) m Q) (h2 : (rnk p q w n i : Int) = R → Q (iI (if x = 0 then p i else if x = 1 then q i else w i)) m) : ∀ (r j : Nat), j + r = n → gX12_ranked_34 E L d vs (iI R) (iI x) (iI (i : Nat)) (iI (cnt (fun j => ahd p q w j i) j : Nat)) (iI (j : Nat)) m Q := by
  have hn := hb.1
  have hb2 := hb.2.2.1
  have e5' : ((i : Nat) : Int) + 1 = ((i + 1 : Nat) : Int) := by omega
  intro r
  induction r with
  | zero =>
    intro j hj
    have : j = n := by omega
    subst this
    have hlt : rnk p q w j i < j := rnk_lt hi
    refine vX12_ranked_34 hly hd ?_
    have hrk : cnt (fun k => ahd p q w k i) j = rnk p q w j i := rfl
    rw [hrk]
    simp (disch := omega) only [forall_eq, true_and, and_true, false_and, and_false, forall_const, true_implies, implies_true, not_true_eq_false, not_false_eq_true, false_implies, if_true, if_false, ↓reduceIte, Int.toNat_natCast, Int.reduceEq, Int.reduceNe, Int.reduceLT, Int.reduceLE, Int.reduceToNat, Int.reduceAdd, Int.reduceSub, Int.reduceMul, Int.reduceNeg, Nat.reduceAdd, Nat.reduceMul, Nat.reduceSub, iI_lit, jI_lit, iI_add, iI_sub, iI_mul, iI_neg, jI_add, jI_sub, jI_mul, jI_neg, nI_i, lN_j, iI_le, iI_lt, iI_eq, jI_le, jI_lt, jI_eq, iI_in, iI_cl, iI_j, jI_i, cN, inN, wI_eq, wI_ne, wJ_1, wJ_eq, wJ_ne, wI_2, wJ_3, iI_div, iI_rem, jI_div, jI_rem, true_or, or_true, false_or, or_false, eq_self, Nat.add_zero, hb2, e5']
    exact ⟨fun _ => ⟨fun z => h1 z, fun z => c12_book hly (by omega) hc hb (by omega) (by omega) x1 x2 (fun _ _ => h2 z) (fun z => absurd (by omega) z)⟩, fun z => by omega⟩
  | succ r ih =>
    intro j hj
    have e5 : ((j : Nat) : Int) + 1 = ((j + 1 : Nat) : Int) := by omega
    have hcl : cnt (fun k => ahd p q w k i) j ≤ j := by
      have := cnt_le (f := fun k => ahd p q w k i) (g := fun _ => true) (n := j) (fun _ _ _ => rfl)
      rw [cnt_true] at this
      exact this
    have hcs : cnt (fun k => ahd p q w k i) (j + 1) = cnt (fun k => ahd p q w k i) j + (if ahd p q w j i = true then 1 else 0) := rfl
    have hk := ih (j + 1) (by omega)
    refine vX12_ranked_34 hly hd ?_
    rw [hb2]
    refine ⟨fun z => ?_, fun _ => c12_isAhead hly (by omega) hc hb (by omega) hi ?_⟩
    · simp (disch := omega) only [forall_eq, true_and, and_true, false_and, and_false, forall_const, true_implies, implies_true, not_true_eq_false, not_false_eq_true, false_implies, if_true, if_false, ↓reduceIte, Int.toNat_natCast, Int.reduceEq, Int.reduceNe, Int.reduceLT, Int.reduceLE, Int.reduceToNat, Int.reduceAdd, Int.reduceSub, Int.reduceMul, Int.reduceNeg, Nat.reduceAdd, Nat.reduceMul, Nat.reduceSub, iI_lit, jI_lit, iI_add, iI_sub, iI_mul, iI_neg, jI_add, jI_sub, jI_mul, jI_neg, nI_i, lN_j, iI_le, iI_lt, iI_eq, jI_le, jI_lt, jI_eq, iI_in, iI_cl, iI_j, jI_i, cN, inN, wI_eq, wI_ne, wJ_1, wJ_eq, wJ_ne, wI_2, wJ_3, iI_div, iI_rem, jI_div, jI_rem, true_or, or_true, false_or, or_false, eq_self, Nat.add_zero] at z
      omega
    · by_cases hah : ahd p q w j i = true
      · rw [if_pos hah] at hcs ⊢
        rw [hcs] at hk
        simp (disch := omega) only [forall_eq, true_and, and_true, false_and, and_false, forall_const, true_implies, implies_true, not_true_eq_false, not_false_eq_true, false_implies, if_true, if_false, ↓reduceIte, Int.toNat_natCast, Int.reduceEq, Int.reduceNe, Int.reduceLT, Int.reduceLE, Int.reduceToNat, Int.reduceAdd, Int.reduceSub, Int.reduceMul, Int.reduceNeg, Nat.reduceAdd, Nat.reduceMul, Nat.reduceSub, iI_lit, jI_lit, iI_add, iI_sub, iI_mul, iI_neg, jI_add, jI_sub, jI_mul, jI_neg, nI_i, lN_j, iI_le, iI_lt, iI_eq, jI_le, jI_lt, jI_eq, iI_in, iI_cl, iI_j, jI_i, cN, inN, wI_eq, wI_ne, wJ_1, wJ_eq, wJ_ne, wI_2, wJ_3, iI_div, iI_rem, jI_div, jI_rem, true_or, or_true, false_or, or_false, eq_self, Nat.add_zero, e5]
        exact hk
      · rw [if_neg hah] at hcs ⊢
        rw [hcs] at hk
        simp (disch := omega) only [forall_eq, true_and, and_true, false_and, and_false, forall_const, true_implies, implies_true, not_true_eq_false, not_false_eq_true, false_implies, if_true, if_false, ↓reduceIte, Int.toNat_natCast, Int.reduceEq, Int.reduceNe, Int.reduceLT, Int.reduceLE, Int.reduceToNat, Int.reduceAdd, Int.reduceSub, Int.reduceMul, Int.reduceNeg, Nat.reduceAdd, Nat.reduceMul, Nat.reduceSub, iI_lit, jI_lit, iI_add, iI_sub, iI_mul, iI_neg, jI_add, jI_sub, jI_mul, jI_neg, nI_i, lN_j, iI_le, iI_lt, iI_eq, jI_le, jI_lt, jI_eq, iI_in, iI_cl, iI_j, jI_i, cN, inN, wI_eq, wI_ne, wJ_1, wJ_eq, wJ_ne, wI_2, wJ_3, iI_div, iI_rem, jI_div, jI_rem, true_or, or_true, false_or, or_false, eq_self, Nat.add_zero, e5, Int.add_zero]
        exact hk
theorem c12_ranked {Q : Int32 → sm_M → Prop} {R x : Int} (hly : ∀ S, L S → ly S) (hd : 3 ≤ d) (hc : c ≤ 1000) (hb : bkn c m n p q w) (r1 : -2147483648 ≤ R) (r2 : R ≤ 2147483647) (x1 : 0 ≤ x) (x2 : x ≤ 2) (h1 : ∀ K, K < n → (rnk p q w n K : Int) = R → Q (iI (if x = 0 then p K else if x = 1 then q K else w K)) m) (h2 : ¬ (0 ≤ R ∧ R < n) → Q (iI (-1000000000 - (2 : Nat))) (sm_wI m 110 2 (m.1 110 2 + 1))) : sm_callI E L mX12_ranked d 0 0 [.ref (sm_B E + 109), .int (iI R), .int (iI x)] m Q := by
  have hn := hb.1
  have hb2 := hb.2.2.1
  refine vX12_ranked_0 hly hd ?_
  simp (disch := omega) only [forall_eq, true_and, and_true, false_and, and_false, forall_const, true_implies, implies_true, not_true_eq_false, not_false_eq_true, false_implies, if_true, if_false, ↓reduceIte, Int.toNat_natCast, Int.reduceEq, Int.reduceNe, Int.reduceLT, Int.reduceLE, Int.reduceToNat, Int.reduceAdd, Int.reduceSub, Int.reduceMul, Int.reduceNeg, Nat.reduceAdd, Nat.reduceMul, Nat.reduceSub, iI_lit, jI_lit, iI_add, iI_sub, iI_mul, iI_neg, jI_add, jI_sub, jI_mul, jI_neg, nI_i, lN_j, iI_le, iI_lt, iI_eq, jI_le, jI_lt, jI_eq, iI_in, iI_cl, iI_j, jI_i, cN, inN, wI_eq, wI_ne, wJ_1, wJ_eq, wJ_ne, wI_2, wJ_3, iI_div, iI_rem, jI_div, jI_rem, true_or, or_true, false_or, or_false, eq_self, Nat.add_zero]
  refine c12_isIn (by omega) (by omega) (by omega) (by omega) (by omega) (by omega) (by omega) ?_
  rw [if_pos (by omega)]
  simp (disch := omega) only [forall_eq, true_and, and_true, false_and, and_false, forall_const, true_implies, implies_true, not_true_eq_false, not_false_eq_true, false_implies, if_true, if_false, ↓reduceIte, Int.toNat_natCast, Int.reduceEq, Int.reduceNe, Int.reduceLT, Int.reduceLE, Int.reduceToNat, Int.reduceAdd, Int.reduceSub, Int.reduceMul, Int.reduceNeg, Nat.reduceAdd, Nat.reduceMul, Nat.reduceSub, iI_lit, jI_lit, iI_add, iI_sub, iI_mul, iI_neg, jI_add, jI_sub, jI_mul, jI_neg, nI_i, lN_j, iI_le, iI_lt, iI_eq, jI_le, jI_lt, jI_eq, iI_in, iI_cl, iI_j, jI_i, cN, inN, wI_eq, wI_ne, wJ_1, wJ_eq, wJ_ne, wI_2, wJ_3, iI_div, iI_rem, jI_div, jI_rem, true_or, or_true, false_or, or_false, eq_self, Nat.add_zero]
  have key : ∀ (r i : Nat), i + r = n → (∀ k, k < i → (rnk p q w n k : Int) ≠ R) → gX12_ranked_20 E L d [.ref (sm_B E + 109), .int (iI R), .int (iI x)] (iI R) (iI x) (iI (i : Nat)) m Q := by
    intro r
    induction r with
    | zero =>
      intro i hi hno
      have : i = n := by omega
      subst this
      refine vX12_ranked_20 hly hd ?_
      simp (disch := omega) only [forall_eq, true_and, and_true, false_and, and_false, forall_const, true_implies, implies_true, not_true_eq_false, not_false_eq_true, false_implies, if_true, if_false, ↓reduceIte, Int.toNat_natCast, Int.reduceEq, Int.reduceNe, Int.reduceLT, Int.reduceLE, Int.reduceToNat, Int.reduceAdd, Int.reduceSub, Int.reduceMul, Int.reduceNeg, Nat.reduceAdd, Nat.reduceMul, Nat.reduceSub, iI_lit, jI_lit, iI_add, iI_sub, iI_mul, iI_neg, jI_add, jI_sub, jI_mul, jI_neg, nI_i, lN_j, iI_le, iI_lt, iI_eq, jI_le, jI_lt, jI_eq, iI_in, iI_cl, iI_j, jI_i, cN, inN, wI_eq, wI_ne, wJ_1, wJ_eq, wJ_ne, wI_2, wJ_3, iI_div, iI_rem, jI_div, jI_rem, true_or, or_true, false_or, or_false, eq_self, Nat.add_zero, hb2]
      refine ⟨fun _ => c12_finds (e := 2) hly (by decide) (by omega) (h2 (fun hR => ?_)), fun z => by omega⟩
      obtain ⟨K, hK, e⟩ := rnk_ex (w := w) hb.2.2.2.2.1 (show R.toNat < i by omega)
      exact hno K hK (by omega)
    | succ r ih =>
      intro i hi hno
      refine vX12_ranked_20 hly hd ?_
      simp (disch := omega) only [forall_eq, true_and, and_true, false_and, and_false, forall_const, true_implies, implies_true, not_true_eq_false, not_false_eq_true, false_implies, if_true, if_false, ↓reduceIte, Int.toNat_natCast, Int.reduceEq, Int.reduceNe, Int.reduceLT, Int.reduceLE, Int.reduceToNat, Int.reduceAdd, Int.reduceSub, Int.reduceMul, Int.reduceNeg, Nat.reduceAdd, Nat.reduceMul, Nat.reduceSub, iI_lit, jI_lit, iI_add, iI_sub, iI_mul, iI_neg, jI_add, jI_sub, jI_mul, jI_neg, nI_i, lN_j, iI_le, iI_lt, iI_eq, jI_le, jI_lt, jI_eq, iI_in, iI_cl, iI_j, jI_i, cN, inN, wI_eq, wI_ne, wJ_1, wJ_eq, wJ_ne, wI_2, wJ_3, iI_div, iI_rem, jI_div, jI_rem, true_or, or_true, false_or, or_false, eq_self, Nat.add_zero, hb2]
      refine ⟨fun z => by omega, fun _ => c12_ranked_in hly hd hc hb (by omega) r1 r2 x1 x2 (fun z => ih (i + 1) (by omega) (fun k hk => ?_)) (fun z => h1 i (by omega) z) n 0 (by omega)⟩
      by_cases hki : k = i
      · subst hki
        exact z
      · exact hno k (by omega)
  exact key n 0 (by omega) (fun k hk => absurd hk (Nat.not_lt_zero _))
theorem k_ranked {x1 x2 : Int32} (hly : ∀ S, L S → ly S) (hd1 : 3 ≤ d1) (hd2 : 3 ≤ d2) (hI : Inv c m) : sm_callI E L mX11_ranked d1 0 0 [.ref (sm_B E + 0), .int x1, .int x2] m (fun r m1 => sm_callI E L mX12_ranked d2 0 0 [.ref (sm_B E + 109), .int x1, .int x2] m1 (fun r2 m2 => r = r2 ∧ Inv c m2)) := by
  obtain ⟨i, i1, i2, rfl⟩ := iI_ex x1
  obtain ⟨x, x1, x2, rfl⟩ := iI_ex x2
  obtain ⟨n, p, q, w, hb⟩ := hI.2.1.2.2.2.2.1
  have hc := hI.1
  have bad : ¬ (0 ≤ x ∧ x ≤ 2) → sm_callI E L mX12_ranked d2 0 0 [.ref (sm_B E + 109), .int (iI i), .int (iI x)] (sm_wI m 76 1 (m.1 76 1 + 1)) (fun r2 m2 => iI (-1000000000 - (1 : Nat)) = r2 ∧ Inv c m2) := fun hx => by
    refine vX12_ranked_0 hly hd2 ?_
    simp (disch := omega) only [forall_eq, true_and, and_true, false_and, and_false, forall_const, true_implies, implies_true, not_true_eq_false, not_false_eq_true, false_implies, if_true, if_false, ↓reduceIte, Int.toNat_natCast, Int.reduceEq, Int.reduceNe, Int.reduceLT, Int.reduceLE, Int.reduceToNat, Int.reduceAdd, Int.reduceSub, Int.reduceMul, Int.reduceNeg, Nat.reduceAdd, Nat.reduceMul, Nat.reduceSub, iI_lit, jI_lit, iI_add, iI_sub, iI_mul, iI_neg, jI_add, jI_sub, jI_mul, jI_neg, nI_i, lN_j, iI_le, iI_lt, iI_eq, jI_le, jI_lt, jI_eq, iI_in, iI_cl, iI_j, jI_i, cN, inN, wI_eq, wI_ne, wJ_1, wJ_eq, wJ_ne, wI_2, wJ_3, iI_div, iI_rem, jI_div, jI_rem, true_or, or_true, false_or, or_false, eq_self, Nat.add_zero]
    refine c12_isIn (by omega) (by omega) (by omega) (by omega) (by omega) (by omega) (by omega) ?_
    rw [if_neg hx]
    simp (disch := omega) only [forall_eq, true_and, and_true, false_and, and_false, forall_const, true_implies, implies_true, not_true_eq_false, not_false_eq_true, false_implies, if_true, if_false, ↓reduceIte, Int.toNat_natCast, Int.reduceEq, Int.reduceNe, Int.reduceLT, Int.reduceLE, Int.reduceToNat, Int.reduceAdd, Int.reduceSub, Int.reduceMul, Int.reduceNeg, Nat.reduceAdd, Nat.reduceMul, Nat.reduceSub, iI_lit, jI_lit, iI_add, iI_sub, iI_mul, iI_neg, jI_add, jI_sub, jI_mul, jI_neg, nI_i, lN_j, iI_le, iI_lt, iI_eq, jI_le, jI_lt, jI_eq, iI_in, iI_cl, iI_j, jI_i, cN, inN, wI_eq, wI_ne, wJ_1, wJ_eq, wJ_ne, wI_2, wJ_3, iI_div, iI_rem, jI_div, jI_rem, true_or, or_true, false_or, or_false, eq_self, Nat.add_zero]
    exact c12_finds (e := 1) hly (by decide) (by omega) ⟨rfl, hI.er frw.rf frw.rf⟩
  refine vX11_ranked_0 hly hd1 ?_
  simp (disch := omega) only [forall_eq, true_and, and_true, false_and, and_false, forall_const, true_implies, implies_true, not_true_eq_false, not_false_eq_true, false_implies, if_true, if_false, ↓reduceIte, Int.toNat_natCast, Int.reduceEq, Int.reduceNe, Int.reduceLT, Int.reduceLE, Int.reduceToNat, Int.reduceAdd, Int.reduceSub, Int.reduceMul, Int.reduceNeg, Nat.reduceAdd, Nat.reduceMul, Nat.reduceSub, iI_lit, jI_lit, iI_add, iI_sub, iI_mul, iI_neg, jI_add, jI_sub, jI_mul, jI_neg, nI_i, lN_j, iI_le, iI_lt, iI_eq, jI_le, jI_lt, jI_eq, iI_in, iI_cl, iI_j, jI_i, cN, inN, wI_eq, wI_ne, wJ_1, wJ_eq, wJ_ne, wI_2, wJ_3, iI_div, iI_rem, jI_div, jI_rem, true_or, or_true, false_or, or_false, eq_self, Nat.add_zero]
  refine ⟨fun z => c_error (e := 1) hly (by decide) (by omega) (bad (by omega)), fun z => ⟨fun z2 => c_bhas hly (by omega) hb i1 i2 ?_, fun z2 => c_error (e := 1) hly (by decide) (by omega) (bad (by omega))⟩⟩
  by_cases hi : 0 ≤ i ∧ i < n
  · obtain ⟨K, hK, e⟩ := rnk_ex (w := w) hb.2.2.2.2.1 (show i.toNat < n by omega)
    rw [if_pos hi]
    simp (disch := omega) only [forall_eq, true_and, and_true, false_and, and_false, forall_const, true_implies, implies_true, not_true_eq_false, not_false_eq_true, false_implies, if_true, if_false, ↓reduceIte, Int.toNat_natCast, Int.reduceEq, Int.reduceNe, Int.reduceLT, Int.reduceLE, Int.reduceToNat, Int.reduceAdd, Int.reduceSub, Int.reduceMul, Int.reduceNeg, Nat.reduceAdd, Nat.reduceMul, Nat.reduceSub, iI_lit, jI_lit, iI_add, iI_sub, iI_mul, iI_neg, jI_add, jI_sub, jI_mul, jI_neg, nI_i, lN_j, iI_le, iI_lt, iI_eq, jI_le, jI_lt, jI_eq, iI_in, iI_cl, iI_j, jI_i, cN, inN, wI_eq, wI_ne, wJ_1, wJ_eq, wJ_ne, wI_2, wJ_3, iI_div, iI_rem, jI_div, jI_rem, true_or, or_true, false_or, or_false, eq_self, Nat.add_zero]
    refine c_atRank hly (by omega) hc hb hK (by omega) (c_tell hly (by omega) hc hb hK (by omega) z2 (c12_ranked hly hd2 hc hb i1 i2 (by omega) z2 (fun K' hK' e' => ⟨?_, hI⟩) (fun h => absurd hi h)))
    rw [rnk_inj (w := w) hb.2.2.2.2.1 K' K hK' hK (by omega)]
  · rw [if_neg hi]
    simp (disch := omega) only [forall_eq, true_and, and_true, false_and, and_false, forall_const, true_implies, implies_true, not_true_eq_false, not_false_eq_true, false_implies, if_true, if_false, ↓reduceIte, Int.toNat_natCast, Int.reduceEq, Int.reduceNe, Int.reduceLT, Int.reduceLE, Int.reduceToNat, Int.reduceAdd, Int.reduceSub, Int.reduceMul, Int.reduceNeg, Nat.reduceAdd, Nat.reduceMul, Nat.reduceSub, iI_lit, jI_lit, iI_add, iI_sub, iI_mul, iI_neg, jI_add, jI_sub, jI_mul, jI_neg, nI_i, lN_j, iI_le, iI_lt, iI_eq, jI_le, jI_lt, jI_eq, iI_in, iI_cl, iI_j, jI_i, cN, inN, wI_eq, wI_ne, wJ_1, wJ_eq, wJ_ne, wI_2, wJ_3, iI_div, iI_rem, jI_div, jI_rem, true_or, or_true, false_or, or_false, eq_self, Nat.add_zero]
    refine c_error (e := 2) hly (by decide) (by omega) (c12_ranked hly hd2 hc (hb.frw (fr.rf.wI (P := fun a k => a = 76) rfl).w ⟨by omega, by omega, by omega, fun k => by omega⟩) i1 i2 (by omega) z2 (fun K hK e => ?_) (fun _ => ⟨rfl, hI.er frw.rf frw.rf⟩))
    have : rnk p q w n K < n := rnk_lt hK
    omega
theorem c_timesOf {Q : Int32 → sm_M → Prop} {P R : Int} (hly : ∀ S, L S → ly S) (hd : 2 ≤ d) (hc : c ≤ 1000) (hb : bkn c m n p q w) (p1 : -2147483648 ≤ P) (p2 : P ≤ 2147483647) (r1 : -2147483648 ≤ R) (r2 : R ≤ 2147483647) (h1 : ∀ k, k < n → p k = P → q k = R → Q (iI (w k)) m) (h2 : (∀ k, k < n → ¬ (p k = P ∧ q k = R)) → Q (iI 0) m) : sm_callI E L mX0_timesOf d 0 0 [.ref (sm_B E + 70), .int (iI P), .int (iI R)] m Q := by
  have hn := hb.1
  have hb2 := hb.2.1
  refine vX0_timesOf_0 hd ?_
  have key : ∀ (r i : Nat), i + r = n → (∀ k, k < i → ¬ (p k = P ∧ q k = R)) → gX0_timesOf_2 E L d [.ref (sm_B E + 70), .int (iI P), .int (iI R)] (iI P) (iI R) (iI (i : Nat)) m Q := by
    intro r
    induction r with
    | zero =>
      intro i hi hno
      have : i = n := by omega
      subst this
      refine vX0_timesOf_2 hly hd ?_
      simp (disch := omega) only [forall_eq, true_and, and_true, false_and, and_false, forall_const, true_implies, implies_true, not_true_eq_false, not_false_eq_true, false_implies, if_true, if_false, ↓reduceIte, Int.toNat_natCast, Int.reduceEq, Int.reduceNe, Int.reduceLT, Int.reduceLE, Int.reduceToNat, Int.reduceAdd, Int.reduceSub, Int.reduceMul, Int.reduceNeg, Nat.reduceAdd, Nat.reduceMul, Nat.reduceSub, iI_lit, jI_lit, iI_add, iI_sub, iI_mul, iI_neg, jI_add, jI_sub, jI_mul, jI_neg, nI_i, lN_j, iI_le, iI_lt, iI_eq, jI_le, jI_lt, jI_eq, iI_in, iI_cl, iI_j, jI_i, cN, inN, wI_eq, wI_ne, wJ_1, wJ_eq, wJ_ne, wI_2, wJ_3, iI_div, iI_rem, jI_div, jI_rem, true_or, or_true, false_or, or_false, eq_self, Nat.add_zero, hb2]
      exact ⟨fun _ => h2 hno, fun z => by omega⟩
    | succ r ih =>
      intro i hi hno
      obtain ⟨b, v1, v2, v3, v4, v5⟩ := hb.2.2.2.1 i (by omega)
      have e5 : ((i : Nat) : Int) + 1 = ((i + 1 : Nat) : Int) := by omega
      have nx : ¬ (p i = P ∧ q i = R) → gX0_timesOf_2 E L d [.ref (sm_B E + 70), .int (iI P), .int (iI R)] (iI P) (iI R) (iI ((i + 1 : Nat) : Int)) m Q := fun hz => ih (i + 1) (by omega) (fun k hk => by
        by_cases hki : k = i
        · subst hki
          exact hz
        · exact hno k (by omega))
      refine vX0_timesOf_2 hly hd ?_
      simp (disch := omega) only [forall_eq, true_and, and_true, false_and, and_false, forall_const, true_implies, implies_true, not_true_eq_false, not_false_eq_true, false_implies, if_true, if_false, ↓reduceIte, Int.toNat_natCast, Int.reduceEq, Int.reduceNe, Int.reduceLT, Int.reduceLE, Int.reduceToNat, Int.reduceAdd, Int.reduceSub, Int.reduceMul, Int.reduceNeg, Nat.reduceAdd, Nat.reduceMul, Nat.reduceSub, iI_lit, jI_lit, iI_add, iI_sub, iI_mul, iI_neg, jI_add, jI_sub, jI_mul, jI_neg, nI_i, lN_j, iI_le, iI_lt, iI_eq, jI_le, jI_lt, jI_eq, iI_in, iI_cl, iI_j, jI_i, cN, inN, wI_eq, wI_ne, wJ_1, wJ_eq, wJ_ne, wI_2, wJ_3, iI_div, iI_rem, jI_div, jI_rem, true_or, or_true, false_or, or_false, eq_self, Nat.add_zero, hb2, v1, e5]
      refine ⟨fun z => by omega, fun _ => ⟨by omega, c_topOf (by omega) (by omega) (by omega) ?_⟩⟩
      simp (disch := omega) only [forall_eq, true_and, and_true, false_and, and_false, forall_const, true_implies, implies_true, not_true_eq_false, not_false_eq_true, false_implies, if_true, if_false, ↓reduceIte, Int.toNat_natCast, Int.reduceEq, Int.reduceNe, Int.reduceLT, Int.reduceLE, Int.reduceToNat, Int.reduceAdd, Int.reduceSub, Int.reduceMul, Int.reduceNeg, Nat.reduceAdd, Nat.reduceMul, Nat.reduceSub, iI_lit, jI_lit, iI_add, iI_sub, iI_mul, iI_neg, jI_add, jI_sub, jI_mul, jI_neg, nI_i, lN_j, iI_le, iI_lt, iI_eq, jI_le, jI_lt, jI_eq, iI_in, iI_cl, iI_j, jI_i, cN, inN, wI_eq, wI_ne, wJ_1, wJ_eq, wJ_ne, wI_2, wJ_3, iI_div, iI_rem, jI_div, jI_rem, true_or, or_true, false_or, or_false, eq_self, Nat.add_zero, v1, e5]
      refine ⟨fun z => nx (by omega), fun z => ⟨by omega, c_bottomOf (by omega) ?_⟩⟩
      simp (disch := omega) only [forall_eq, true_and, and_true, false_and, and_false, forall_const, true_implies, implies_true, not_true_eq_false, not_false_eq_true, false_implies, if_true, if_false, ↓reduceIte, Int.toNat_natCast, Int.reduceEq, Int.reduceNe, Int.reduceLT, Int.reduceLE, Int.reduceToNat, Int.reduceAdd, Int.reduceSub, Int.reduceMul, Int.reduceNeg, Nat.reduceAdd, Nat.reduceMul, Nat.reduceSub, iI_lit, jI_lit, iI_add, iI_sub, iI_mul, iI_neg, jI_add, jI_sub, jI_mul, jI_neg, nI_i, lN_j, iI_le, iI_lt, iI_eq, jI_le, jI_lt, jI_eq, iI_in, iI_cl, iI_j, jI_i, cN, inN, wI_eq, wI_ne, wJ_1, wJ_eq, wJ_ne, wI_2, wJ_3, iI_div, iI_rem, jI_div, jI_rem, true_or, or_true, false_or, or_false, eq_self, Nat.add_zero, v4, e5]
      exact ⟨fun z2 => nx (by omega), fun z2 => ⟨by omega, h1 i (by omega) z z2⟩⟩
  exact key n 0 (by omega) (fun k hk => absurd hk (Nat.not_lt_zero _))
theorem c12_bookPlace {Q : Int32 → sm_M → Prop} {P R : Int} (hly : ∀ S, L S → ly S) (hd : 1 ≤ d) (hc : c ≤ 1000) (hb : bkn c m n p q w) (p1 : -2147483648 ≤ P) (p2 : P ≤ 2147483647) (r1 : -2147483648 ≤ R) (r2 : R ≤ 2147483647) (h1 : ∀ k, k < n → p k = P → q k = R → Q (iI (k : Nat)) m) (h2 : (∀ k, k < n → ¬ (p k = P ∧ q k = R)) → Q (iI (-1)) m) : sm_callI E L mX12_bookPlace d 0 0 [.ref (sm_B E + 109), .long (jI P), .long (jI R)] m Q := by
  have hn := hb.1
  have hb2 := hb.2.2.1
  refine vX12_bookPlace_0 hd ?_
  have key : ∀ (r i : Nat) (s : Int), i + r = n → ((s = -1 ∧ ∀ k, k < i → ¬ (p k = P ∧ q k = R)) ∨ (∃ k : Nat, s = k ∧ k < i ∧ p k = P ∧ q k = R)) → gX12_bookPlace_6 E L d [.ref (sm_B E + 109), .long (jI P), .long (jI R)] (jI P) (jI R) (iI s) (iI (i : Nat)) m Q := by
    intro r
    induction r with
    | zero =>
      intro i s hi hs
      have : i = n := by omega
      subst this
      refine vX12_bookPlace_6 hly hd ?_
      simp (disch := omega) only [forall_eq, true_and, and_true, false_and, and_false, forall_const, true_implies, implies_true, not_true_eq_false, not_false_eq_true, false_implies, if_true, if_false, ↓reduceIte, Int.toNat_natCast, Int.reduceEq, Int.reduceNe, Int.reduceLT, Int.reduceLE, Int.reduceToNat, Int.reduceAdd, Int.reduceSub, Int.reduceMul, Int.reduceNeg, Nat.reduceAdd, Nat.reduceMul, Nat.reduceSub, iI_lit, jI_lit, iI_add, iI_sub, iI_mul, iI_neg, jI_add, jI_sub, jI_mul, jI_neg, nI_i, lN_j, iI_le, iI_lt, iI_eq, jI_le, jI_lt, jI_eq, iI_in, iI_cl, iI_j, jI_i, cN, inN, wI_eq, wI_ne, wJ_1, wJ_eq, wJ_ne, wI_2, wJ_3, iI_div, iI_rem, jI_div, jI_rem, true_or, or_true, false_or, or_false, eq_self, Nat.add_zero, hb2]
      refine ⟨fun _ => ?_, fun z => by omega⟩
      rcases hs with ⟨rfl, hno⟩ | ⟨k, rfl, hk, e1, e2⟩
      · exact h2 hno
      · exact h1 k hk e1 e2
    | succ r ih =>
      intro i s hi hs
      obtain ⟨b, v1, v2, v3, v4, v5⟩ := hb.2.2.2.1 i (by omega)
      have e5 : ((i : Nat) : Int) + 1 = ((i + 1 : Nat) : Int) := by omega
      have nx : ¬ (p i = P ∧ q i = R) → gX12_bookPlace_6 E L d [.ref (sm_B E + 109), .long (jI P), .long (jI R)] (jI P) (jI R) (iI s) (iI ((i + 1 : Nat) : Int)) m Q := fun hz => by
        refine ih (i + 1) s (by omega) ?_
        rcases hs with ⟨e, hno⟩ | ⟨k, e, hk, e1, e2⟩
        · refine Or.inl ⟨e, fun k hk => ?_⟩
          by_cases hki : k = i
          · subst hki
            exact hz
          · exact hno k (by omega)
        · exact Or.inr ⟨k, e, by omega, e1, e2⟩
      refine vX12_bookPlace_6 hly hd ?_
      simp (disch := omega) only [forall_eq, true_and, and_true, false_and, and_false, forall_const, true_implies, implies_true, not_true_eq_false, not_false_eq_true, false_implies, if_true, if_false, ↓reduceIte, Int.toNat_natCast, Int.reduceEq, Int.reduceNe, Int.reduceLT, Int.reduceLE, Int.reduceToNat, Int.reduceAdd, Int.reduceSub, Int.reduceMul, Int.reduceNeg, Nat.reduceAdd, Nat.reduceMul, Nat.reduceSub, iI_lit, jI_lit, iI_add, iI_sub, iI_mul, iI_neg, jI_add, jI_sub, jI_mul, jI_neg, nI_i, lN_j, iI_le, iI_lt, iI_eq, jI_le, jI_lt, jI_eq, iI_in, iI_cl, iI_j, jI_i, cN, inN, wI_eq, wI_ne, wJ_1, wJ_eq, wJ_ne, wI_2, wJ_3, iI_div, iI_rem, jI_div, jI_rem, true_or, or_true, false_or, or_false, eq_self, Nat.add_zero, hb2, v2, v3, e5]
      refine ⟨fun z => by omega, fun _ => ⟨by omega, fun z => nx (by omega), fun z => ⟨by omega, fun z2 => nx (by omega), fun z2 => ih (i + 1) (i : Nat) (by omega) (Or.inr ⟨i, rfl, by omega, z, z2⟩)⟩⟩⟩
  exact key n 0 (-1) (by omega) (Or.inl ⟨rfl, fun k hk => absurd hk (Nat.not_lt_zero _)⟩)
theorem k_entered {x1 x2 : Int32} (hly : ∀ S, L S → ly S) (hd1 : 3 ≤ d1) (hd2 : 2 ≤ d2) (hI : Inv c m) : sm_callI E L mX11_entered d1 0 0 [.ref (sm_B E + 0), .int x1, .int x2] m (fun r m1 => sm_callI E L mX12_entered d2 0 0 [.ref (sm_B E + 109), .int x1, .int x2] m1 (fun r2 m2 => r = r2 ∧ Inv c m2)) := by
  obtain ⟨i, i1, i2, rfl⟩ := iI_ex x1
  obtain ⟨x, x1, x2, rfl⟩ := iI_ex x2
  obtain ⟨n, p, q, w, hb⟩ := hI.2.1.2.2.2.2.1
  have hc := hI.1
  have hn := hb.1
  refine vX11_entered_0 hly hd1 (c_timesOf hly (by omega) hc hb i1 i2 x1 x2 (fun k hk e1 e2 => ?_) (fun hno => ?_))
  · refine vX12_entered_0 hly hd2 ?_
    simp (disch := omega) only [forall_eq, true_and, and_true, false_and, and_false, forall_const, true_implies, implies_true, not_true_eq_false, not_false_eq_true, false_implies, if_true, if_false, ↓reduceIte, Int.toNat_natCast, Int.reduceEq, Int.reduceNe, Int.reduceLT, Int.reduceLE, Int.reduceToNat, Int.reduceAdd, Int.reduceSub, Int.reduceMul, Int.reduceNeg, Nat.reduceAdd, Nat.reduceMul, Nat.reduceSub, iI_lit, jI_lit, iI_add, iI_sub, iI_mul, iI_neg, jI_add, jI_sub, jI_mul, jI_neg, nI_i, lN_j, iI_le, iI_lt, iI_eq, jI_le, jI_lt, jI_eq, iI_in, iI_cl, iI_j, jI_i, cN, inN, wI_eq, wI_ne, wJ_1, wJ_eq, wJ_ne, wI_2, wJ_3, iI_div, iI_rem, jI_div, jI_rem, true_or, or_true, false_or, or_false, eq_self, Nat.add_zero]
    refine c12_bookPlace hly (by omega) hc hb i1 i2 x1 x2 (fun k' hk' e1' e2' => ?_) (fun hno => absurd ⟨e1, e2⟩ (hno k hk))
    have : k' = k := hb.2.2.2.2.1 k' k hk' hk (by omega) (by omega)
    subst this
    obtain ⟨b, v1, v2, v3, v4, v5⟩ := hb.2.2.2.1 k' hk
    simp (disch := omega) only [forall_eq, true_and, and_true, false_and, and_false, forall_const, true_implies, implies_true, not_true_eq_false, not_false_eq_true, false_implies, if_true, if_false, ↓reduceIte, Int.toNat_natCast, Int.reduceEq, Int.reduceNe, Int.reduceLT, Int.reduceLE, Int.reduceToNat, Int.reduceAdd, Int.reduceSub, Int.reduceMul, Int.reduceNeg, Nat.reduceAdd, Nat.reduceMul, Nat.reduceSub, iI_lit, jI_lit, iI_add, iI_sub, iI_mul, iI_neg, jI_add, jI_sub, jI_mul, jI_neg, nI_i, lN_j, iI_le, iI_lt, iI_eq, jI_le, jI_lt, jI_eq, iI_in, iI_cl, iI_j, jI_i, cN, inN, wI_eq, wI_ne, wJ_1, wJ_eq, wJ_ne, wI_2, wJ_3, iI_div, iI_rem, jI_div, jI_rem, true_or, or_true, false_or, or_false, eq_self, Nat.add_zero, v5]
    exact ⟨fun _ => ⟨by omega, hI⟩, fun z => by omega⟩
  · refine vX12_entered_0 hly hd2 ?_
    simp (disch := omega) only [forall_eq, true_and, and_true, false_and, and_false, forall_const, true_implies, implies_true, not_true_eq_false, not_false_eq_true, false_implies, if_true, if_false, ↓reduceIte, Int.toNat_natCast, Int.reduceEq, Int.reduceNe, Int.reduceLT, Int.reduceLE, Int.reduceToNat, Int.reduceAdd, Int.reduceSub, Int.reduceMul, Int.reduceNeg, Nat.reduceAdd, Nat.reduceMul, Nat.reduceSub, iI_lit, jI_lit, iI_add, iI_sub, iI_mul, iI_neg, jI_add, jI_sub, jI_mul, jI_neg, nI_i, lN_j, iI_le, iI_lt, iI_eq, jI_le, jI_lt, jI_eq, iI_in, iI_cl, iI_j, jI_i, cN, inN, wI_eq, wI_ne, wJ_1, wJ_eq, wJ_ne, wI_2, wJ_3, iI_div, iI_rem, jI_div, jI_rem, true_or, or_true, false_or, or_false, eq_self, Nat.add_zero]
    refine c12_bookPlace hly (by omega) hc hb i1 i2 x1 x2 (fun k' hk' e1' e2' => absurd ⟨e1', e2'⟩ (hno k' hk')) (fun _ => ?_)
    simp (disch := omega) only [forall_eq, true_and, and_true, false_and, and_false, forall_const, true_implies, implies_true, not_true_eq_false, not_false_eq_true, false_implies, if_true, if_false, ↓reduceIte, Int.toNat_natCast, Int.reduceEq, Int.reduceNe, Int.reduceLT, Int.reduceLE, Int.reduceToNat, Int.reduceAdd, Int.reduceSub, Int.reduceMul, Int.reduceNeg, Nat.reduceAdd, Nat.reduceMul, Nat.reduceSub, iI_lit, jI_lit, iI_add, iI_sub, iI_mul, iI_neg, jI_add, jI_sub, jI_mul, jI_neg, nI_i, lN_j, iI_le, iI_lt, iI_eq, jI_le, jI_lt, jI_eq, iI_in, iI_cl, iI_j, jI_i, cN, inN, wI_eq, wI_ne, wJ_1, wJ_eq, wJ_ne, wI_2, wJ_3, iI_div, iI_rem, jI_div, jI_rem, true_or, or_true, false_or, or_false, eq_self, Nat.add_zero]
    exact hI
end BOK
