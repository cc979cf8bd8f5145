/-! rows of terms in the reference; term, judge -/
theorem ceil_by (u v : Int) (hv : 0 < v) : -((-u) / v) = u / v + (if u % v = 0 then 0 else 1) := by
  have e := Int.emod_add_mul_ediv u v
  have r1 := Int.emod_nonneg u (show v ≠ 0 by omega)
  have r2 := Int.emod_lt_of_pos u hv
  by_cases h : u % v = 0
  · rw [if_pos h, show -u = 0 + v * (-(u / v)) by grind, Int.add_mul_ediv_left _ _ (by omega), Int.zero_ediv]
    omega
  · rw [if_neg h, show -u = (v - u % v) + v * (-(u / v) - 1) by grind, Int.add_mul_ediv_left _ _ (by omega), Int.ediv_eq_zero_of_lt (by omega) (by omega)]
    omega
def teP : Nat → Nat → Prop := fun a k => (a = 109 ∧ k = 36) ∨ a = 127
def rbP : Nat → Nat → Prop := fun a k => (a = 109 ∧ k = 67) ∨ a = 148
section RW2
variable {E : sm_E} {L : sm_S → Prop} {d d1 d2 : Nat} {m : sm_M} {c : Nat}
theorem c12_tn_loop {Q : sm_M → Prop} {vs : List Value} {M : Nat} {A : Nat → Int} {bl : Int} (hly : ∀ S, L S → ly S) (hd : 1 ≤ d) (hM : M ≤ 48) (hb : bl = 0 ∨ bl = 1) (m0 : sm_M) (h : ∀ m', fr teP m0 m' → m'.1 109 36 = iI (M : Nat) → (∀ k, k < M → m'.2.1 127 k = jI (if bl = 1 then -(A k) else A k)) → Q m') : ∀ (r k : Nat) (m : sm_M), k + r = M → fr teP m0 m → m.1 109 36 = iI (M : Nat) → (∀ j, j < M → m.2.1 127 j = jI (if bl = 1 ∧ j < k then -(A j) else A j)) → (bl = 0 → k = 0) → gX12_termsOf_134 E L d vs (iI bl) (iI (k : Nat)) m Q := by
  intro r
  induction r with
  | zero =>
    intro k m hk hf h1 h2 h3
    have : k = M := by omega
    subst this
    refine vX12_termsOf_134 hly hd ?_
    simp (disch := omega) only [forall_eq, true_and, and_true, false_and, and_false, forall_const, true_implies, implies_true, not_true_eq_false, not_false_eq_true, false_implies, if_true, if_false, ↓reduceIte, Int.toNat_natCast, Int.reduceEq, Int.reduceNe, Int.reduceLT, Int.reduceLE, Int.reduceToNat, Int.reduceAdd, Int.reduceSub, Int.reduceMul, Int.reduceNeg, Nat.reduceAdd, Nat.reduceMul, Nat.reduceSub, iI_lit, jI_lit, iI_add, iI_sub, iI_mul, iI_neg, jI_add, jI_sub, jI_mul, jI_neg, nI_i, lN_j, iI_le, iI_lt, iI_eq, jI_le, jI_lt, jI_eq, iI_in, iI_cl, iI_j, jI_i, cN, inN, wI_eq, wI_ne, wJ_1, wJ_eq, wJ_ne, wI_2, wJ_3, iI_div, iI_rem, jI_div, jI_rem, true_or, or_true, false_or, or_false, eq_self, Nat.add_zero, h1]
    refine ⟨fun _ => h m hf h1 (fun j hj => ?_), fun z => by omega⟩
    rw [h2 j hj]
    by_cases hb1 : bl = 1
    · rw [if_pos ⟨hb1, hj⟩, if_pos hb1]
    · rw [if_neg (fun q => hb1 q.1), if_neg hb1]
  | succ r ih =>
    intro k m hk hf h1 h2 h3
    have e5 : ((k : Nat) : Int) + 1 = ((k + 1 : Nat) : Int) := by omega
    have hk2 := h2 k (by omega)
    rw [if_neg (by omega)] at hk2
    refine vX12_termsOf_134 hly hd ?_
    rcases hb with rfl | rfl
    · simp (disch := omega) only [forall_eq, true_and, and_true, false_and, and_false, forall_const, true_implies, implies_true, not_true_eq_false, not_false_eq_true, false_implies, if_true, if_false, ↓reduceIte, Int.toNat_natCast, Int.reduceEq, Int.reduceNe, Int.reduceLT, Int.reduceLE, Int.reduceToNat, Int.reduceAdd, Int.reduceSub, Int.reduceMul, Int.reduceNeg, Nat.reduceAdd, Nat.reduceMul, Nat.reduceSub, iI_lit, jI_lit, iI_add, iI_sub, iI_mul, iI_neg, jI_add, jI_sub, jI_mul, jI_neg, nI_i, lN_j, iI_le, iI_lt, iI_eq, jI_le, jI_lt, jI_eq, iI_in, iI_cl, iI_j, jI_i, cN, inN, wI_eq, wI_ne, wJ_1, wJ_eq, wJ_ne, wI_2, wJ_3, iI_div, iI_rem, jI_div, jI_rem, true_or, or_true, false_or, or_false, eq_self, Nat.add_zero, h1]
      refine ⟨fun z => by omega, fun _ => h m hf h1 (fun j hj => ?_)⟩
      rw [h2 j hj, if_neg (by omega), if_neg (by omega)]
    · simp (disch := omega) only [forall_eq, true_and, and_true, false_and, and_false, forall_const, true_implies, implies_true, not_true_eq_false, not_false_eq_true, false_implies, if_true, if_false, ↓reduceIte, Int.toNat_natCast, Int.reduceEq, Int.reduceNe, Int.reduceLT, Int.reduceLE, Int.reduceToNat, Int.reduceAdd, Int.reduceSub, Int.reduceMul, Int.reduceNeg, Nat.reduceAdd, Nat.reduceMul, Nat.reduceSub, iI_lit, jI_lit, iI_add, iI_sub, iI_mul, iI_neg, jI_add, jI_sub, jI_mul, jI_neg, nI_i, lN_j, iI_le, iI_lt, iI_eq, jI_le, jI_lt, jI_eq, iI_in, iI_cl, iI_j, jI_i, cN, inN, wI_eq, wI_ne, wJ_1, wJ_eq, wJ_ne, wI_2, wJ_3, iI_div, iI_rem, jI_div, jI_rem, true_or, or_true, false_or, or_false, eq_self, Nat.add_zero, h1, hk2, e5]
      refine ⟨fun z => by omega, fun _ => ⟨by omega, by omega, ih (k + 1) _ (by omega) (hf.wJ (Or.inr rfl)) h1 (fun j hj => ?_) (fun z => by omega)⟩⟩
      by_cases hjk : j = k
      · subst hjk
        rw [wJ_eq rfl rfl, if_pos (by omega)]
      · rw [wJ_ne (by omega), h2 j hj]
        by_cases hlt : j < k
        · rw [if_pos ⟨rfl, hlt⟩, if_pos ⟨rfl, by omega⟩]
        · rw [if_neg (by omega), if_neg (by omega)]
theorem c12_termsOf_loop {Q : sm_M → Prop} {vs : List Value} {M : Nat} {u v bl : Int} (hly : ∀ S, L S → ly S) (hd : 1 ≤ d) (hu : 0 ≤ u) (hu2 : u ≤ 1000000000) (hv : 0 < v) (hv2 : v ≤ 1000000000) (hM1 : 1 ≤ M) (hM : M ≤ 47) (hz : (rst 3 u v M).2 = 0) (hn : ∀ j, j < M → (rst 3 u v j).2 ≠ 0) (hb : bl = 0 ∨ bl = 1) (m0 : sm_M) (h : ∀ m', fr teP m0 m' → m'.1 109 36 = iI (smN M : Nat) → (∀ k, k < smN M → m'.2.1 127 k = jI (if bl = 1 then -(smT M (fun k => rTm 3 (rst 3 u v k).1 (rst 3 u v k).2) k) else smT M (fun k => rTm 3 (rst 3 u v k).1 (rst 3 u v k).2) k)) → Q m') : ∀ (r k : Nat) (m : sm_M), k + r + 1 = M → fr teP m0 m → m.1 109 36 = iI (k : Nat) → (∀ j, j < k → m.2.1 127 j = jI (rTm 3 (rst 3 u v j).1 (rst 3 u v j).2)) → gX12_termsOf_41 E L d vs (iI bl) (jI (rst 3 u v k).1) (jI (rst 3 u v k).2) m Q := by
  have hsm : smN M ≤ 48 := by unfold smN; split <;> omega
  intro r
  induction r with
  | zero =>
    intro k m hk hf h1 h2
    have hkn := hn k (by omega)
    obtain ⟨b1, b2, b3⟩ := rst_floor hu (by omega) k (fun j hj => hn j (by omega))
    obtain ⟨c1, c2, c3⟩ := rst_bd (how := 3) (u := u) (v := v) (B := 1000000000) (by omega) (by omega) hv2 k (fun j hj => hn j (by omega))
    have b4 := b3 hkn
    have hM' : k + 1 = M := by omega
    rw [hM'] at b4
    have hrz : (rst 3 u v k).1 % (rst 3 u v k).2 = 0 := by rw [b4] at hz; exact hz
    have htd : (rst 3 u v k).1.tdiv (rst 3 u v k).2 = rTm 3 (rst 3 u v k).1 (rst 3 u v k).2 := by
      rw [Int.tdiv_eq_ediv_of_nonneg b1]
      unfold rTm
      rw [if_neg (by decide), if_neg (by decide)]
    have htm : (rst 3 u v k).1.tmod (rst 3 u v k).2 = 0 := by rw [Int.tmod_eq_emod_of_nonneg b1]; exact hrz
    have e5 : ((k : Nat) : Int) + 1 = ((M : Nat) : Int) := by omega
    have e2 : ((M : Nat) : Int).tmod 2 = ((M % 2 : Nat) : Int) := tmod_nat M 2
    have e1 : ((M : Nat) : Int) - 1 = ((k : Nat) : Int) := by omega
    have e6 : ((M : Nat) : Int) + 1 = ((M + 1 : Nat) : Int) := by omega
    refine vX12_termsOf_41 hly hd ?_
    simp (disch := omega) only [forall_eq, true_and, and_true, false_and, and_false, forall_const, true_implies, implies_true, not_true_eq_false, not_false_eq_true, false_implies, if_true, if_false, ↓reduceIte, Int.toNat_natCast, Int.reduceEq, Int.reduceNe, Int.reduceLT, Int.reduceLE, Int.reduceToNat, Int.reduceAdd, Int.reduceSub, Int.reduceMul, Int.reduceNeg, Nat.reduceAdd, Nat.reduceMul, Nat.reduceSub, iI_lit, jI_lit, iI_add, iI_sub, iI_mul, iI_neg, jI_add, jI_sub, jI_mul, jI_neg, nI_i, lN_j, iI_le, iI_lt, iI_eq, jI_le, jI_lt, jI_eq, iI_in, iI_cl, iI_j, jI_i, cN, inN, wI_eq, wI_ne, wJ_1, wJ_eq, wJ_ne, wI_2, wJ_3, iI_div, iI_rem, jI_div, jI_rem, true_or, or_true, false_or, or_false, eq_self, Nat.add_zero, h1, htd, htm, e5, e2, e1, e6]
    refine ⟨hkn, by omega, hkn, fun z => ?_, fun z => ?_⟩
    · -- odd
      have hsN : smN M = M := by unfold smN; rw [if_neg (by omega)]
      refine c12_tn_loop (M := M) (A := smT M (fun k => rTm 3 (rst 3 u v k).1 (rst 3 u v k).2)) hly hd (by omega) hb m0 (fun m' f' w1 w2 => h m' f' (by rw [hsN]; exact w1) (fun j hj => w2 j (by omega))) M 0 _ (by omega) ((hf.wJ (Or.inr rfl)).wI (Or.inl ⟨rfl, rfl⟩)) (wI_eq rfl rfl) (fun j hj => ?_) (fun _ => rfl)
      rw [if_neg (by omega), smT, if_neg (by omega)]
      show (sm_wJ m 127 k _).2.1 127 j = _
      by_cases hjk : j = k
      · subst hjk
        rw [wJ_eq rfl rfl]
      · rw [wJ_ne (by omega)]
        exact h2 j (by omega)
    · -- even
      have hsN : smN M = M + 1 := by unfold smN; rw [if_pos (by omega)]
      refine ⟨by omega, by omega, by omega, c12_tn_loop (M := M + 1) (A := smT M (fun k => rTm 3 (rst 3 u v k).1 (rst 3 u v k).2)) hly hd (by omega) hb m0 (fun m' f' w1 w2 => h m' f' (by rw [hsN]; exact w1) (fun j hj => w2 j (by omega))) (M + 1) 0 _ (by omega) (((((hf.wJ (Or.inr rfl)).wI (Or.inl ⟨rfl, rfl⟩)).wJ (Or.inr rfl)).wJ (Or.inr rfl)).wI (Or.inl ⟨rfl, rfl⟩)) (wI_eq rfl rfl) (fun j hj => ?_) (fun _ => rfl)⟩
      rw [if_neg (by omega), smT, if_pos (by omega)]
      simp (disch := omega) only [forall_eq, true_and, and_true, false_and, and_false, forall_const, true_implies, implies_true, not_true_eq_false, not_false_eq_true, false_implies, if_true, if_false, ↓reduceIte, Int.toNat_natCast, Int.reduceEq, Int.reduceNe, Int.reduceLT, Int.reduceLE, Int.reduceToNat, Int.reduceAdd, Int.reduceSub, Int.reduceMul, Int.reduceNeg, Nat.reduceAdd, Nat.reduceMul, Nat.reduceSub, iI_lit, jI_lit, iI_add, iI_sub, iI_mul, iI_neg, jI_add, jI_sub, jI_mul, jI_neg, nI_i, lN_j, iI_le, iI_lt, iI_eq, jI_le, jI_lt, jI_eq, iI_in, iI_cl, iI_j, jI_i, cN, inN, wI_eq, wI_ne, wJ_1, wJ_eq, wJ_ne, wI_2, wJ_3, iI_div, iI_rem, jI_div, jI_rem, true_or, or_true, false_or, or_false, eq_self, Nat.add_zero]
      by_cases h1 : j + 1 = M
      · rw [if_pos h1, wJ_ne (by omega), wJ_eq rfl (by omega), show j = k by omega]
      · rw [if_neg h1]
        by_cases h2' : j = M
        · rw [if_pos h2', wJ_eq rfl h2']
        · rw [if_neg h2', wJ_ne (by omega), wJ_ne (by omega)]
          show (sm_wJ m 127 k _).2.1 127 j = _
          rw [wJ_ne (by omega)]
          exact h2 j (by omega)
  | succ r ih =>
    intro k m hk hf h1 h2
    have hkn := hn k (by omega)
    obtain ⟨b1, b2, b3⟩ := rst_floor hu (by omega) k (fun j hj => hn j (by omega))
    obtain ⟨c1, c2, c3⟩ := rst_bd (how := 3) (u := u) (v := v) (B := 1000000000) (by omega) (by omega) hv2 k (fun j hj => hn j (by omega))
    have b4 := b3 hkn
    have hkn1 := hn (k + 1) (by omega)
    have hr0 := Int.emod_nonneg (rst 3 u v k).1 hkn
    have hr1 := Int.emod_lt_of_pos (rst 3 u v k).1 (show 0 < (rst 3 u v k).2 by omega)
    have htd : (rst 3 u v k).1.tdiv (rst 3 u v k).2 = rTm 3 (rst 3 u v k).1 (rst 3 u v k).2 := by
      rw [Int.tdiv_eq_ediv_of_nonneg b1]
      unfold rTm
      rw [if_neg (by decide), if_neg (by decide)]
    have htm : (rst 3 u v k).1.tmod (rst 3 u v k).2 = (rst 3 u v k).1 % (rst 3 u v k).2 := Int.tmod_eq_emod_of_nonneg b1
    have e5 : ((k : Nat) : Int) + 1 = ((k + 1 : Nat) : Int) := by omega
    have ihk := ih (k + 1)
    rw [b4] at ihk hkn1
    refine vX12_termsOf_41 hly hd ?_
    simp (disch := omega) only [forall_eq, true_and, and_true, false_and, and_false, forall_const, true_implies, implies_true, not_true_eq_false, not_false_eq_true, false_implies, if_true, if_false, ↓reduceIte, Int.toNat_natCast, Int.reduceEq, Int.reduceNe, Int.reduceLT, Int.reduceLE, Int.reduceToNat, Int.reduceAdd, Int.reduceSub, Int.reduceMul, Int.reduceNeg, Nat.reduceAdd, Nat.reduceMul, Nat.reduceSub, iI_lit, jI_lit, iI_add, iI_sub, iI_mul, iI_neg, jI_add, jI_sub, jI_mul, jI_neg, nI_i, lN_j, iI_le, iI_lt, iI_eq, jI_le, jI_lt, jI_eq, iI_in, iI_cl, iI_j, jI_i, cN, inN, wI_eq, wI_ne, wJ_1, wJ_eq, wJ_ne, wI_2, wJ_3, iI_div, iI_rem, jI_div, jI_rem, true_or, or_true, false_or, or_false, eq_self, Nat.add_zero, h1, htd, htm, e5]
    refine ⟨hkn, by omega, hkn, fun z => ?_, fun z => absurd z hkn1⟩
    refine ihk _ (by omega) ((hf.wJ (Or.inr rfl)).wI (Or.inl ⟨rfl, rfl⟩)) (wI_eq rfl rfl) (fun j hj => ?_)
    show (sm_wJ m 127 k _).2.1 127 j = _
    by_cases hjk : j = k
    · subst hjk
      rw [wJ_eq rfl rfl]
    · rw [wJ_ne (by omega)]
      exact h2 j (by omega)
theorem c12_termsOf {Q : sm_M → Prop} {p q : Int} (hly : ∀ S, L S → ly S) (hd : 1 ≤ d) (hp : (p.natAbs : Int) ≤ 1000000000) (hq0 : 0 ≤ q) (hq : q ≤ 1000000000) (h : ∀ m', fr teP m m' → m'.1 109 36 = iI (tN p q : Nat) → (∀ k, k < tN p q → m'.2.1 127 k = jI (tT p q k)) → Q m') : sm_callV E L mX12_termsOf d 0 0 [.ref (sm_B E + 109), .long (jI p), .long (jI q)] m Q := by
  refine vX12_termsOf_0 hly hd ?_
  simp (disch := omega) only [forall_eq, true_and, and_true, false_and, and_false, forall_const, true_implies, implies_true, not_true_eq_false, not_false_eq_true, false_implies, if_true, if_false, ↓reduceIte, Int.toNat_natCast, Int.reduceEq, Int.reduceNe, Int.reduceLT, Int.reduceLE, Int.reduceToNat, Int.reduceAdd, Int.reduceSub, Int.reduceMul, Int.reduceNeg, Nat.reduceAdd, Nat.reduceMul, Nat.reduceSub, iI_lit, jI_lit, iI_add, iI_sub, iI_mul, iI_neg, jI_add, jI_sub, jI_mul, jI_neg, nI_i, lN_j, iI_le, iI_lt, iI_eq, jI_le, jI_lt, jI_eq, iI_in, iI_cl, iI_j, jI_i, cN, inN, wI_eq, wI_ne, wJ_1, wJ_eq, wJ_ne, wI_2, wJ_3, iI_div, iI_rem, jI_div, jI_rem, true_or, or_true, false_or, or_false, eq_self, Nat.add_zero]
  refine ⟨fun hqn => ?_, fun hqz => ?_⟩
  · have hqp : 0 < q ∧ q ≤ 1000000000 := by omega
    obtain ⟨c1, c2, c3, c4⟩ := Classical.choose_spec (rst_ex (u := p.natAbs) (by omega) hqp.1 hqp.2)
    have eN : tN p q = smN (Classical.choose (rst_ex (u := p.natAbs) (by omega) hqp.1 hqp.2)) := by unfold tN; rw [dif_pos hqp]
    have eT : ∀ k, tT p q k = (if p < 0 then -(smT (Classical.choose (rst_ex (u := p.natAbs) (by omega) hqp.1 hqp.2)) (fun k => rTm 3 (rst 3 p.natAbs q k).1 (rst 3 p.natAbs q k).2) k) else smT (Classical.choose (rst_ex (u := p.natAbs) (by omega) hqp.1 hqp.2)) (fun k => rTm 3 (rst 3 p.natAbs q k).1 (rst 3 p.natAbs q k).2) k) := fun k => by unfold tT; rw [dif_pos hqp]
    generalize Classical.choose (rst_ex (u := p.natAbs) (by omega) hqp.1 hqp.2) = M at c1 c2 c3 c4 eN eT
    have go : ∀ vs (bl : Int), (bl = 0 ∨ bl = 1) → (bl = 1 ↔ p < 0) → gX12_termsOf_41 E L d vs (iI bl) (jI (p.natAbs : Int)) (jI q) (sm_wI m 109 36 (iI 0)) Q := by
      intro vs bl hb hb2
      refine c12_termsOf_loop (M := M) (u := (p.natAbs : Int)) (v := q) hly hd (by omega) hp hqp.1 hqp.2 c1 c2 c3 c4 hb m (fun m' f' w1 w2 => h m' f' (by rw [eN]; exact w1) (fun k hk => ?_)) (M - 1) 0 _ (by omega) (fr.rf.wI (Or.inl ⟨rfl, rfl⟩)) (wI_eq rfl rfl) (fun j hj => absurd hj (Nat.not_lt_zero _))
      rw [w2 k (by rw [← eN]; exact hk), eT]
      by_cases hp0 : p < 0
      · rw [if_pos hp0, if_pos (hb2.mpr hp0)]
      · rw [if_neg hp0, if_neg (fun q => hp0 (hb2.mp q))]
    refine ⟨fun z => vX12_termsOf_23 hd ?_, fun z => vX12_termsOf_23 hd ?_⟩
    · simp (disch := omega) only [forall_eq, true_and, and_true, false_and, and_false, forall_const, true_implies, implies_true, not_true_eq_false, not_false_eq_true, false_implies, if_true, if_false, ↓reduceIte, Int.toNat_natCast, Int.reduceEq, Int.reduceNe, Int.reduceLT, Int.reduceLE, Int.reduceToNat, Int.reduceAdd, Int.reduceSub, Int.reduceMul, Int.reduceNeg, Nat.reduceAdd, Nat.reduceMul, Nat.reduceSub, iI_lit, jI_lit, iI_add, iI_sub, iI_mul, iI_neg, jI_add, jI_sub, jI_mul, jI_neg, nI_i, lN_j, iI_le, iI_lt, iI_eq, jI_le, jI_lt, jI_eq, iI_in, iI_cl, iI_j, jI_i, cN, inN, wI_eq, wI_ne, wJ_1, wJ_eq, wJ_ne, wI_2, wJ_3, iI_div, iI_rem, jI_div, jI_rem, true_or, or_true, false_or, or_false, eq_self, Nat.add_zero]
      have := go [.ref (sm_B E + 109), .long (jI p), .long (jI q)] 0 (Or.inl rfl) ⟨fun e => by omega, fun e => by omega⟩
      rw [show (p.natAbs : Int) = p by omega] at this
      exact this
    · simp (disch := omega) only [forall_eq, true_and, and_true, false_and, and_false, forall_const, true_implies, implies_true, not_true_eq_false, not_false_eq_true, false_implies, if_true, if_false, ↓reduceIte, Int.toNat_natCast, Int.reduceEq, Int.reduceNe, Int.reduceLT, Int.reduceLE, Int.reduceToNat, Int.reduceAdd, Int.reduceSub, Int.reduceMul, Int.reduceNeg, Nat.reduceAdd, Nat.reduceMul, Nat.reduceSub, iI_lit, jI_lit, iI_add, iI_sub, iI_mul, iI_neg, jI_add, jI_sub, jI_mul, jI_neg, nI_i, lN_j, iI_le, iI_lt, iI_eq, jI_le, jI_lt, jI_eq, iI_in, iI_cl, iI_j, jI_i, cN, inN, wI_eq, wI_ne, wJ_1, wJ_eq, wJ_ne, wI_2, wJ_3, iI_div, iI_rem, jI_div, jI_rem, true_or, or_true, false_or, or_false, eq_self, Nat.add_zero]
      have := go [.ref (sm_B E + 109), .long (jI p), .long (jI q)] 1 (Or.inr rfl) ⟨fun e => by omega, fun e => rfl⟩
      rw [show (p.natAbs : Int) = -p by omega] at this
      exact this
  · have t0 : tN p q = 0 := by unfold tN; rw [dif_neg (by omega)]
    rw [t0] at h
    exact h _ (fr.rf.wI (Or.inl ⟨rfl, rfl⟩)) (wI_eq rfl rfl) (fun k hk => absurd hk (Nat.not_lt_zero _))
theorem floor_exact {u v : Int} (hv : 0 < v) : (u - u % v).tdiv v = u / v := by
  have e := Int.emod_add_mul_ediv u v
  rw [show u - u % v = v * (u / v) by omega, Int.mul_tdiv_cancel_left _ (by omega)]
theorem c12_evenBy {Q : Int64 → sm_M → Prop} {u v : Int} (hd : 2 ≤ d) (hu : (u.natAbs : Int) ≤ 4000000000) (hv : 0 < v) (hv2 : v ≤ 4000000000) (h : Q (jI (2 * ((u + v) / (2 * v)))) m) : sm_callJ E L mX12_evenBy d 0 0 [.long (jI u), .long (jI v)] m Q := by
  rw [even_by u v hv] at h
  have r1 := Int.emod_nonneg u (show v ≠ 0 by omega)
  have r2 := Int.emod_lt_of_pos u hv
  have fe := floor_exact (u := u) hv
  have tb := rTm_bd (how := 0) (u := u) hv
  have tb' : rTm 0 u v = u / v := by unfold rTm; rw [if_neg (by decide), if_neg (by decide)]
  rw [tb'] at tb
  refine vX12_evenBy_0 hd (c12_left (by omega) (by omega) hv (by omega) (by omega) ?_)
  simp (disch := omega) only [forall_eq, true_and, and_true, false_and, and_false, forall_const, true_implies, implies_true, not_true_eq_false, not_false_eq_true, false_implies, if_true, if_false, ↓reduceIte, Int.toNat_natCast, Int.reduceEq, Int.reduceNe, Int.reduceLT, Int.reduceLE, Int.reduceToNat, Int.reduceAdd, Int.reduceSub, Int.reduceMul, Int.reduceNeg, Nat.reduceAdd, Nat.reduceMul, Nat.reduceSub, iI_lit, jI_lit, iI_add, iI_sub, iI_mul, iI_neg, jI_add, jI_sub, jI_mul, jI_neg, nI_i, lN_j, iI_le, iI_lt, iI_eq, jI_le, jI_lt, jI_eq, iI_in, iI_cl, iI_j, jI_i, cN, inN, wI_eq, wI_ne, wJ_1, wJ_eq, wJ_ne, wI_2, wJ_3, iI_div, iI_rem, jI_div, jI_rem, true_or, or_true, false_or, or_false, eq_self, Nat.add_zero, fe]
  have hm : (u / v).tmod 2 = 0 ↔ (u / v) % 2 = 0 := by
    constructor
    · intro e
      exact Int.emod_eq_zero_of_dvd (Int.dvd_of_tmod_eq_zero e)
    · intro e
      exact Int.tmod_eq_zero_of_dvd (Int.dvd_of_emod_eq_zero e)
  have hmb : -2 ≤ (u / v).tmod 2 ∧ (u / v).tmod 2 ≤ 2 := by
    rw [Int.tmod_eq_emod]
    split <;> omega
  simp (disch := omega) only [forall_eq, true_and, and_true, false_and, and_false, forall_const, true_implies, implies_true, not_true_eq_false, not_false_eq_true, false_implies, if_true, if_false, ↓reduceIte, Int.toNat_natCast, Int.reduceEq, Int.reduceNe, Int.reduceLT, Int.reduceLE, Int.reduceToNat, Int.reduceAdd, Int.reduceSub, Int.reduceMul, Int.reduceNeg, Nat.reduceAdd, Nat.reduceMul, Nat.reduceSub, iI_lit, jI_lit, iI_add, iI_sub, iI_mul, iI_neg, jI_add, jI_sub, jI_mul, jI_neg, nI_i, lN_j, iI_le, iI_lt, iI_eq, jI_le, jI_lt, jI_eq, iI_in, iI_cl, iI_j, jI_i, cN, inN, wI_eq, wI_ne, wJ_1, wJ_eq, wJ_ne, wI_2, wJ_3, iI_div, iI_rem, jI_div, jI_rem, true_or, or_true, false_or, or_false, eq_self, Nat.add_zero, hm]
  refine ⟨by omega, fun z => ?_, fun z => ?_⟩
  · rw [if_neg z] at h; exact h
  · rw [if_pos z] at h; exact h
theorem c12_rowBy_loop {Q : sm_M → Prop} {vs : List Value} {how u v : Int} (hly : ∀ S, L S → ly S) (hd : 3 ≤ d) (hw1 : 0 ≤ how) (hw2 : how ≤ 2) (hu : (u.natAbs : Int) ≤ 2000000000) (hv0 : 0 ≤ v) (hv : v ≤ 2000000000) (m0 : sm_M)
    (hK : ∀ (N : Nat) (m' : sm_M), N ≤ 49 → (∀ j, j < N → (rst how u v j).2 ≠ 0) → (N = 49 ∨ (rst how u v N).2 = 0) → fr rbP m0 m' → m'.1 109 67 = iI (N : Nat) → (∀ k, k < N → m'.2.1 148 k = jI (rTm how (rst how u v k).1 (rst how u v k).2)) → Q m') :
    ∀ (r k : Nat) (m : sm_M), k + r = 49 → (∀ j, j < k → (rst how u v j).2 ≠ 0) → fr rbP m0 m → m.1 109 67 = iI (k : Nat) → (∀ j, j < k → m.2.1 148 j = jI (rTm how (rst how u v j).1 (rst how u v j).2)) → gX12_rowBy_11 E L d vs (iI how) (jI (rst how u v k).1) (jI (rst how u v k).2) m Q := by
  intro r
  induction r with
  | zero =>
    intro k m hk hn hf h1 h2
    have : k = 49 := by omega
    subst this
    obtain ⟨b1, b2, b3⟩ := rst_bd hu hv0 hv 49 hn
    have h9 := hK 49 m (by omega) hn (Or.inl rfl) hf h1 h2
    refine vX12_rowBy_11 hly hd ?_
    rw [h1]
    simp (disch := omega) only [forall_eq, true_and, and_true, false_and, and_false, forall_const, true_implies, implies_true, not_true_eq_false, not_false_eq_true, false_implies, if_true, if_false, ↓reduceIte, Int.toNat_natCast, Int.reduceEq, Int.reduceNe, Int.reduceLT, Int.reduceLE, Int.reduceToNat, Int.reduceAdd, Int.reduceSub, Int.reduceMul, Int.reduceNeg, Nat.reduceAdd, Nat.reduceMul, Nat.reduceSub, iI_lit, jI_lit, iI_add, iI_sub, iI_mul, iI_neg, jI_add, jI_sub, jI_mul, jI_neg, nI_i, lN_j, iI_le, iI_lt, iI_eq, jI_le, jI_lt, jI_eq, iI_in, iI_cl, iI_j, jI_i, cN, inN, wI_eq, wI_ne, wJ_1, wJ_eq, wJ_ne, wI_2, wJ_3, iI_div, iI_rem, jI_div, jI_rem, true_or, or_true, false_or, or_false, eq_self, Nat.add_zero]
    exact ⟨fun _ => h9, fun _ => ⟨fun _ => h9, fun z => by omega⟩⟩
  | succ r ih =>
    intro k m hk hn hf h1 h2
    obtain ⟨b1, b2, b3⟩ := rst_bd hu hv0 hv k hn
    by_cases hz : (rst how u v k).2 = 0
    · have h9 := hK k m (by omega) hn (Or.inr hz) hf h1 h2
      refine vX12_rowBy_11 hly hd ?_
      rw [h1]
      simp (disch := omega) only [forall_eq, true_and, and_true, false_and, and_false, forall_const, true_implies, implies_true, not_true_eq_false, not_false_eq_true, false_implies, if_true, if_false, ↓reduceIte, Int.toNat_natCast, Int.reduceEq, Int.reduceNe, Int.reduceLT, Int.reduceLE, Int.reduceToNat, Int.reduceAdd, Int.reduceSub, Int.reduceMul, Int.reduceNeg, Nat.reduceAdd, Nat.reduceMul, Nat.reduceSub, iI_lit, jI_lit, iI_add, iI_sub, iI_mul, iI_neg, jI_add, jI_sub, jI_mul, jI_neg, nI_i, lN_j, iI_le, iI_lt, iI_eq, jI_le, jI_lt, jI_eq, iI_in, iI_cl, iI_j, jI_i, cN, inN, wI_eq, wI_ne, wJ_1, wJ_eq, wJ_ne, wI_2, wJ_3, iI_div, iI_rem, jI_div, jI_rem, true_or, or_true, false_or, or_false, eq_self, Nat.add_zero]
      exact ⟨fun _ => h9, fun z => absurd hz z⟩
    · have ihk := ih (k + 1)
      have hvp : 0 < (rst how u v k).2 := by omega
      have rb := rRs_bd (how := how) (u := (rst how u v k).1) hvp
      have tb := rTm_bd (how := how) (u := (rst how u v k).1) hvp
      have tmb := rTm_mul (how := how) (u := (rst how u v k).1) hvp
      have e5 : ((k : Nat) : Int) + 1 = ((k + 1 : Nat) : Int) := by omega
      have r1 := Int.emod_nonneg (rst how u v k).1 (show (rst how u v k).2 ≠ 0 by omega)
      have r2 := Int.emod_lt_of_pos (rst how u v k).1 hvp
      have fe := floor_exact (u := (rst how u v k).1) hvp
      have g88 : ∀ s : Int, s = rTm how (rst how u v k).1 (rst how u v k).2 → gX12_rowBy_88 E L d vs (iI how) (jI (rst how u v k).1) (jI (rst how u v k).2) (jI s) m Q := by
        intro s hs
        have f2 : fr rbP m0 (sm_wI (sm_wJ m 148 k (jI s)) 109 67 (iI ((k + 1 : Nat) : Int))) := (hf.wJ (Or.inr rfl)).wI (Or.inl ⟨rfl, rfl⟩)
        have nz : ∀ j, j < k + 1 → (rst how u v j).2 ≠ 0 := fun j hj => by
          by_cases hjk : j = k
          · subst hjk
            exact hz
          · exact hn j (by omega)
        have ihk := ihk _ (by omega) nz f2 (wI_eq rfl rfl) (fun j hj => by
          show (sm_wJ m 148 k _).2.1 148 j = _
          by_cases hjk : j = k
          · subst hjk
            rw [wJ_eq rfl rfl, hs]
          · rw [wJ_ne (by omega)]
            exact h2 j (by omega))
        have g153 : ∀ (x y : Int), x = rRs how (rst how u v k).1 (rst how u v k).2 → y = (if x < 0 then -(rst how u v k).2 else (rst how u v k).2) → gX12_rowBy_153 E L d vs (iI how) (jI x) (jI y) (sm_wI (sm_wJ m 148 k (jI s)) 109 67 (iI ((k + 1 : Nat) : Int))) Q := by
          intro x y hx hy
          rw [rst, ← hx, ← hy] at ihk
          refine vX12_rowBy_153 hd ?_
          simp (disch := omega) only [forall_eq, true_and, and_true, false_and, and_false, forall_const, true_implies, implies_true, not_true_eq_false, not_false_eq_true, false_implies, if_true, if_false, ↓reduceIte, Int.toNat_natCast, Int.reduceEq, Int.reduceNe, Int.reduceLT, Int.reduceLE, Int.reduceToNat, Int.reduceAdd, Int.reduceSub, Int.reduceMul, Int.reduceNeg, Nat.reduceAdd, Nat.reduceMul, Nat.reduceSub, iI_lit, jI_lit, iI_add, iI_sub, iI_mul, iI_neg, jI_add, jI_sub, jI_mul, jI_neg, nI_i, lN_j, iI_le, iI_lt, iI_eq, jI_le, jI_lt, jI_eq, iI_in, iI_cl, iI_j, jI_i, cN, inN, wI_eq, wI_ne, wJ_1, wJ_eq, wJ_ne, wI_2, wJ_3, iI_div, iI_rem, jI_div, jI_rem, true_or, or_true, false_or, or_false, eq_self, Nat.add_zero]
          refine ⟨fun z => ?_, fun z => ?_⟩
          · rw [show (x.natAbs : Int) = x by omega] at ihk; exact ihk
          · rw [show (x.natAbs : Int) = -x by omega] at ihk; exact ihk
        refine vX12_rowBy_88 hly hd ?_
        rw [← hs] at tb tmb
        have ru : rRs how (rst how u v k).1 (rst how u v k).2 = if how = 1 then s * (rst how u v k).2 - (rst how u v k).1 else (rst how u v k).1 - s * (rst how u v k).2 := by
          unfold rRs
          rw [hs]
        simp (disch := omega) only [forall_eq, true_and, and_true, false_and, and_false, forall_const, true_implies, implies_true, not_true_eq_false, not_false_eq_true, false_implies, if_true, if_false, ↓reduceIte, Int.toNat_natCast, Int.reduceEq, Int.reduceNe, Int.reduceLT, Int.reduceLE, Int.reduceToNat, Int.reduceAdd, Int.reduceSub, Int.reduceMul, Int.reduceNeg, Nat.reduceAdd, Nat.reduceMul, Nat.reduceSub, iI_lit, jI_lit, iI_add, iI_sub, iI_mul, iI_neg, jI_add, jI_sub, jI_mul, jI_neg, nI_i, lN_j, iI_le, iI_lt, iI_eq, jI_le, jI_lt, jI_eq, iI_in, iI_cl, iI_j, jI_i, cN, inN, wI_eq, wI_ne, wJ_1, wJ_eq, wJ_ne, wI_2, wJ_3, iI_div, iI_rem, jI_div, jI_rem, true_or, or_true, false_or, or_false, eq_self, Nat.add_zero, h1, e5]
        refine ⟨by omega, fun z => ⟨fun z2 => g153 _ _ ?_ ?_, fun z2 => g153 _ _ ?_ ?_⟩, fun z => ⟨fun z2 => g153 _ _ ?_ ?_, fun z2 => g153 _ _ ?_ ?_⟩⟩
        · rw [ru, if_neg z]
        · rw [if_neg (by omega)]
        · rw [ru, if_neg z]
        · rw [if_pos (by omega)]
        · rw [ru, if_pos z]
        · rw [if_neg (by omega)]
        · rw [ru, if_pos z]
        · rw [if_pos (by omega)]
      refine vX12_rowBy_11 hly hd ?_
      rw [h1]
      simp (disch := omega) only [forall_eq, true_and, and_true, false_and, and_false, forall_const, true_implies, implies_true, not_true_eq_false, not_false_eq_true, false_implies, if_true, if_false, ↓reduceIte, Int.toNat_natCast, Int.reduceEq, Int.reduceNe, Int.reduceLT, Int.reduceLE, Int.reduceToNat, Int.reduceAdd, Int.reduceSub, Int.reduceMul, Int.reduceNeg, Nat.reduceAdd, Nat.reduceMul, Nat.reduceSub, iI_lit, jI_lit, iI_add, iI_sub, iI_mul, iI_neg, jI_add, jI_sub, jI_mul, jI_neg, nI_i, lN_j, iI_le, iI_lt, iI_eq, jI_le, jI_lt, jI_eq, iI_in, iI_cl, iI_j, jI_i, cN, inN, wI_eq, wI_ne, wJ_1, wJ_eq, wJ_ne, wI_2, wJ_3, iI_div, iI_rem, jI_div, jI_rem, true_or, or_true, false_or, or_false, eq_self, Nat.add_zero]
      refine ⟨fun z => absurd z hz, fun _ => ⟨fun z => by omega, fun _ => c12_left (by omega) (by omega) hvp (by omega) (by omega) ?_⟩⟩
      simp (disch := omega) only [forall_eq, true_and, and_true, false_and, and_false, forall_const, true_implies, implies_true, not_true_eq_false, not_false_eq_true, false_implies, if_true, if_false, ↓reduceIte, Int.toNat_natCast, Int.reduceEq, Int.reduceNe, Int.reduceLT, Int.reduceLE, Int.reduceToNat, Int.reduceAdd, Int.reduceSub, Int.reduceMul, Int.reduceNeg, Nat.reduceAdd, Nat.reduceMul, Nat.reduceSub, iI_lit, jI_lit, iI_add, iI_sub, iI_mul, iI_neg, jI_add, jI_sub, jI_mul, jI_neg, nI_i, lN_j, iI_le, iI_lt, iI_eq, jI_le, jI_lt, jI_eq, iI_in, iI_cl, iI_j, jI_i, cN, inN, wI_eq, wI_ne, wJ_1, wJ_eq, wJ_ne, wI_2, wJ_3, iI_div, iI_rem, jI_div, jI_rem, true_or, or_true, false_or, or_false, eq_self, Nat.add_zero, fe]
      refine ⟨hz, fun z => ⟨fun z2 => c12_evenBy (by omega) (by omega) hvp (by omega) (g88 _ ?_), fun z2 => c12_left (by omega) (by omega) hvp (by omega) (by omega) ?_⟩, fun z => g88 _ ?_⟩
      · unfold rTm
        rw [if_neg z2, if_pos (by omega)]
      · simp (disch := omega) only [forall_eq, true_and, and_true, false_and, and_false, forall_const, true_implies, implies_true, not_true_eq_false, not_false_eq_true, false_implies, if_true, if_false, ↓reduceIte, Int.toNat_natCast, Int.reduceEq, Int.reduceNe, Int.reduceLT, Int.reduceLE, Int.reduceToNat, Int.reduceAdd, Int.reduceSub, Int.reduceMul, Int.reduceNeg, Nat.reduceAdd, Nat.reduceMul, Nat.reduceSub, iI_lit, jI_lit, iI_add, iI_sub, iI_mul, iI_neg, jI_add, jI_sub, jI_mul, jI_neg, nI_i, lN_j, iI_le, iI_lt, iI_eq, jI_le, jI_lt, jI_eq, iI_in, iI_cl, iI_j, jI_i, cN, inN, wI_eq, wI_ne, wJ_1, wJ_eq, wJ_ne, wI_2, wJ_3, iI_div, iI_rem, jI_div, jI_rem, true_or, or_true, false_or, or_false, eq_self, Nat.add_zero]
        have cb := ceil_by (rst how u v k).1 (rst how u v k).2 hvp
        refine ⟨fun z3 => g88 _ ?_, fun z3 => g88 _ ?_⟩
        · unfold rTm
          rw [if_pos z2, cb, if_neg z3]
        · unfold rTm
          rw [if_pos z2, cb, if_pos z3]
      · unfold rTm
        rw [if_neg (by omega), if_neg (by omega)]
theorem c12_rowBy {Q : sm_M → Prop} {how p q : Int} (hly : ∀ S, L S → ly S) (hd : 3 ≤ d) (hw1 : 0 ≤ how) (hw2 : how ≤ 2) (hp : (p.natAbs : Int) ≤ 2000000000) (hq0 : 0 ≤ q) (hq : q ≤ 2000000000)
    (h : ∀ (N : Nat) (m' : sm_M), N ≤ 49 → (∀ j, j < N → (rst how p q j).2 ≠ 0) → (N = 49 ∨ (rst how p q N).2 = 0) → fr rbP m m' → m'.1 109 67 = iI (N : Nat) → (∀ k, k < N → m'.2.1 148 k = jI (rTm how (rst how p q k).1 (rst how p q k).2)) → Q m') : sm_callV E L mX12_rowBy d 0 0 [.ref (sm_B E + 109), .long (jI p), .long (jI q), .int (iI how)] m Q := by
  refine vX12_rowBy_0 hly hd ?_
  simp (disch := omega) only [forall_eq, true_and, and_true, false_and, and_false, forall_const, true_implies, implies_true, not_true_eq_false, not_false_eq_true, false_implies, if_true, if_false, ↓reduceIte, Int.toNat_natCast, Int.reduceEq, Int.reduceNe, Int.reduceLT, Int.reduceLE, Int.reduceToNat, Int.reduceAdd, Int.reduceSub, Int.reduceMul, Int.reduceNeg, Nat.reduceAdd, Nat.reduceMul, Nat.reduceSub, iI_lit, jI_lit, iI_add, iI_sub, iI_mul, iI_neg, jI_add, jI_sub, jI_mul, jI_neg, nI_i, lN_j, iI_le, iI_lt, iI_eq, jI_le, jI_lt, jI_eq, iI_in, iI_cl, iI_j, jI_i, cN, inN, wI_eq, wI_ne, wJ_1, wJ_eq, wJ_ne, wI_2, wJ_3, iI_div, iI_rem, jI_div, jI_rem, true_or, or_true, false_or, or_false, eq_self, Nat.add_zero]
  exact c12_rowBy_loop (how := how) (u := p) (v := q) hly hd hw1 hw2 hp hq0 hq m h 49 0 _ (by omega) (fun j hj => absurd hj (Nat.not_lt_zero _)) (fr.rf.wI (Or.inl ⟨rfl, rfl⟩)) (wI_eq rfl rfl) (fun j hj => absurd hj (Nat.not_lt_zero _))
end RW2
