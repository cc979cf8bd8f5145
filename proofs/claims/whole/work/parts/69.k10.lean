/-! dance: the call -/
theorem dst_bd {p q B : Int} (hp : -B ≤ p ∧ p ≤ B) (hq : 0 ≤ q ∧ q ≤ B) : ∀ k, -B ≤ (dst p q k).1 ∧ (dst p q k).1 ≤ B ∧ 0 ≤ (dst p q k).2 ∧ (dst p q k).2 ≤ B := by
  intro k
  induction k with
  | zero => exact ⟨hp.1, hp.2, hq.1, hq.2⟩
  | succ k ih =>
    rw [dst, dS]
    split
    · show -B ≤ (dst p q k).1 + (dst p q k).2 ∧ (dst p q k).1 + (dst p q k).2 ≤ B ∧ 0 ≤ (dst p q k).2 ∧ (dst p q k).2 ≤ B
      omega
    · show -B ≤ -(dst p q k).2 ∧ -(dst p q k).2 ≤ B ∧ 0 ≤ (dst p q k).1 ∧ (dst p q k).1 ≤ B
      omega
/-- the first steps: twists of one below 0 -/
theorem dst_first {p q : Int} {n : Nat} (hq : 0 < q) (hp : p < 0) (hn : (n : Int) = (q - 1 - p) / q) : dst p q n = (p + n * q, q) ∧ 0 ≤ p + n * q ∧ p + n * q < q ∧ (∀ x, x < n → (dst p q x).1 < 0) := by
  have e := Int.emod_add_mul_ediv (q - 1 - p) q
  have r1 := Int.emod_nonneg (q - 1 - p) (show q ≠ 0 by omega)
  have r2 := Int.emod_lt_of_pos (q - 1 - p) hq
  rw [← hn, Int.mul_comm] at e
  have neg : ∀ r : Nat, r < n → p + r * q < 0 := fun r hr => by
    have : ((r : Int) + 1) * q ≤ n * q := Int.mul_le_mul_of_nonneg_right (by omega) (by omega)
    rw [Int.add_mul, Int.one_mul] at this
    omega
  have h0 : dst p q 0 = (p, q) := rfl
  refine ⟨?_, by omega, by omega, fun x hx => ?_⟩
  · have := dst_tw h0 n neg
    rw [Nat.zero_add] at this
    exact this
  · have := dst_tw h0 x (fun r hr => neg r (by omega))
    rw [Nat.zero_add] at this
    rw [this]
    exact neg x hx
theorem ceil_nat {a b : Int} (ha : 0 ≤ a) (hb : 0 < b) : ∃ n : Nat, (n : Int) = a / b := ⟨(a / b).toNat, by
  have := Int.ediv_nonneg ha (show 0 ≤ b by omega)
  omega⟩
theorem dIs_ex {p q : Int} (hp : -16777216 ≤ p ∧ p ≤ 16777216) (hq : 0 ≤ q ∧ q ≤ 16777216) (h0 : q = 0 → p = 1) : ∃ D, dIs p q D := by
  by_cases hqz : q = 0
  · have hp1 := h0 hqz
    subst hqz
    subst hp1
    exact ⟨1, by omega, rfl, fun x hx => by
      have : x = 0 := by omega
      subst this
      decide⟩
  · have hq0 : 0 < q := by omega
    by_cases hpn : p < 0
    · obtain ⟨n, hn⟩ := ceil_nat (show 0 ≤ q - 1 - p by omega) hq0
      obtain ⟨a1, a2, a3, a4⟩ := dst_first hq0 hpn hn
      obtain ⟨D, d1, d2, d3, d4⟩ := dst_end (p + n * q).toNat _ _ n (Nat.le_refl _) a2 a3 a1
      have hnb : (n : Int) ≤ 33554432 := by
        have : (n : Int) * 1 ≤ n * q := Int.mul_le_mul_of_nonneg_left (by omega) (by omega)
        omega
      refine ⟨D, by omega, d3, fun x hx => ?_⟩
      rcases Nat.lt_or_ge x n with h | h
      · have := a4 x h
        omega
      · exact d4 x h hx
    · have h00 : dst p q 0 = (p, q) := rfl
      by_cases hlt : p < q
      · obtain ⟨D, d1, d2, d3, d4⟩ := dst_end p.toNat _ _ 0 (Nat.le_refl _) (by omega) hlt h00
        exact ⟨D, by omega, d3, fun x hx => d4 x (by omega) hx⟩
      · obtain ⟨b1, b2⟩ := dst_blk (T := 1) h00 (by omega) (by omega) (by omega)
        rw [Nat.zero_add] at b1
        obtain ⟨D, d1, d2, d3, d4⟩ := dst_end _ _ _ (1 + 1) (Nat.le_refl _) (by omega) (by omega) b1
        refine ⟨D, by omega, d3, fun x hx => ?_⟩
        rcases Nat.lt_or_ge x 2 with h | h
        · have := (b2 x h).1
          rw [Nat.zero_add] at this
          exact this
        · exact d4 x h hx
section K10
variable {E : sm_E} {L : sm_S → Prop} {d d1 d2 : Nat} {m : sm_M} {c : Nat}
theorem c_dance_end {Q : Int32 → sm_M → Prop} {vs : List Value} {p q v i : Int} {k D rd : Nat} (hd : 1 ≤ d) (hD : dIs p q D) (h : dst p q k = (0, v)) (hk : ∀ x, x < k → (dst p q x).1 ≠ 0) (hrd : rd < 1000) (i1 : -1 ≤ i) (i2 : i ≤ 2147483647) (hik : i = -1 ∨ (k : Int) ≤ i) (e1 : i = -1 → Q (iI (D : Nat)) m) (e0 : (D : Int) ≤ i → Q (iI (-1)) m) : gX3_danced_63 E L d vs (iI i) (iI (k : Nat)) (iI 0) (iI v) (iI (rd : Nat)) m Q := by
  have hDk : D = k := by
    have h1 := dIs_lt hD hk
    rcases Nat.lt_or_ge k D with h2 | h2
    · exact absurd (by rw [h]) (hD.2.2 k h2)
    · omega
  subst hDk
  refine vX3_danced_63 hd ?_
  simp (disch := omega) only [forall_eq, true_and, and_true, false_and, and_false, forall_const, true_implies, implies_true, not_true_eq_false, not_false_eq_true, false_implies, if_true, if_false, ↓reduceIte, Int.toNat_natCast, Int.reduceEq, Int.reduceNe, Int.reduceLT, Int.reduceLE, Int.reduceToNat, Int.reduceAdd, Int.reduceSub, Int.reduceMul, Int.reduceNeg, Nat.reduceAdd, Nat.reduceMul, Nat.reduceSub, iI_lit, jI_lit, iI_add, iI_sub, iI_mul, iI_neg, jI_add, jI_sub, jI_mul, jI_neg, nI_i, lN_j, iI_le, iI_lt, iI_eq, jI_le, jI_lt, jI_eq, iI_in, iI_cl, iI_j, jI_i, cN, inN, wI_eq, wI_ne, wJ_1, wJ_eq, wJ_ne, wI_2, wJ_3, iI_div, iI_rem, jI_div, jI_rem, true_or, or_true, false_or, or_false, eq_self, Nat.add_zero]
  refine ⟨fun z => by omega, fun _ => ⟨fun z => e0 (by omega), fun z => e1 z⟩⟩
theorem c_dance_loop {Q : Int32 → sm_M → Prop} {vs : List Value} {p q i : Int} {D : Nat} (hd : 1 ≤ d) (hD : dIs p q D) (i1 : -1 ≤ i) (i2 : i ≤ 2147483647) (hret : ∀ x : Nat, (x : Int) = i → x < D → Q (iI (if (dst p q x).1 < 0 then 0 else 2)) m) (e1 : i = -1 → Q (iI (D : Nat)) m) (e0 : (D : Int) ≤ i → Q (iI (-1)) m) : ∀ (κ : Nat) (u v : Int) (k rd : Nat), 0 ≤ u → u < v → v < 2 ^ κ → v ≤ 16777216 → rd + 2 * κ + 2 ≤ 200 → dst p q k = (u, v) → (∀ x, x < k → (dst p q x).1 ≠ 0) → (i = -1 ∨ (k : Int) ≤ i) → gX3_danced_63 E L d vs (iI i) (iI (k : Nat)) (iI u) (iI v) (iI (rd : Nat)) m Q := by
  intro κ
  induction κ with
  | zero =>
    intro u v k rd hu huv hv _ _ _ _ _
    have : v < 1 := hv
    omega
  | succ κ ih =>
    intro u v k rd hu huv hv hvb hrd h hk hik
    have hpow : (2 : Int) ^ (κ + 1) = 2 * 2 ^ κ := by rw [Int.pow_succ, Int.mul_comm]
    rcases Int.lt_or_eq_of_le hu with hu0 | hu0
    rotate_left
    · subst hu0
      exact c_dance_end hd hD h hk (by omega) i1 i2 hik e1 e0
    obtain ⟨T, hT⟩ := ceil_nat (show 0 ≤ v + u - 1 by omega) hu0
    have e := Int.emod_add_mul_ediv (v + u - 1) u
    have r1 := Int.emod_nonneg (v + u - 1) (show u ≠ 0 by omega)
    have r2 := Int.emod_lt_of_pos (v + u - 1) hu0
    rw [← hT, Int.mul_comm] at e
    refine c_dance_one hd hD h hk hu0 (by omega) (by omega) (by omega) (by omega) i1 i2 hik hT rfl hret (fun u' v' h' hk' hik' hT2 hT3 => ?_)
    by_cases hTT : T = 2
    · obtain ⟨a1, a2, a3, a4⟩ := hT2 hTT
      have hv' : v' ≤ v := by
        have : 0 ≤ ((if T = 2 then (u / (v - u)).toNat else 1 : Nat) : Int) * (v - u) := Int.mul_nonneg (by omega) (by omega)
        omega
      rcases Int.lt_or_eq_of_le a3 with hu' | hu'
      rotate_left
      · rw [← hu'] at h' ⊢
        exact c_dance_end hd hD h' hk' (by omega) i1 i2 hik' e1 e0
      have hvg : 2 * u' < v' := by omega
      obtain ⟨T', hT'⟩ := ceil_nat (show 0 ≤ v' + u' - 1 by omega) hu'
      have e' := Int.emod_add_mul_ediv (v' + u' - 1) u'
      have s1 := Int.emod_nonneg (v' + u' - 1) (show u' ≠ 0 by omega)
      have s2 := Int.emod_lt_of_pos (v' + u' - 1) hu'
      rw [← hT', Int.mul_comm] at e'
      have hT3' : T' ≠ 2 := fun q => by
        rw [q] at e'
        omega
      refine c_dance_one hd hD h' hk' hu' (by omega) (by omega) (by omega) (by omega) i1 i2 hik' hT' rfl hret (fun u'' v'' h'' hk'' hik'' _ hT3 => ?_)
      obtain ⟨b1, b2, b3, b4⟩ := hT3 hT3'
      exact ih u'' v'' _ _ b3 (by omega) (by omega) (by omega) (by omega) h'' hk'' hik''
    · obtain ⟨b1, b2, b3, b4⟩ := hT3 hTT
      have hT3' : 3 ≤ T := by
        rcases Nat.lt_or_ge T 3 with h | h
        · have : (T : Int) * u ≤ 1 * u := Int.mul_le_mul_of_nonneg_right (by omega) (by omega)
          omega
        · exact h
      have h3u : 3 * u ≤ T * u := Int.mul_le_mul_of_nonneg_right (by omega) (by omega)
      exact ih u' v' _ _ b3 (by omega) (by omega) (by omega) (by omega) h' hk' hik'
theorem c_danced {Q : Int32 → sm_M → Prop} {p q i : Int} {D : Nat} (hd : 1 ≤ d) (hp : -16777216 ≤ p ∧ p ≤ 16777216) (hq : 0 ≤ q ∧ q ≤ 16777216) (h0 : q = 0 → p = 1) (hD : dIs p q D) (i1 : -1 ≤ i) (i2 : i ≤ 2147483647) (hret : ∀ x : Nat, (x : Int) = i → x < D → Q (iI (if (dst p q x).1 < 0 then 0 else 2)) m) (e1 : i = -1 → Q (iI (D : Nat)) m) (e0 : (D : Int) ≤ i → Q (iI (-1)) m) : sm_callI E L mX3_danced d 0 0 [.int (iI p), .int (iI q), .int (iI i)] m Q := by
  refine vX3_danced_0 hd ?_
  have lp := c_dance_loop (E := E) (L := L) (vs := [.int (iI p), .int (iI q), .int (iI i)]) hd hD i1 i2 hret e1 e0 25
  have p25 : (2 : Int) ^ 25 = 33554432 := by decide
  rw [p25] at lp
  by_cases hqz : q = 0
  · have hp1 := h0 hqz
    subst hqz
    subst hp1
    have hD1 : D = 1 := by
      have h1 : D ≤ 1 := by
        rcases Nat.lt_or_ge 1 D with h | h
        · exact absurd rfl (hD.2.2 1 h)
        · exact h
      rcases Nat.eq_zero_or_pos D with h | h
      · have := hD.2.1
        rw [h] at this
        exact absurd this (by decide)
      · omega
    subst hD1
    simp (disch := omega) only [forall_eq, true_and, and_true, false_and, and_false, forall_const, true_implies, implies_true, not_true_eq_false, not_false_eq_true, false_implies, if_true, if_false, ↓reduceIte, Int.toNat_natCast, Int.reduceEq, Int.reduceNe, Int.reduceLT, Int.reduceLE, Int.reduceToNat, Int.reduceAdd, Int.reduceSub, Int.reduceMul, Int.reduceNeg, Nat.reduceAdd, Nat.reduceMul, Nat.reduceSub, iI_lit, jI_lit, iI_add, iI_sub, iI_mul, iI_neg, jI_add, jI_sub, jI_mul, jI_neg, nI_i, lN_j, iI_le, iI_lt, iI_eq, jI_le, jI_lt, jI_eq, iI_in, iI_cl, iI_j, jI_i, cN, inN, wI_eq, wI_ne, wJ_1, wJ_eq, wJ_ne, wI_2, wJ_3, iI_div, iI_rem, jI_div, jI_rem, true_or, or_true, false_or, or_false, eq_self, Nat.add_zero]
    refine ⟨fun z => ⟨fun z2 => e0 (by omega), fun z2 => ?_⟩, fun z => e1 z⟩
    have := hret 0 (by omega) (by omega)
    rw [if_neg (by decide)] at this
    exact this
  · have h00 : dst p q 0 = (p, q) := rfl
    have g50 : 0 ≤ p → gX3_danced_50 E L d [.int (iI p), .int (iI q), .int (iI i)] (iI p) (iI q) (iI i) (iI 0) m Q := by
      intro hp0
      refine vX3_danced_50 hd ?_
      simp (disch := omega) only [forall_eq, true_and, and_true, false_and, and_false, forall_const, true_implies, implies_true, not_true_eq_false, not_false_eq_true, false_implies, if_true, if_false, ↓reduceIte, Int.toNat_natCast, Int.reduceEq, Int.reduceNe, Int.reduceLT, Int.reduceLE, Int.reduceToNat, Int.reduceAdd, Int.reduceSub, Int.reduceMul, Int.reduceNeg, Nat.reduceAdd, Nat.reduceMul, Nat.reduceSub, iI_lit, jI_lit, iI_add, iI_sub, iI_mul, iI_neg, jI_add, jI_sub, jI_mul, jI_neg, nI_i, lN_j, iI_le, iI_lt, iI_eq, jI_le, jI_lt, jI_eq, iI_in, iI_cl, iI_j, jI_i, cN, inN, wI_eq, wI_ne, wJ_1, wJ_eq, wJ_ne, wI_2, wJ_3, iI_div, iI_rem, jI_div, jI_rem, true_or, or_true, false_or, or_false, eq_self, Nat.add_zero, Int.zero_mul, Int.add_zero]
      have hi0 : i = -1 ∨ ((0 : Nat) : Int) ≤ i := by omega
      by_cases hlt : p < q
      · exact lp p q 0 0 hp0 hlt (by omega) (by omega) (by omega) h00 (fun x hx => absurd hx (Nat.not_lt_zero _)) hi0
      · have hT : ((1 : Nat) : Int) = (q + p - 1) / p := by
          rw [show q + p - 1 = (q - 1) + 1 * p by omega, Int.add_mul_ediv_right _ _ (by omega), Int.ediv_eq_zero_of_lt (by omega) (by omega)]
          rfl
        refine c_dance_one (k := 0) (rd := 0) hd hD h00 (fun x hx => absurd hx (Nat.not_lt_zero _)) (by omega) (by omega) (by omega) (by omega) (by omega) i1 i2 hi0 hT rfl hret (fun u' v' h' hk' hik' _ hT3 => ?_)
        obtain ⟨b1, b2, b3, b4⟩ := hT3 (by decide)
        exact lp u' v' _ _ b3 (by omega) (by omega) (by omega) (by omega) h' hk' hik'
    refine ⟨fun _ => ⟨fun z => ?_, fun z => ?_⟩, fun z => ?_⟩
    · simp (disch := omega) only [forall_eq, true_and, and_true, false_and, and_false, forall_const, true_implies, implies_true, not_true_eq_false, not_false_eq_true, false_implies, if_true, if_false, ↓reduceIte, Int.toNat_natCast, Int.reduceEq, Int.reduceNe, Int.reduceLT, Int.reduceLE, Int.reduceToNat, Int.reduceAdd, Int.reduceSub, Int.reduceMul, Int.reduceNeg, Nat.reduceAdd, Nat.reduceMul, Nat.reduceSub, iI_lit, jI_lit, iI_add, iI_sub, iI_mul, iI_neg, jI_add, jI_sub, jI_mul, jI_neg, nI_i, lN_j, iI_le, iI_lt, iI_eq, jI_le, jI_lt, jI_eq, iI_in, iI_cl, iI_j, jI_i, cN, inN, wI_eq, wI_ne, wJ_1, wJ_eq, wJ_ne, wI_2, wJ_3, iI_div, iI_rem, jI_div, jI_rem, true_or, or_true, false_or, or_false, eq_self, Nat.add_zero] at z
      simp (disch := omega) only [forall_eq, true_and, and_true, false_and, and_false, forall_const, true_implies, implies_true, not_true_eq_false, not_false_eq_true, false_implies, if_true, if_false, ↓reduceIte, Int.toNat_natCast, Int.reduceEq, Int.reduceNe, Int.reduceLT, Int.reduceLE, Int.reduceToNat, Int.reduceAdd, Int.reduceSub, Int.reduceMul, Int.reduceNeg, Nat.reduceAdd, Nat.reduceMul, Nat.reduceSub, iI_lit, jI_lit, iI_add, iI_sub, iI_mul, iI_neg, jI_add, jI_sub, jI_mul, jI_neg, nI_i, lN_j, iI_le, iI_lt, iI_eq, jI_le, jI_lt, jI_eq, iI_in, iI_cl, iI_j, jI_i, cN, inN, wI_eq, wI_ne, wJ_1, wJ_eq, wJ_ne, wI_2, wJ_3, iI_div, iI_rem, jI_div, jI_rem, true_or, or_true, false_or, or_false, eq_self, Nat.add_zero]
      exact ⟨fun _ => g50 z, fun _ => ⟨fun _ => g50 z, fun z3 => by omega⟩⟩
    · simp (disch := omega) only [forall_eq, true_and, and_true, false_and, and_false, forall_const, true_implies, implies_true, not_true_eq_false, not_false_eq_true, false_implies, if_true, if_false, ↓reduceIte, Int.toNat_natCast, Int.reduceEq, Int.reduceNe, Int.reduceLT, Int.reduceLE, Int.reduceToNat, Int.reduceAdd, Int.reduceSub, Int.reduceMul, Int.reduceNeg, Nat.reduceAdd, Nat.reduceMul, Nat.reduceSub, iI_lit, jI_lit, iI_add, iI_sub, iI_mul, iI_neg, jI_add, jI_sub, jI_mul, jI_neg, nI_i, lN_j, iI_le, iI_lt, iI_eq, jI_le, jI_lt, jI_eq, iI_in, iI_cl, iI_j, jI_i, cN, inN, wI_eq, wI_ne, wJ_1, wJ_eq, wJ_ne, wI_2, wJ_3, iI_div, iI_rem, jI_div, jI_rem, true_or, or_true, false_or, or_false, eq_self, Nat.add_zero] at z
      obtain ⟨n, hn⟩ := ceil_nat (show 0 ≤ q - 1 - p by omega) (show 0 < q by omega)
      obtain ⟨a1, a2, a3, a4⟩ := dst_first (show 0 < q by omega) (by omega) hn
      have hnb : (n : Int) ≤ 33554432 := by
        have : (n : Int) * 1 ≤ n * q := Int.mul_le_mul_of_nonneg_left (by omega) (by omega)
        omega
      have hnD : n ≤ D := dIs_lt hD (fun x hx => by have := a4 x hx; omega)
      have hdv : (q - 1 - p).tdiv q = (n : Int) := by rw [Int.tdiv_eq_ediv_of_nonneg (by omega), hn]
      have g50' : (i = -1 ∨ (n : Int) ≤ i) → gX3_danced_50 E L d [.int (iI p), .int (iI q), .int (iI i)] (iI p) (iI q) (iI i) (iI (n : Nat)) m Q := by
        intro hi
        refine vX3_danced_50 hd ?_
        simp (disch := omega) only [forall_eq, true_and, and_true, false_and, and_false, forall_const, true_implies, implies_true, not_true_eq_false, not_false_eq_true, false_implies, if_true, if_false, ↓reduceIte, Int.toNat_natCast, Int.reduceEq, Int.reduceNe, Int.reduceLT, Int.reduceLE, Int.reduceToNat, Int.reduceAdd, Int.reduceSub, Int.reduceMul, Int.reduceNeg, Nat.reduceAdd, Nat.reduceMul, Nat.reduceSub, iI_lit, jI_lit, iI_add, iI_sub, iI_mul, iI_neg, jI_add, jI_sub, jI_mul, jI_neg, nI_i, lN_j, iI_le, iI_lt, iI_eq, jI_le, jI_lt, jI_eq, iI_in, iI_cl, iI_j, jI_i, cN, inN, wI_eq, wI_ne, wJ_1, wJ_eq, wJ_ne, wI_2, wJ_3, iI_div, iI_rem, jI_div, jI_rem, true_or, or_true, false_or, or_false, eq_self, Nat.add_zero]
        exact lp _ q n 0 a2 a3 (by omega) (by omega) (by omega) a1 (fun x hx => by have := a4 x hx; omega) hi
      simp (disch := omega) only [forall_eq, true_and, and_true, false_and, and_false, forall_const, true_implies, implies_true, not_true_eq_false, not_false_eq_true, false_implies, if_true, if_false, ↓reduceIte, Int.toNat_natCast, Int.reduceEq, Int.reduceNe, Int.reduceLT, Int.reduceLE, Int.reduceToNat, Int.reduceAdd, Int.reduceSub, Int.reduceMul, Int.reduceNeg, Nat.reduceAdd, Nat.reduceMul, Nat.reduceSub, iI_lit, jI_lit, iI_add, iI_sub, iI_mul, iI_neg, jI_add, jI_sub, jI_mul, jI_neg, nI_i, lN_j, iI_le, iI_lt, iI_eq, jI_le, jI_lt, jI_eq, iI_in, iI_cl, iI_j, jI_i, cN, inN, wI_eq, wI_ne, wJ_1, wJ_eq, wJ_ne, wI_2, wJ_3, iI_div, iI_rem, jI_div, jI_rem, true_or, or_true, false_or, or_false, eq_self, Nat.add_zero, hdv]
      refine ⟨hqz, fun z2 => g50' (by omega), fun z2 => ⟨fun z3 => g50' (Or.inr z3), fun z3 => ?_⟩⟩
      have := hret i.toNat (by omega) (by omega)
      rw [if_pos (a4 _ (by omega))] at this
      exact this
    · simp (disch := omega) only [forall_eq, true_and, and_true, false_and, and_false, forall_const, true_implies, implies_true, not_true_eq_false, not_false_eq_true, false_implies, if_true, if_false, ↓reduceIte, Int.toNat_natCast, Int.reduceEq, Int.reduceNe, Int.reduceLT, Int.reduceLE, Int.reduceToNat, Int.reduceAdd, Int.reduceSub, Int.reduceMul, Int.reduceNeg, Nat.reduceAdd, Nat.reduceMul, Nat.reduceSub, iI_lit, jI_lit, iI_add, iI_sub, iI_mul, iI_neg, jI_add, jI_sub, jI_mul, jI_neg, nI_i, lN_j, iI_le, iI_lt, iI_eq, jI_le, jI_lt, jI_eq, iI_in, iI_cl, iI_j, jI_i, cN, inN, wI_eq, wI_ne, wJ_1, wJ_eq, wJ_ne, wI_2, wJ_3, iI_div, iI_rem, jI_div, jI_rem, true_or, or_true, false_or, or_false, eq_self, Nat.add_zero] at z
      exact absurd z hqz
theorem c12_dance_loop {Q : Int32 → sm_M → Prop} {vs : List Value} {p q i : Int} {D : Nat} (hly : ∀ S, L S → ly S) (hd : 5 ≤ d2) (hp : -16777216 ≤ p ∧ p ≤ 16777216) (hq : 0 ≤ q ∧ q ≤ 16777216) (hD : dIs p q D) (i1 : -1 ≤ i) (i2 : i ≤ 2147483647) (hret : ∀ x : Nat, (x : Int) = i → x < D → Q (iI (if (dst p q x).1 < 0 then 0 else 2)) m) (e1 : i = -1 → Q (iI (D : Nat)) m) (e0 : (D : Int) ≤ i → Q (iI (-1000000000 - (2 : Nat))) (sm_wI m 110 2 (m.1 110 2 + 1))) : ∀ (r k : Nat), k + r = D → (i = -1 ∨ (k : Int) ≤ i) → gX12_dance_46 E L d2 vs (iI i) (jI (dst p q k).1) (jI (dst p q k).2) (iI (k : Nat)) m Q := by
  have hDb := hD.1
  intro r
  induction r with
  | zero =>
    intro k hk hik
    have : k = D := by omega
    subst this
    have h0 := hD.2.1
    refine vX12_dance_46 hly hd ?_
    rw [h0]
    simp (disch := omega) only [forall_eq, true_and, and_true, false_and, and_false, forall_const, true_implies, implies_true, not_true_eq_false, not_false_eq_true, false_implies, if_true, if_false, ↓reduceIte, Int.toNat_natCast, Int.reduceEq, Int.reduceNe, Int.reduceLT, Int.reduceLE, Int.reduceToNat, Int.reduceAdd, Int.reduceSub, Int.reduceMul, Int.reduceNeg, Nat.reduceAdd, Nat.reduceMul, Nat.reduceSub, iI_lit, jI_lit, iI_add, iI_sub, iI_mul, iI_neg, jI_add, jI_sub, jI_mul, jI_neg, nI_i, lN_j, iI_le, iI_lt, iI_eq, jI_le, jI_lt, jI_eq, iI_in, iI_cl, iI_j, jI_i, cN, inN, wI_eq, wI_ne, wJ_1, wJ_eq, wJ_ne, wI_2, wJ_3, iI_div, iI_rem, jI_div, jI_rem, true_or, or_true, false_or, or_false, eq_self, Nat.add_zero]
    exact ⟨fun z => c12_finds (e := 2) hly (by decide) (by omega) (e0 (by omega)), fun z => e1 (by omega)⟩
  | succ r ih =>
    intro k hk hik
    obtain ⟨b1, b2, b3, b4⟩ := dst_bd hp hq k
    have hnz := hD.2.2 k (by omega)
    have e5 : ((k : Nat) : Int) + 1 = ((k + 1 : Nat) : Int) := by omega
    have nx : i ≠ (k : Int) → gX12_dance_46 E L d2 vs (iI i) (jI (dst p q (k + 1)).1) (jI (dst p q (k + 1)).2) (iI ((k + 1 : Nat) : Int)) m Q := fun hne => ih (k + 1) (by omega) (by omega)
    rw [dst, dS] at nx
    have hr := hret k
    refine vX12_dance_46 hly hd ?_
    simp (disch := omega) only [forall_eq, true_and, and_true, false_and, and_false, forall_const, true_implies, implies_true, not_true_eq_false, not_false_eq_true, false_implies, if_true, if_false, ↓reduceIte, Int.toNat_natCast, Int.reduceEq, Int.reduceNe, Int.reduceLT, Int.reduceLE, Int.reduceToNat, Int.reduceAdd, Int.reduceSub, Int.reduceMul, Int.reduceNeg, Nat.reduceAdd, Nat.reduceMul, Nat.reduceSub, iI_lit, jI_lit, iI_add, iI_sub, iI_mul, iI_neg, jI_add, jI_sub, jI_mul, jI_neg, nI_i, lN_j, iI_le, iI_lt, iI_eq, jI_le, jI_lt, jI_eq, iI_in, iI_cl, iI_j, jI_i, cN, inN, wI_eq, wI_ne, wJ_1, wJ_eq, wJ_ne, wI_2, wJ_3, iI_div, iI_rem, jI_div, jI_rem, true_or, or_true, false_or, or_false, eq_self, Nat.add_zero]
    refine ⟨fun z => absurd z hnz, fun _ => ⟨fun z => vX12_dance_63 hd ?_, fun z => vX12_dance_63 hd ?_⟩⟩
    · rw [if_neg (by omega)] at nx hr
      simp (disch := omega) only [forall_eq, true_and, and_true, false_and, and_false, forall_const, true_implies, implies_true, not_true_eq_false, not_false_eq_true, false_implies, if_true, if_false, ↓reduceIte, Int.toNat_natCast, Int.reduceEq, Int.reduceNe, Int.reduceLT, Int.reduceLE, Int.reduceToNat, Int.reduceAdd, Int.reduceSub, Int.reduceMul, Int.reduceNeg, Nat.reduceAdd, Nat.reduceMul, Nat.reduceSub, iI_lit, jI_lit, iI_add, iI_sub, iI_mul, iI_neg, jI_add, jI_sub, jI_mul, jI_neg, nI_i, lN_j, iI_le, iI_lt, iI_eq, jI_le, jI_lt, jI_eq, iI_in, iI_cl, iI_j, jI_i, cN, inN, wI_eq, wI_ne, wJ_1, wJ_eq, wJ_ne, wI_2, wJ_3, iI_div, iI_rem, jI_div, jI_rem, true_or, or_true, false_or, or_false, eq_self, Nat.add_zero, e5]
      exact ⟨fun z2 => nx (by omega), fun z2 => hr z2 (by omega)⟩
    · rw [if_pos (by omega)] at nx hr
      simp (disch := omega) only [forall_eq, true_and, and_true, false_and, and_false, forall_const, true_implies, implies_true, not_true_eq_false, not_false_eq_true, false_implies, if_true, if_false, ↓reduceIte, Int.toNat_natCast, Int.reduceEq, Int.reduceNe, Int.reduceLT, Int.reduceLE, Int.reduceToNat, Int.reduceAdd, Int.reduceSub, Int.reduceMul, Int.reduceNeg, Nat.reduceAdd, Nat.reduceMul, Nat.reduceSub, iI_lit, jI_lit, iI_add, iI_sub, iI_mul, iI_neg, jI_add, jI_sub, jI_mul, jI_neg, nI_i, lN_j, iI_le, iI_lt, iI_eq, jI_le, jI_lt, jI_eq, iI_in, iI_cl, iI_j, jI_i, cN, inN, wI_eq, wI_ne, wJ_1, wJ_eq, wJ_ne, wI_2, wJ_3, iI_div, iI_rem, jI_div, jI_rem, true_or, or_true, false_or, or_false, eq_self, Nat.add_zero, e5]
      exact ⟨fun z2 => nx (by omega), fun z2 => hr z2 (by omega)⟩
theorem k_dance {x1 x2 : Int32} (hly : ∀ S, L S → ly S) (hd1 : 2 ≤ d1) (hd2 : 5 ≤ d2) (hI : Inv c m) : sm_callI E L mX11_dance d1 0 0 [.ref (sm_B E + 0), .int x1, .int x2] m (fun r m1 => sm_callI E L mX12_dance d2 0 0 [.ref (sm_B E + 109), .int x1, .int x2] m1 (fun r2 m2 => r = r2 ∧ Inv c m2)) := by
  obtain ⟨i, i1, i2, rfl⟩ := iI_ex x1
  obtain ⟨w, w1, w2, rfl⟩ := iI_ex x2
  by_cases hi : 0 ≤ i ∧ i < 6
  rotate_left
  · refine vX11_dance_0 hly hd1 (c_isSlot i1 i2 (by omega) ?_)
    simp (disch := omega) only [forall_eq, true_and, and_true, false_and, and_false, forall_const, true_implies, implies_true, not_true_eq_false, not_false_eq_true, false_implies, if_true, if_false, ↓reduceIte, Int.toNat_natCast, Int.reduceEq, Int.reduceNe, Int.reduceLT, Int.reduceLE, Int.reduceToNat, Int.reduceAdd, Int.reduceSub, Int.reduceMul, Int.reduceNeg, Nat.reduceAdd, Nat.reduceMul, Nat.reduceSub, iI_lit, jI_lit, iI_add, iI_sub, iI_mul, iI_neg, jI_add, jI_sub, jI_mul, jI_neg, nI_i, lN_j, iI_le, iI_lt, iI_eq, jI_le, jI_lt, jI_eq, iI_in, iI_cl, iI_j, jI_i, cN, inN, wI_eq, wI_ne, wJ_1, wJ_eq, wJ_ne, wI_2, wJ_3, iI_div, iI_rem, jI_div, jI_rem, true_or, or_true, false_or, or_false, eq_self, Nat.add_zero, hi]
    refine c_error (e := 1) hly (by decide) (by omega) (vX12_dance_0 hly hd2 (c12_isSlot i1 i2 (by omega) ?_))
    simp (disch := omega) only [forall_eq, true_and, and_true, false_and, and_false, forall_const, true_implies, implies_true, not_true_eq_false, not_false_eq_true, false_implies, if_true, if_false, ↓reduceIte, Int.toNat_natCast, Int.reduceEq, Int.reduceNe, Int.reduceLT, Int.reduceLE, Int.reduceToNat, Int.reduceAdd, Int.reduceSub, Int.reduceMul, Int.reduceNeg, Nat.reduceAdd, Nat.reduceMul, Nat.reduceSub, iI_lit, jI_lit, iI_add, iI_sub, iI_mul, iI_neg, jI_add, jI_sub, jI_mul, jI_neg, nI_i, lN_j, iI_le, iI_lt, iI_eq, jI_le, jI_lt, jI_eq, iI_in, iI_cl, iI_j, jI_i, cN, inN, wI_eq, wI_ne, wJ_1, wJ_eq, wJ_ne, wI_2, wJ_3, iI_div, iI_rem, jI_div, jI_rem, true_or, or_true, false_or, or_false, eq_self, Nat.add_zero, hi]
    exact c12_finds (e := 1) hly (by decide) (by omega) ⟨rfl, hI.er frw.rf frw.rf⟩
  obtain ⟨j, rfl⟩ : ∃ j : Nat, i = (j : Int) := ⟨i.toNat, by omega⟩
  have hj : j < 6 := by omega
  obtain ⟨t, n, hv, hg, hh⟩ := hI.2.1.1 j hj
  have hT := ly_slotT hly hj
  have hbd := hv.bd
  refine vX11_dance_0 hly hd1 (c_isSlot i1 i2 (by omega) ?_)
  simp (disch := omega) only [forall_eq, true_and, and_true, false_and, and_false, forall_const, true_implies, implies_true, not_true_eq_false, not_false_eq_true, false_implies, if_true, if_false, ↓reduceIte, Int.toNat_natCast, Int.reduceEq, Int.reduceNe, Int.reduceLT, Int.reduceLE, Int.reduceToNat, Int.reduceAdd, Int.reduceSub, Int.reduceMul, Int.reduceNeg, Nat.reduceAdd, Nat.reduceMul, Nat.reduceSub, iI_lit, jI_lit, iI_add, iI_sub, iI_mul, iI_neg, jI_add, jI_sub, jI_mul, jI_neg, nI_i, lN_j, iI_le, iI_lt, iI_eq, jI_le, jI_lt, jI_eq, iI_in, iI_cl, iI_j, jI_i, cN, inN, wI_eq, wI_ne, wJ_1, wJ_eq, wJ_ne, wI_2, wJ_3, iI_div, iI_rem, jI_div, jI_rem, true_or, or_true, false_or, or_false, eq_self, Nat.add_zero, hi]
  refine ⟨fun hw => ⟨by omega, ?_⟩, fun hw => c_error (e := 1) hly (by decide) (by omega) (vX12_dance_0 hly hd2 (c12_isSlot i1 i2 (by omega) ?_))⟩
  rotate_left
  · simp (disch := omega) only [forall_eq, true_and, and_true, false_and, and_false, forall_const, true_implies, implies_true, not_true_eq_false, not_false_eq_true, false_implies, if_true, if_false, ↓reduceIte, Int.toNat_natCast, Int.reduceEq, Int.reduceNe, Int.reduceLT, Int.reduceLE, Int.reduceToNat, Int.reduceAdd, Int.reduceSub, Int.reduceMul, Int.reduceNeg, Nat.reduceAdd, Nat.reduceMul, Nat.reduceSub, iI_lit, jI_lit, iI_add, iI_sub, iI_mul, iI_neg, jI_add, jI_sub, jI_mul, jI_neg, nI_i, lN_j, iI_le, iI_lt, iI_eq, jI_le, jI_lt, jI_eq, iI_in, iI_cl, iI_j, jI_i, cN, inN, wI_eq, wI_ne, wJ_1, wJ_eq, wJ_ne, wI_2, wJ_3, iI_div, iI_rem, jI_div, jI_rem, true_or, or_true, false_or, or_false, eq_self, Nat.add_zero, hi]
    exact ⟨fun z => by omega, fun _ => c12_finds (e := 1) hly (by decide) (by omega) ⟨rfl, hI.er frw.rf frw.rf⟩⟩
  have model : ∀ (m1 : sm_M) (Q : Int32 → sm_M → Prop), hl m1 j t n → (Int.gcd (Tt t n) (Tb t n) = 0 → ∀ m2, frw scM m1 m2 → Q (iI (-1000000000 - (2 : Nat))) (sm_wI m2 110 2 (m2.1 110 2 + 1))) → (Int.gcd (Tt t n) (Tb t n) ≠ 0 → ∀ m2, frw scM m1 m2 → gX12_dance_46 E L d2 ([.ref (sm_B E + 109), .int (iI (j : Nat)), .int (iI w)]) (iI w) (jI (fP (Tt t n) (Tb t n))) (jI (fQ (Tt t n) (Tb t n))) (iI 0) m2 Q) → sm_callI E L mX12_dance d2 0 0 [.ref (sm_B E + 109), .int (iI (j : Nat)), .int (iI w)] m1 Q := by
    intro m1 Q h1 hQ0 hQ1
    refine vX12_dance_0 hly hd2 (c12_isSlot i1 i2 (by omega) ?_)
    simp (disch := omega) only [forall_eq, true_and, and_true, false_and, and_false, forall_const, true_implies, implies_true, not_true_eq_false, not_false_eq_true, false_implies, if_true, if_false, ↓reduceIte, Int.toNat_natCast, Int.reduceEq, Int.reduceNe, Int.reduceLT, Int.reduceLE, Int.reduceToNat, Int.reduceAdd, Int.reduceSub, Int.reduceMul, Int.reduceNeg, Nat.reduceAdd, Nat.reduceMul, Nat.reduceSub, iI_lit, jI_lit, iI_add, iI_sub, iI_mul, iI_neg, jI_add, jI_sub, jI_mul, jI_neg, nI_i, lN_j, iI_le, iI_lt, iI_eq, jI_le, jI_lt, jI_eq, iI_in, iI_cl, iI_j, jI_i, cN, inN, wI_eq, wI_ne, wJ_1, wJ_eq, wJ_ne, wI_2, wJ_3, iI_div, iI_rem, jI_div, jI_rem, true_or, or_true, false_or, or_false, eq_self, Nat.add_zero, hi]
    refine ⟨fun _ => c12_fraction hly (by omega) h1 hj hv (fun m2 f2 g2 r2 => ?_), fun z => by omega⟩
    have s2 : frw scM m1 m2 := f2.w.mono (fun a k h => frP_sc h)
    by_cases hg0 : Int.gcd (Tt t n) (Tb t n) = 0
    · rw [if_pos hg0]
      simp (disch := omega) only [forall_eq, true_and, and_true, false_and, and_false, forall_const, true_implies, implies_true, not_true_eq_false, not_false_eq_true, false_implies, if_true, if_false, ↓reduceIte, Int.toNat_natCast, Int.reduceEq, Int.reduceNe, Int.reduceLT, Int.reduceLE, Int.reduceToNat, Int.reduceAdd, Int.reduceSub, Int.reduceMul, Int.reduceNeg, Nat.reduceAdd, Nat.reduceMul, Nat.reduceSub, iI_lit, jI_lit, iI_add, iI_sub, iI_mul, iI_neg, jI_add, jI_sub, jI_mul, jI_neg, nI_i, lN_j, iI_le, iI_lt, iI_eq, jI_le, jI_lt, jI_eq, iI_in, iI_cl, iI_j, jI_i, cN, inN, wI_eq, wI_ne, wJ_1, wJ_eq, wJ_ne, wI_2, wJ_3, iI_div, iI_rem, jI_div, jI_rem, true_or, or_true, false_or, or_false, eq_self, Nat.add_zero]
      exact c12_finds (e := 2) hly (by decide) (by omega) (hQ0 hg0 m2 s2)
    · rw [if_neg hg0]
      obtain ⟨e1, e2⟩ := r2 hg0
      rw [e1, e2]
      simp (disch := omega) only [forall_eq, true_and, and_true, false_and, and_false, forall_const, true_implies, implies_true, not_true_eq_false, not_false_eq_true, false_implies, if_true, if_false, ↓reduceIte, Int.toNat_natCast, Int.reduceEq, Int.reduceNe, Int.reduceLT, Int.reduceLE, Int.reduceToNat, Int.reduceAdd, Int.reduceSub, Int.reduceMul, Int.reduceNeg, Nat.reduceAdd, Nat.reduceMul, Nat.reduceSub, iI_lit, jI_lit, iI_add, iI_sub, iI_mul, iI_neg, jI_add, jI_sub, jI_mul, jI_neg, nI_i, lN_j, iI_le, iI_lt, iI_eq, jI_le, jI_lt, jI_eq, iI_in, iI_cl, iI_j, jI_i, cN, inN, wI_eq, wI_ne, wJ_1, wJ_eq, wJ_ne, wI_2, wJ_3, iI_div, iI_rem, jI_div, jI_rem, true_or, or_true, false_or, or_false, eq_self, Nat.add_zero]
      exact hQ1 hg0 m2 s2
  rw [hg.2.2.2.2.2.1]
  by_cases hg0 : Int.gcd (Tt t n) (Tb t n) = 0
  · rw [if_pos hg0]
    simp (disch := omega) only [forall_eq, true_and, and_true, false_and, and_false, forall_const, true_implies, implies_true, not_true_eq_false, not_false_eq_true, false_implies, if_true, if_false, ↓reduceIte, Int.toNat_natCast, Int.reduceEq, Int.reduceNe, Int.reduceLT, Int.reduceLE, Int.reduceToNat, Int.reduceAdd, Int.reduceSub, Int.reduceMul, Int.reduceNeg, Nat.reduceAdd, Nat.reduceMul, Nat.reduceSub, iI_lit, jI_lit, iI_add, iI_sub, iI_mul, iI_neg, jI_add, jI_sub, jI_mul, jI_neg, nI_i, lN_j, iI_le, iI_lt, iI_eq, jI_le, jI_lt, jI_eq, iI_in, iI_cl, iI_j, jI_i, cN, inN, wI_eq, wI_ne, wJ_1, wJ_eq, wJ_ne, wI_2, wJ_3, iI_div, iI_rem, jI_div, jI_rem, true_or, or_true, false_or, or_false, eq_self, Nat.add_zero]
    exact c_error (e := 2) hly (by decide) (by omega) (model _ _ (hh.fr (fr.rf.wI (P := fun a k => a = 76) rfl) (by omega) (fun k => by omega)) (fun _ m2 f2 => ⟨rfl, hI.er frw.rf f2⟩) (fun h => absurd hg0 h))
  · rw [if_neg hg0]
    obtain ⟨y1, y2⟩ := hg.2.2.2.2.2.2 hg0
    obtain ⟨b1, b2, b3, b4, b5⟩ := f_bd hbd hg0
    obtain ⟨D, hD⟩ := dIs_ex (p := fP (Tt t n) (Tb t n)) (q := fQ (Tt t n) (Tb t n)) (by omega) ⟨b2, b3⟩ b4
    have hDb := hD.1
    rw [y1, y2]
    simp (disch := omega) only [forall_eq, true_and, and_true, false_and, and_false, forall_const, true_implies, implies_true, not_true_eq_false, not_false_eq_true, false_implies, if_true, if_false, ↓reduceIte, Int.toNat_natCast, Int.reduceEq, Int.reduceNe, Int.reduceLT, Int.reduceLE, Int.reduceToNat, Int.reduceAdd, Int.reduceSub, Int.reduceMul, Int.reduceNeg, Nat.reduceAdd, Nat.reduceMul, Nat.reduceSub, iI_lit, jI_lit, iI_add, iI_sub, iI_mul, iI_neg, jI_add, jI_sub, jI_mul, jI_neg, nI_i, lN_j, iI_le, iI_lt, iI_eq, jI_le, jI_lt, jI_eq, iI_in, iI_cl, iI_j, jI_i, cN, inN, wI_eq, wI_ne, wJ_1, wJ_eq, wJ_ne, wI_2, wJ_3, iI_div, iI_rem, jI_div, jI_rem, true_or, or_true, false_or, or_false, eq_self, Nat.add_zero]
    have fin : ∀ (r : Int), (∀ m2, frw scM m m2 → ∀ x : Nat, (x : Int) = w → x < D → r = (if (dst (fP (Tt t n) (Tb t n)) (fQ (Tt t n) (Tb t n)) x).1 < 0 then 0 else 2)) → (w = -1 → r = D) → (w < D) → sm_callI E L mX12_dance d2 0 0 [.ref (sm_B E + 109), .int (iI (j : Nat)), .int (iI w)] m (fun r2 m2 => iI r = r2 ∧ Inv c m2) := by
      intro r h1 h2 h3
      refine model m _ hh (fun h => absurd h hg0) (fun _ m2 f2 => ?_)
      exact c12_dance_loop (D := D) hly hd2 (by omega) ⟨b2, b3⟩ hD (by omega) w2 (fun x hx hxD => ⟨by rw [h1 m2 f2 x hx hxD], hI.sc frw.rf f2⟩) (fun h => ⟨by rw [h2 h], hI.sc frw.rf f2⟩) (fun h => by omega) D 0 (by omega) (by omega)
    refine c_danced (D := D) (by omega) (by omega) ⟨b2, b3⟩ b4 hD (by omega) w2 (fun x hx hxD => ?_) (fun h => ?_) (fun h => ?_)
    · have f9 := fin _ (fun m2 f2 x' hx' _ => by rw [show x' = x by omega]) (fun h => by omega) (by omega)
      have hb : 0 ≤ (if (dst (fP (Tt t n) (Tb t n)) (fQ (Tt t n) (Tb t n)) x).1 < 0 then (0 : Int) else 2) ∧ (if (dst (fP (Tt t n) (Tb t n)) (fQ (Tt t n) (Tb t n)) x).1 < 0 then (0 : Int) else 2) ≤ 2 := by split <;> omega
      generalize (if (dst (fP (Tt t n) (Tb t n)) (fQ (Tt t n) (Tb t n)) x).1 < 0 then (0 : Int) else 2) = r at f9 hb
      simp (disch := omega) only [forall_eq, true_and, and_true, false_and, and_false, forall_const, true_implies, implies_true, not_true_eq_false, not_false_eq_true, false_implies, if_true, if_false, ↓reduceIte, Int.toNat_natCast, Int.reduceEq, Int.reduceNe, Int.reduceLT, Int.reduceLE, Int.reduceToNat, Int.reduceAdd, Int.reduceSub, Int.reduceMul, Int.reduceNeg, Nat.reduceAdd, Nat.reduceMul, Nat.reduceSub, iI_lit, jI_lit, iI_add, iI_sub, iI_mul, iI_neg, jI_add, jI_sub, jI_mul, jI_neg, nI_i, lN_j, iI_le, iI_lt, iI_eq, jI_le, jI_lt, jI_eq, iI_in, iI_cl, iI_j, jI_i, cN, inN, wI_eq, wI_ne, wJ_1, wJ_eq, wJ_ne, wI_2, wJ_3, iI_div, iI_rem, jI_div, jI_rem, true_or, or_true, false_or, or_false, eq_self, Nat.add_zero]
      exact ⟨fun _ => f9, fun z => by omega⟩
    · have f9 := fin D (fun m2 f2 x' hx' _ => by omega) (fun _ => rfl) (by omega)
      simp (disch := omega) only [forall_eq, true_and, and_true, false_and, and_false, forall_const, true_implies, implies_true, not_true_eq_false, not_false_eq_true, false_implies, if_true, if_false, ↓reduceIte, Int.toNat_natCast, Int.reduceEq, Int.reduceNe, Int.reduceLT, Int.reduceLE, Int.reduceToNat, Int.reduceAdd, Int.reduceSub, Int.reduceMul, Int.reduceNeg, Nat.reduceAdd, Nat.reduceMul, Nat.reduceSub, iI_lit, jI_lit, iI_add, iI_sub, iI_mul, iI_neg, jI_add, jI_sub, jI_mul, jI_neg, nI_i, lN_j, iI_le, iI_lt, iI_eq, jI_le, jI_lt, jI_eq, iI_in, iI_cl, iI_j, jI_i, cN, inN, wI_eq, wI_ne, wJ_1, wJ_eq, wJ_ne, wI_2, wJ_3, iI_div, iI_rem, jI_div, jI_rem, true_or, or_true, false_or, or_false, eq_self, Nat.add_zero]
      exact ⟨fun _ => f9, fun z => by omega⟩
    · simp (disch := omega) only [forall_eq, true_and, and_true, false_and, and_false, forall_const, true_implies, implies_true, not_true_eq_false, not_false_eq_true, false_implies, if_true, if_false, ↓reduceIte, Int.toNat_natCast, Int.reduceEq, Int.reduceNe, Int.reduceLT, Int.reduceLE, Int.reduceToNat, Int.reduceAdd, Int.reduceSub, Int.reduceMul, Int.reduceNeg, Nat.reduceAdd, Nat.reduceMul, Nat.reduceSub, iI_lit, jI_lit, iI_add, iI_sub, iI_mul, iI_neg, jI_add, jI_sub, jI_mul, jI_neg, nI_i, lN_j, iI_le, iI_lt, iI_eq, jI_le, jI_lt, jI_eq, iI_in, iI_cl, iI_j, jI_i, cN, inN, wI_eq, wI_ne, wJ_1, wJ_eq, wJ_ne, wI_2, wJ_3, iI_div, iI_rem, jI_div, jI_rem, true_or, or_true, false_or, or_false, eq_self, Nat.add_zero]
      refine c_error (e := 2) hly (by decide) (by omega) (model _ _ (hh.fr (fr.rf.wI (P := fun a k => a = 76) rfl) (by omega) (fun k => by omega)) (fun h => absurd h hg0) (fun _ m2 f2 => ?_))
      exact c12_dance_loop (D := D) hly hd2 (by omega) ⟨b2, b3⟩ hD (by omega) w2 (fun x hx hxD => by omega) (fun h => by omega) (fun h => ⟨rfl, hI.er frw.rf f2⟩) D 0 (by omega) (by omega)
end K10
