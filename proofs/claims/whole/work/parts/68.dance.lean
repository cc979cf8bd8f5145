/-! the dance of a fraction -/
def dS (s : Int × Int) : Int × Int := if s.1 < 0 then (s.1 + s.2, s.2) else (-s.2, s.1)
def dst (p q : Int) : Nat → Int × Int
  | 0 => (p, q)
  | k + 1 => dS (dst p q k)
theorem dst_neg {p q a b : Int} {k : Nat} (h : dst p q k = (a, b)) (ha : a < 0) : dst p q (k + 1) = (a + b, b) := by
  rw [dst, h, dS, if_pos ha]
theorem dst_pos {p q a b : Int} {k : Nat} (h : dst p q k = (a, b)) (ha : ¬ a < 0) : dst p q (k + 1) = (-b, a) := by
  rw [dst, h, dS, if_neg ha]
theorem dst_tw {p q a b : Int} {k : Nat} (h : dst p q k = (a, b)) : ∀ j : Nat, (∀ r : Nat, r < j → a + r * b < 0) → dst p q (k + j) = (a + j * b, b) := by
  intro j
  induction j with
  | zero =>
    intro _
    rw [Nat.add_zero, h]
    simp
  | succ j ih =>
    intro hr
    have h1 := ih (fun r hr' => hr r (by omega))
    have h2 := dst_neg h1 (hr j (by omega))
    rw [show k + (j + 1) = (k + j) + 1 by omega, h2]
    congr 1
    have : ((j + 1 : Nat) : Int) * b = (j : Int) * b + b := by
      rw [show ((j + 1 : Nat) : Int) = (j : Int) + 1 by omega, Int.add_mul, Int.one_mul]
    omega
/-- a turn, and the twists after it -/
theorem dst_blk {p q u v : Int} {k T : Nat} (h : dst p q k = (u, v)) (hu : 0 < u) (hT : 1 ≤ T) (h1 : ((T : Int) - 1) * u < v) : dst p q (k + (T + 1)) = ((T : Int) * u - v, u) ∧ (∀ j, j < T + 1 → (dst p q (k + j)).1 ≠ 0 ∧ ((dst p q (k + j)).1 < 0 ↔ j ≠ 0)) := by
  have t1 := dst_pos h (by omega)
  have tw := dst_tw t1
  have mono : ∀ r : Nat, r < T → (r : Int) * u ≤ ((T : Int) - 1) * u := fun r hr => Int.mul_le_mul_of_nonneg_right (by omega) (by omega)
  refine ⟨?_, fun j hj => ?_⟩
  · have h2 := tw T (fun r hr => by have := mono r hr; omega)
    rw [show k + (T + 1) = k + 1 + T by omega, h2]
    congr 1
    omega
  · rcases Nat.eq_zero_or_pos j with e | e
    · subst e
      rw [Nat.add_zero, h]
      exact ⟨by show u ≠ 0; omega, ⟨fun q => by have : u < 0 := q; omega, fun q => absurd rfl q⟩⟩
    · have h2 := tw (j - 1) (fun r hr => by have := mono r (by omega); omega)
      rw [show k + j = k + 1 + (j - 1) by omega, h2]
      have h3 := mono (j - 1) (by omega)
      have h4 : -v + ((j - 1 : Nat) : Int) * u < 0 := by omega
      exact ⟨by show -v + ((j - 1 : Nat) : Int) * u ≠ 0; omega, ⟨fun _ => by omega, fun _ => h4⟩⟩
/-- rounds of a turn and two twists -/
theorem dst_rnd {p q u v : Int} {k : Nat} (h : dst p q k = (u, v)) (hu : 0 < u) (hg : 0 < v - u) : ∀ r : Nat, (r : Int) * (v - u) ≤ u → dst p q (k + r * 3) = (u - r * (v - u), v - r * (v - u)) ∧ (∀ x, x < r * 3 → (dst p q (k + x)).1 ≠ 0 ∧ ((dst p q (k + x)).1 < 0 ↔ x % 3 ≠ 0)) := by
  intro r
  induction r with
  | zero =>
    intro _
    rw [Nat.zero_mul, Nat.add_zero, h]
    exact ⟨by simp, fun x hx => absurd hx (Nat.not_lt_zero _)⟩
  | succ r ih =>
    intro hr
    have e : ((r + 1 : Nat) : Int) * (v - u) = (r : Int) * (v - u) + (v - u) := by
      rw [show ((r + 1 : Nat) : Int) = (r : Int) + 1 by omega, Int.add_mul, Int.one_mul]
    rw [e] at hr ⊢
    obtain ⟨a1, a2⟩ := ih (by omega)
    obtain ⟨b1, b2⟩ := dst_blk (T := 2) a1 (by omega) (by omega) (by omega)
    refine ⟨?_, fun x hx => ?_⟩
    · rw [show k + (r + 1) * 3 = k + r * 3 + (2 + 1) by omega, b1]
      congr 1 <;> omega
    · rcases Nat.lt_or_ge x (r * 3) with hx2 | hx2
      · exact a2 x hx2
      · obtain ⟨c1, c2⟩ := b2 (x - r * 3) (by omega)
        rw [show k + r * 3 + (x - r * 3) = k + x by omega] at c1 c2
        exact ⟨c1, c2.trans (by omega)⟩
/-- it comes to nought -/
theorem dst_end {p q : Int} : ∀ (n : Nat) (u v : Int) (k : Nat), u.toNat ≤ n → 0 ≤ u → u < v → dst p q k = (u, v) → ∃ D, k ≤ D ∧ (D : Int) ≤ k + 2 * u + v ∧ (dst p q D).1 = 0 ∧ ∀ x, k ≤ x → x < D → (dst p q x).1 ≠ 0 := by
  intro n
  induction n with
  | zero =>
    intro u v k hn hu hv h
    have : u = 0 := by omega
    subst this
    exact ⟨k, Nat.le_refl _, by omega, by rw [h], fun x h1 h2 => by omega⟩
  | succ n ih =>
    intro u v k hn hu hv h
    rcases Int.lt_or_eq_of_le hu with hu0 | hu0
    · obtain ⟨T, hT⟩ : ∃ T : Nat, (T : Int) = (v + u - 1) / u := ⟨((v + u - 1) / u).toNat, by
        have := Int.ediv_nonneg (show 0 ≤ v + u - 1 by omega) (show 0 ≤ u by omega)
        omega⟩
      have e := Int.emod_add_mul_ediv (v + u - 1) u
      have r1 := Int.emod_nonneg (v + u - 1) (show u ≠ 0 by omega)
      have r2 := Int.emod_lt_of_pos (v + u - 1) hu0
      rw [← hT] at e
      rw [Int.mul_comm] at e
      have hTu : ((T : Int) - 1) * u = T * u - u := by rw [Int.sub_mul, Int.one_mul]
      have hT2 : 2 ≤ T := by
        rcases Nat.lt_or_ge T 2 with h | h
        · have : (T : Int) * u ≤ 1 * u := Int.mul_le_mul_of_nonneg_right (by omega) (by omega)
          omega
        · exact h
      obtain ⟨b1, b2⟩ := dst_blk (T := T) h hu0 (by omega) (by rw [hTu]; omega)
      obtain ⟨D, d1, d2, d3, d4⟩ := ih (T * u - v) u (k + (T + 1)) (by omega) (by omega) (by omega) b1
      have hprod : 0 ≤ ((T : Int) - 2) * (u - 1) := Int.mul_nonneg (by omega) (by omega)
      have hprod2 : ((T : Int) - 2) * (u - 1) = T * u - T - 2 * u + 2 := by grind
      refine ⟨D, by omega, by omega, d3, fun x h1 h2 => ?_⟩
      rcases Nat.lt_or_ge x (k + (T + 1)) with hx | hx
      · have := (b2 (x - k) (by omega)).1
        rw [show k + (x - k) = x by omega] at this
        exact this
      · exact d4 x hx h2
    · subst hu0
      exact ⟨k, Nat.le_refl _, by omega, by rw [h], fun x h1 h2 => by omega⟩
/-- what the dance is: how many, and each -/
def dIs (p q : Int) (D : Nat) : Prop := (D : Int) ≤ 300000000 ∧ (dst p q D).1 = 0 ∧ ∀ x, x < D → (dst p q x).1 ≠ 0
section DAN
variable {E : sm_E} {L : sm_S → Prop} {d d1 d2 : Nat} {m : sm_M} {c : Nat}
theorem dIs_lt {p q : Int} {D k : Nat} (hD : dIs p q D) (h : ∀ x, x < k → (dst p q x).1 ≠ 0) : k ≤ D := by
  rcases Nat.lt_or_ge D k with h1 | h1
  · exact absurd hD.2.1 (h D h1)
  · exact h1
/-- one round of the class's loop -/
theorem c_dance_one {Q : Int32 → sm_M → Prop} {vs : List Value} {p q u v i : Int} {k D T tm rd : Nat} (hd : 1 ≤ d) (hD : dIs p q D) (h : dst p q k = (u, v)) (hk : ∀ x, x < k → (dst p q x).1 ≠ 0) (hu : 0 < u) (hub : u ≤ 16777216) (hv : 0 < v) (hvb : v ≤ 33554432) (hrd : rd < 1000) (i1 : -1 ≤ i) (i2 : i ≤ 2147483647) (hik : i = -1 ∨ (k : Int) ≤ i)
    (hT : (T : Int) = (v + u - 1) / u) (htm : tm = if T = 2 then (u / (v - u)).toNat else 1)
    (hret : ∀ x : Nat, (x : Int) = i → x < D → Q (iI (if (dst p q x).1 < 0 then 0 else 2)) m)
    (hnext : ∀ (u' v' : Int), dst p q (k + tm * (T + 1)) = (u', v') → (∀ x, x < k + tm * (T + 1) → (dst p q x).1 ≠ 0) → (i = -1 ∨ ((k + tm * (T + 1) : Nat) : Int) ≤ i) → (T = 2 → u' = u - tm * (v - u) ∧ v' = v - tm * (v - u) ∧ 0 ≤ u' ∧ u' < v - u) → (T ≠ 2 → u' = T * u - v ∧ v' = u ∧ 0 ≤ u' ∧ u' < u) → gX3_danced_63 E L d vs (iI i) (iI ((k + tm * (T + 1) : Nat) : Int)) (iI u') (iI v') (iI ((rd + 1 : Nat) : Int)) m Q) :
    gX3_danced_63 E L d vs (iI i) (iI (k : Nat)) (iI u) (iI v) (iI (rd : Nat)) m Q := by
  have e := Int.emod_add_mul_ediv (v + u - 1) u
  have r1 := Int.emod_nonneg (v + u - 1) (show u ≠ 0 by omega)
  have r2 := Int.emod_lt_of_pos (v + u - 1) hu
  rw [← hT, Int.mul_comm] at e
  have hTu : ((T : Int) - 1) * u = T * u - u := by rw [Int.sub_mul, Int.one_mul]
  have hT1 : 1 ≤ T := by
    rcases Nat.eq_zero_or_pos T with h | h
    · subst h
      simp at e
      omega
    · exact h
  have hTle : (T : Int) ≤ 50331648 := by
    have : (T : Int) * 1 ≤ T * u := Int.mul_le_mul_of_nonneg_left (by omega) (by omega)
    omega
  -- all the blocks of this round
  have blk : (dst p q (k + tm * (T + 1)) = (if T = 2 then (u - tm * (v - u), v - tm * (v - u)) else ((T : Int) * u - v, u))) ∧ (∀ x, x < tm * (T + 1) → (dst p q (k + x)).1 ≠ 0 ∧ ((dst p q (k + x)).1 < 0 ↔ x % (T + 1) ≠ 0)) ∧ 1 ≤ tm ∧ (T = 2 → 0 ≤ u - tm * (v - u) ∧ u - tm * (v - u) < v - u ∧ (tm : Int) = u / (v - u) ∧ 0 < v - u) := by
    by_cases hT2 : T = 2
    · rw [if_pos hT2] at htm ⊢
      subst hT2
      have hg : 0 < v - u := by omega
      have e' := Int.emod_add_mul_ediv u (v - u)
      have s1 := Int.emod_nonneg u (show v - u ≠ 0 by omega)
      have s2 := Int.emod_lt_of_pos u hg
      have s3 := Int.ediv_nonneg (show 0 ≤ u by omega) (show 0 ≤ v - u by omega)
      have htm' : (tm : Int) = u / (v - u) := by omega
      rw [← htm', Int.mul_comm] at e'
      obtain ⟨a1, a2⟩ := dst_rnd h hu hg tm (by omega)
      refine ⟨a1, a2, ?_, fun _ => ⟨by omega, by omega, htm', hg⟩⟩
      rcases Nat.eq_zero_or_pos tm with h | h
      · subst h
        simp at e'
        omega
      · exact h
    · rw [if_neg hT2] at htm ⊢
      subst htm
      obtain ⟨a1, a2⟩ := dst_blk h hu hT1 (by rw [hTu]; omega)
      refine ⟨by rw [Nat.one_mul]; exact a1, fun x hx => ?_, Nat.le_refl _, fun q => absurd q hT2⟩
      rw [Nat.one_mul] at hx
      obtain ⟨c1, c2⟩ := a2 x hx
      exact ⟨c1, c2.trans (by rw [Nat.mod_eq_of_lt hx])⟩
  obtain ⟨B1, B2, B3, B4⟩ := blk
  have nz : ∀ x, x < k + tm * (T + 1) → (dst p q x).1 ≠ 0 := fun x hx => by
    rcases Nat.lt_or_ge x k with h1 | h1
    · exact hk x h1
    · have := (B2 (x - k) (by omega)).1
      rw [show k + (x - k) = x by omega] at this
      exact this
  have hle := dIs_lt hD nz
  have hDb := hD.1
  have hmul : (tm : Int) * ((T : Int) + 1) = ((tm * (T + 1) : Nat) : Int) := by
    rw [Int.natCast_mul]
    rfl
  have e9 : ((k : Nat) : Int) + ((tm * (T + 1) : Nat) : Int) = ((k + tm * (T + 1) : Nat) : Int) := by omega
  have erd : ((rd : Nat) : Int) + 1 = ((rd + 1 : Nat) : Int) := by omega
  generalize hW : tm * (T + 1) = W at *
  have g154 : (i = -1 ∨ ((k + W : Nat) : Int) ≤ i) → ∀ g : Int, g = v - u → gX3_danced_154 E L d vs (iI i) (iI (k : Nat)) (iI u) (iI v) (iI (rd : Nat)) (iI (T : Nat)) (iI g) (iI (tm : Nat)) (iI (W : Nat)) m Q := by
    intro hi g hg
    refine vX3_danced_154 hd ?_
    rw [hg]
    by_cases hT2 : T = 2
    · rw [if_pos hT2] at B1
      obtain ⟨q1, q2, q3, q4⟩ := B4 hT2
      have h9 := hnext _ _ B1 nz hi (fun _ => ⟨rfl, rfl, q1, q2⟩) (fun q => absurd hT2 q)
      have hT2' : ((T : Nat) : Int) = 2 := by omega
      simp (disch := omega) only [forall_eq, true_and, and_true, false_and, and_false, forall_const, true_implies, implies_true, not_true_eq_false, not_false_eq_true, false_implies, if_true, if_false, ↓reduceIte, Int.toNat_natCast, Int.reduceEq, Int.reduceNe, Int.reduceLT, Int.reduceLE, Int.reduceToNat, Int.reduceAdd, Int.reduceSub, Int.reduceMul, Int.reduceNeg, Nat.reduceAdd, Nat.reduceMul, Nat.reduceSub, iI_lit, jI_lit, iI_add, iI_sub, iI_mul, iI_neg, jI_add, jI_sub, jI_mul, jI_neg, nI_i, lN_j, iI_le, iI_lt, iI_eq, jI_le, jI_lt, jI_eq, iI_in, iI_cl, iI_j, jI_i, cN, inN, wI_eq, wI_ne, wJ_1, wJ_eq, wJ_ne, wI_2, wJ_3, iI_div, iI_rem, jI_div, jI_rem, true_or, or_true, false_or, or_false, eq_self, Nat.add_zero, e9, erd, hT2']
      rw [show u - (tm : Int) * (v - u) + (v - u) = v - (tm : Int) * (v - u) by omega]
      exact h9
    · rw [if_neg hT2] at B1
      have h9 := hnext _ _ B1 nz hi (fun q => absurd q hT2) (fun _ => ⟨rfl, rfl, by omega, by omega⟩)
      have hT2' : ¬ ((T : Nat) : Int) = 2 := by omega
      simp (disch := omega) only [forall_eq, true_and, and_true, false_and, and_false, forall_const, true_implies, implies_true, not_true_eq_false, not_false_eq_true, false_implies, if_true, if_false, ↓reduceIte, Int.toNat_natCast, Int.reduceEq, Int.reduceNe, Int.reduceLT, Int.reduceLE, Int.reduceToNat, Int.reduceAdd, Int.reduceSub, Int.reduceMul, Int.reduceNeg, Nat.reduceAdd, Nat.reduceMul, Nat.reduceSub, iI_lit, jI_lit, iI_add, iI_sub, iI_mul, iI_neg, jI_add, jI_sub, jI_mul, jI_neg, nI_i, lN_j, iI_le, iI_lt, iI_eq, jI_le, jI_lt, jI_eq, iI_in, iI_cl, iI_j, jI_i, cN, inN, wI_eq, wI_ne, wJ_1, wJ_eq, wJ_ne, wI_2, wJ_3, iI_div, iI_rem, jI_div, jI_rem, true_or, or_true, false_or, or_false, eq_self, Nat.add_zero, e9, erd, hT2']
      exact h9
  have g114 : ∀ t : Int, t = (tm : Nat) → ∀ g : Int, g = v - u → gX3_danced_114 E L d vs (iI i) (iI (k : Nat)) (iI u) (iI v) (iI (rd : Nat)) (iI (T : Nat)) (iI g) (iI t) m Q := by
    intro t ht g hg
    subst ht
    refine vX3_danced_114 hd ?_
    simp (disch := omega) only [forall_eq, true_and, and_true, false_and, and_false, forall_const, true_implies, implies_true, not_true_eq_false, not_false_eq_true, false_implies, if_true, if_false, ↓reduceIte, Int.toNat_natCast, Int.reduceEq, Int.reduceNe, Int.reduceLT, Int.reduceLE, Int.reduceToNat, Int.reduceAdd, Int.reduceSub, Int.reduceMul, Int.reduceNeg, Nat.reduceAdd, Nat.reduceMul, Nat.reduceSub, iI_lit, jI_lit, iI_add, iI_sub, iI_mul, iI_neg, jI_add, jI_sub, jI_mul, jI_neg, nI_i, lN_j, iI_le, iI_lt, iI_eq, jI_le, jI_lt, jI_eq, iI_in, iI_cl, iI_j, jI_i, cN, inN, wI_eq, wI_ne, wJ_1, wJ_eq, wJ_ne, wI_2, wJ_3, iI_div, iI_rem, jI_div, jI_rem, true_or, or_true, false_or, or_false, eq_self, Nat.add_zero, hmul, e9]
    refine ⟨fun z => g154 (by omega) g hg, fun z => ⟨fun z2 => g154 (by omega) g hg, fun z2 => ⟨by omega, ?_⟩⟩⟩
    obtain ⟨x, hx⟩ : ∃ x : Nat, i = ((k + x : Nat) : Int) := ⟨(i - k).toNat, by omega⟩
    obtain ⟨c1, c2⟩ := B2 x (by omega)
    have hr := hret (k + x) hx.symm (by omega)
    have hmod : (i - (k : Int)).tmod ((T : Int) + 1) = ((x % (T + 1) : Nat) : Int) := by
      rw [show i - (k : Int) = (x : Int) by omega, show (T : Int) + 1 = ((T + 1 : Nat) : Int) by omega, tmod_nat]
    have hml : x % (T + 1) < T + 1 := Nat.mod_lt _ (by omega)
    simp (disch := omega) only [forall_eq, true_and, and_true, false_and, and_false, forall_const, true_implies, implies_true, not_true_eq_false, not_false_eq_true, false_implies, if_true, if_false, ↓reduceIte, Int.toNat_natCast, Int.reduceEq, Int.reduceNe, Int.reduceLT, Int.reduceLE, Int.reduceToNat, Int.reduceAdd, Int.reduceSub, Int.reduceMul, Int.reduceNeg, Nat.reduceAdd, Nat.reduceMul, Nat.reduceSub, iI_lit, jI_lit, iI_add, iI_sub, iI_mul, iI_neg, jI_add, jI_sub, jI_mul, jI_neg, nI_i, lN_j, iI_le, iI_lt, iI_eq, jI_le, jI_lt, jI_eq, iI_in, iI_cl, iI_j, jI_i, cN, inN, wI_eq, wI_ne, wJ_1, wJ_eq, wJ_ne, wI_2, wJ_3, iI_div, iI_rem, jI_div, jI_rem, true_or, or_true, false_or, or_false, eq_self, Nat.add_zero, hmod]
    refine ⟨fun z3 => ?_, fun z3 => ?_⟩
    · rw [if_pos (c2.mpr (by omega))] at hr
      exact hr
    · rw [if_neg (fun q => c2.mp q (by omega))] at hr
      exact hr
  have hdiv : (v + u - 1).tdiv u = (T : Int) := by rw [Int.tdiv_eq_ediv_of_nonneg (by omega), hT]
  refine vX3_danced_63 hd ?_
  simp (disch := omega) only [forall_eq, true_and, and_true, false_and, and_false, forall_const, true_implies, implies_true, not_true_eq_false, not_false_eq_true, false_implies, if_true, if_false, ↓reduceIte, Int.toNat_natCast, Int.reduceEq, Int.reduceNe, Int.reduceLT, Int.reduceLE, Int.reduceToNat, Int.reduceAdd, Int.reduceSub, Int.reduceMul, Int.reduceNeg, Nat.reduceAdd, Nat.reduceMul, Nat.reduceSub, iI_lit, jI_lit, iI_add, iI_sub, iI_mul, iI_neg, jI_add, jI_sub, jI_mul, jI_neg, nI_i, lN_j, iI_le, iI_lt, iI_eq, jI_le, jI_lt, jI_eq, iI_in, iI_cl, iI_j, jI_i, cN, inN, wI_eq, wI_ne, wJ_1, wJ_eq, wJ_ne, wI_2, wJ_3, iI_div, iI_rem, jI_div, jI_rem, true_or, or_true, false_or, or_false, eq_self, Nat.add_zero, hdiv]
  refine ⟨fun z => by omega, fun _ => ⟨fun z => by omega, fun _ => ⟨by omega, fun z => g114 1 ?_ _ rfl, fun z => ⟨fun z2 => ?_, fun z2 => ⟨by omega, g114 _ ?_ _ rfl⟩⟩⟩⟩⟩
  · rw [htm, if_neg (by omega)]
    rfl
  · have := (B4 (by omega)).2.2.2
    omega
  · rw [Int.tdiv_eq_ediv_of_nonneg (by omega)]
    exact ((B4 (by omega)).2.2.1).symm
end DAN
