/-! moves of a tangle, in both programs -/
def mvA (x : Int) : Int := if x = 0 ∨ x = 4 then 1 else -1
def mvO (x : Int) : Int := if x < 2 then 11 else 12
def mvB (x : Int) : Int := if x = 2 then 13 else 14
def mvt (t : Nat → Int) (n : Nat) (x : Int) : Nat → Int := if x = 2 ∨ x = 3 then tup t n (mvB x) else tup (tup t n (mvA x)) (n + 1) (mvO x)
def mvn (n : Nat) (x : Int) : Nat := if x = 2 ∨ x = 3 then n + 1 else n + 2
theorem lvs_tup {t : Nat → Int} {n : Nat} {z : Int} : lvs (tup t n z) n = lvs t n := lvs_congr (fun k hk => tup_lt hk)
theorem crs_tup {t : Nat → Int} {n : Nat} {z : Int} : crs (tup t n z) n = crs t n := crs_congr (fun k hk => tup_lt hk)
theorem ev_tup {t : Nat → Int} {n : Nat} {z : Int} : ev (tup t n z) n = ev t n := ev_congr (fun k hk => tup_lt hk)
theorem lvs_tup1 {t : Nat → Int} {n : Nat} {z : Int} : lvs (tup t n z) (n + 1) = lvs t n + (if z ≤ 10 then 1 else 0) := by rw [lvs, lvs_tup, tup_at]
theorem crs_tup1 {t : Nat → Int} {n : Nat} {z : Int} : crs (tup t n z) (n + 1) = crs t n + (if z < 10 then z.natAbs else 0) := by rw [crs, crs_tup, tup_at]
theorem ev_tup1 {t : Nat → Int} {n : Nat} {z : Int} : ev (tup t n z) (n + 1) = evStep (ev t n) z := by rw [ev, ev_tup, tup_at]
theorem okT_tup {t : Nat → Int} {n : Nat} {z : Int} (h : okT t n) (h1 : -9 ≤ z) (h2 : z ≤ 14) (h3 : 10 < z → 1 ≤ (ev t n).1) (h4 : 10 < z → z < 13 → 2 ≤ (ev t n).1) : okT (tup t n z) (n + 1) := fun k hk => by
  by_cases hkn : k = n
  · subst hkn
    rw [tup_at, ev_tup]
    exact ⟨h1, h2, h3, h4⟩
  · rw [tup_lt (by omega), ev_congr (u := t) (fun j hj => tup_lt (by omega))]
    exact h k (by omega)
theorem mv_bare {x : Int} (h : x = 2 ∨ x = 3) (t : Nat → Int) (n : Nat) : mvt t n x = tup t n (mvB x) ∧ mvn n x = n + 1 := ⟨if_pos h, if_pos h⟩
theorem mv_two {x : Int} (h : ¬ (x = 2 ∨ x = 3)) (t : Nat → Int) (n : Nat) : mvt t n x = tup (tup t n (mvA x)) (n + 1) (mvO x) ∧ mvn n x = n + 2 := ⟨if_neg h, if_neg h⟩
theorem mvA_01 (x : Int) : mvA x = 1 ∨ mvA x = -1 := by unfold mvA; split <;> simp
theorem mvO_01 (x : Int) : mvO x = 11 ∨ mvO x = 12 := by unfold mvO; split <;> simp
theorem mvB_01 (x : Int) : mvB x = 13 ∨ mvB x = 14 := by unfold mvB; split <;> simp
theorem mv_lvs (t : Nat → Int) (n : Nat) (x : Int) : lvs (mvt t n x) (mvn n x) = lvs t n + (if x = 2 ∨ x = 3 then 0 else 1) := by
  by_cases h : x = 2 ∨ x = 3
  · obtain ⟨e1, e2⟩ := mv_bare h t n
    have := mvB_01 x
    rw [e1, e2, lvs_tup1, if_neg (by omega), if_pos h]
  · obtain ⟨e1, e2⟩ := mv_two h t n
    have := mvA_01 x
    have := mvO_01 x
    rw [e1, e2, show n + 2 = (n + 1) + 1 by omega, lvs_tup1, lvs_tup1, if_pos (by omega), if_neg (by omega), if_neg h]
theorem mv_crs (t : Nat → Int) (n : Nat) (x : Int) : crs (mvt t n x) (mvn n x) = crs t n + (if x = 2 ∨ x = 3 then 0 else 1) := by
  by_cases h : x = 2 ∨ x = 3
  · obtain ⟨e1, e2⟩ := mv_bare h t n
    have := mvB_01 x
    rw [e1, e2, crs_tup1, if_neg (by omega), if_pos h]
  · obtain ⟨e1, e2⟩ := mv_two h t n
    have := mvA_01 x
    have := mvO_01 x
    rw [e1, e2, show n + 2 = (n + 1) + 1 by omega, crs_tup1, crs_tup1, if_pos (by omega), if_neg (by omega), if_neg h]
    omega
theorem mv_ok {t : Nat → Int} {n : Nat} {x : Int} (h : okT t n) (h1 : (ev t n).1 = 1) : okT (mvt t n x) (mvn n x) ∧ (ev (mvt t n x) (mvn n x)).1 = 1 := by
  by_cases hx : x = 2 ∨ x = 3
  · obtain ⟨e1, e2⟩ := mv_bare hx t n
    have := mvB_01 x
    rw [e1, e2]
    refine ⟨okT_tup h (by omega) (by omega) (by omega) (by omega), ?_⟩
    rw [ev_tup1, evStep_h, if_neg (by omega), if_neg (by omega), h1]
  · obtain ⟨e1, e2⟩ := mv_two hx t n
    have := mvA_01 x
    have := mvO_01 x
    have q : (ev (tup t n (mvA x)) (n + 1)).1 = 2 := by rw [ev_tup1, evStep_h, if_pos (by omega), h1]
    rw [e1, e2]
    refine ⟨okT_tup (okT_tup h (by omega) (by omega) (by omega) (by omega)) (by omega) (by omega) (by omega) (by omega), ?_⟩
    rw [show n + 2 = (n + 1) + 1 by omega, ev_tup1, evStep_h, if_neg (by omega), if_pos (by omega), q]
theorem mv_v {t : Nat → Int} {n : Nat} {x : Int} (h : vT t n) (hf : fit (mvt t n x) (mvn n x)) : vT (mvt t n x) (mvn n x) := ⟨(mv_ok h.1 h.2.1).1, (mv_ok h.1 h.2.1).2, hf⟩
section MOV
variable {E : sm_E} {L : sm_S → Prop} {d : Nat} {m : sm_M}
theorem c_add2 {Q : sm_M → Prop} {a na n : Nat} {t : Nat → Int} {x y : Int} (hT : sm_tan L a na) (hd : 2 ≤ d) (hg : tg m a t n) (hn : n + 1 < na) (hna : na ≤ 100) (hx1 : -100 ≤ x) (hx2 : x ≤ 100) (hy1 : -100 ≤ y) (hy2 : y ≤ 100) (h : ∀ m', fr (tgP a) m m' → tg m' a (tup (tup t n x) (n + 1) y) (n + 2) → Q m') : sm_callV E L mX8_add d 0 0 [.ref (sm_B E + a), .int (iI x)] m (fun m1 => sm_callV E L mX8_add d 0 0 [.ref (sm_B E + a), .int (iI y)] m1 Q) :=
  c_add hT hd hg (by omega) hna hx1 hx2 (fun m' f' g' => c_add hT hd g' hn hna hy1 hy2 (fun m2 f2 g2 => h m2 (f'.tr f2) g2))
theorem c_advance {Q : Int32 → sm_M → Prop} {a n : Nat} {t : Nat → Int} {x : Int} (hT : sm_tan L a 60) (hd : 3 ≤ d) (hg : tg m a t n) (hf : fit t n) (hx1 : 0 ≤ x) (hx2 : x ≤ 5) (h1 : fit (mvt t n x) (mvn n x) → ∀ m', fr (tgP a) m m' → tg m' a (mvt t n x) (mvn n x) → Q (iI 1) m') (h0 : ¬ fit (mvt t n x) (mvn n x) → Q (iI 0) m) : sm_callI E L mX8_advance d 0 0 [.ref (sm_B E + a), .int (iI x)] m Q := by
  obtain ⟨f1, f2, f3⟩ := hf
  have l1 := mv_lvs t n x
  have l2 := mv_crs t n x
  have go45 : fit (mvt t n x) (mvn n x) → gX8_advance_45 E L d [.ref (sm_B E + a), .int (iI x)] a (iI x) m Q := by
    intro hft
    have h1 := h1 hft
    obtain ⟨k1, k2, k3⟩ := hft
    refine vX8_advance_45 hd hT ?_
    by_cases hx : x = 2 ∨ x = 3
    · obtain ⟨e1, e2⟩ := mv_bare hx t n
      rw [e2] at k3
      rw [e1, e2] at h1
      have k : ∀ z, z = mvB x → sm_callV E L mX8_add 2 0 0 [.ref (sm_B E + a), .int (iI z)] m (fun m' => Q (iI 1) m') := fun z hz => by
        have := mvB_01 x
        exact c_add hT (by omega) hg (by omega) (by omega) (by omega) (by omega) (fun m' f' g' => h1 m' f' (by rw [← hz]; exact g'))
      rcases hx with rfl | rfl
      · simp (disch := omega) only [forall_eq, true_and, and_true, false_and, and_false, forall_const, true_implies, implies_true, not_true_eq_false, not_false_eq_true, false_implies, if_true, if_false, ↓reduceIte, Int.toNat_natCast, Int.reduceEq, Int.reduceNe, Int.reduceLT, Int.reduceLE, Int.reduceToNat, Int.reduceAdd, Int.reduceSub, Int.reduceMul, Int.reduceNeg, Nat.reduceAdd, Nat.reduceMul, Nat.reduceSub, iI_lit, jI_lit, iI_add, iI_sub, iI_mul, iI_neg, jI_add, jI_sub, jI_mul, jI_neg, nI_i, lN_j, iI_le, iI_lt, iI_eq, jI_le, jI_lt, jI_eq, iI_in, iI_cl, iI_j, jI_i, cN, inN, wI_eq, wI_ne, wJ_1, wJ_eq, wJ_ne, wI_2, wJ_3, iI_div, iI_rem, jI_div, jI_rem, true_or, or_true, false_or, or_false, eq_self, Nat.add_zero]
        exact k 13 rfl
      · simp (disch := omega) only [forall_eq, true_and, and_true, false_and, and_false, forall_const, true_implies, implies_true, not_true_eq_false, not_false_eq_true, false_implies, if_true, if_false, ↓reduceIte, Int.toNat_natCast, Int.reduceEq, Int.reduceNe, Int.reduceLT, Int.reduceLE, Int.reduceToNat, Int.reduceAdd, Int.reduceSub, Int.reduceMul, Int.reduceNeg, Nat.reduceAdd, Nat.reduceMul, Nat.reduceSub, iI_lit, jI_lit, iI_add, iI_sub, iI_mul, iI_neg, jI_add, jI_sub, jI_mul, jI_neg, nI_i, lN_j, iI_le, iI_lt, iI_eq, jI_le, jI_lt, jI_eq, iI_in, iI_cl, iI_j, jI_i, cN, inN, wI_eq, wI_ne, wJ_1, wJ_eq, wJ_ne, wI_2, wJ_3, iI_div, iI_rem, jI_div, jI_rem, true_or, or_true, false_or, or_false, eq_self, Nat.add_zero]
        exact k 14 rfl
    · obtain ⟨e1, e2⟩ := mv_two hx t n
      rw [e2] at k3
      rw [e1, e2] at h1
      have k : ∀ y z, y = mvA x → z = mvO x → sm_callV E L mX8_add 2 0 0 [.ref (sm_B E + a), .int (iI y)] m (fun m1 => sm_callV E L mX8_add 2 0 0 [.ref (sm_B E + a), .int (iI z)] m1 (fun m' => Q (iI 1) m')) := fun y z hy hz => by
        have := mvA_01 x
        have := mvO_01 x
        exact c_add2 hT (by omega) hg (by omega) (by omega) (by omega) (by omega) (by omega) (by omega) (fun m' f' g' => h1 m' f' (by rw [← hy, ← hz]; exact g'))
      rcases (show x = 0 ∨ x = 1 ∨ x = 4 ∨ x = 5 by omega) with rfl | rfl | rfl | rfl
      · simp (disch := omega) only [forall_eq, true_and, and_true, false_and, and_false, forall_const, true_implies, implies_true, not_true_eq_false, not_false_eq_true, false_implies, if_true, if_false, ↓reduceIte, Int.toNat_natCast, Int.reduceEq, Int.reduceNe, Int.reduceLT, Int.reduceLE, Int.reduceToNat, Int.reduceAdd, Int.reduceSub, Int.reduceMul, Int.reduceNeg, Nat.reduceAdd, Nat.reduceMul, Nat.reduceSub, iI_lit, jI_lit, iI_add, iI_sub, iI_mul, iI_neg, jI_add, jI_sub, jI_mul, jI_neg, nI_i, lN_j, iI_le, iI_lt, iI_eq, jI_le, jI_lt, jI_eq, iI_in, iI_cl, iI_j, jI_i, cN, inN, wI_eq, wI_ne, wJ_1, wJ_eq, wJ_ne, wI_2, wJ_3, iI_div, iI_rem, jI_div, jI_rem, true_or, or_true, false_or, or_false, eq_self, Nat.add_zero]
        exact k 1 11 rfl rfl
      · simp (disch := omega) only [forall_eq, true_and, and_true, false_and, and_false, forall_const, true_implies, implies_true, not_true_eq_false, not_false_eq_true, false_implies, if_true, if_false, ↓reduceIte, Int.toNat_natCast, Int.reduceEq, Int.reduceNe, Int.reduceLT, Int.reduceLE, Int.reduceToNat, Int.reduceAdd, Int.reduceSub, Int.reduceMul, Int.reduceNeg, Nat.reduceAdd, Nat.reduceMul, Nat.reduceSub, iI_lit, jI_lit, iI_add, iI_sub, iI_mul, iI_neg, jI_add, jI_sub, jI_mul, jI_neg, nI_i, lN_j, iI_le, iI_lt, iI_eq, jI_le, jI_lt, jI_eq, iI_in, iI_cl, iI_j, jI_i, cN, inN, wI_eq, wI_ne, wJ_1, wJ_eq, wJ_ne, wI_2, wJ_3, iI_div, iI_rem, jI_div, jI_rem, true_or, or_true, false_or, or_false, eq_self, Nat.add_zero]
        exact k (-1) 11 rfl rfl
      · simp (disch := omega) only [forall_eq, true_and, and_true, false_and, and_false, forall_const, true_implies, implies_true, not_true_eq_false, not_false_eq_true, false_implies, if_true, if_false, ↓reduceIte, Int.toNat_natCast, Int.reduceEq, Int.reduceNe, Int.reduceLT, Int.reduceLE, Int.reduceToNat, Int.reduceAdd, Int.reduceSub, Int.reduceMul, Int.reduceNeg, Nat.reduceAdd, Nat.reduceMul, Nat.reduceSub, iI_lit, jI_lit, iI_add, iI_sub, iI_mul, iI_neg, jI_add, jI_sub, jI_mul, jI_neg, nI_i, lN_j, iI_le, iI_lt, iI_eq, jI_le, jI_lt, jI_eq, iI_in, iI_cl, iI_j, jI_i, cN, inN, wI_eq, wI_ne, wJ_1, wJ_eq, wJ_ne, wI_2, wJ_3, iI_div, iI_rem, jI_div, jI_rem, true_or, or_true, false_or, or_false, eq_self, Nat.add_zero]
        exact k 1 12 rfl rfl
      · simp (disch := omega) only [forall_eq, true_and, and_true, false_and, and_false, forall_const, true_implies, implies_true, not_true_eq_false, not_false_eq_true, false_implies, if_true, if_false, ↓reduceIte, Int.toNat_natCast, Int.reduceEq, Int.reduceNe, Int.reduceLT, Int.reduceLE, Int.reduceToNat, Int.reduceAdd, Int.reduceSub, Int.reduceMul, Int.reduceNeg, Nat.reduceAdd, Nat.reduceMul, Nat.reduceSub, iI_lit, jI_lit, iI_add, iI_sub, iI_mul, iI_neg, jI_add, jI_sub, jI_mul, jI_neg, nI_i, lN_j, iI_le, iI_lt, iI_eq, jI_le, jI_lt, jI_eq, iI_in, iI_cl, iI_j, jI_i, cN, inN, wI_eq, wI_ne, wJ_1, wJ_eq, wJ_ne, wI_2, wJ_3, iI_div, iI_rem, jI_div, jI_rem, true_or, or_true, false_or, or_false, eq_self, Nat.add_zero]
        exact k (-1) 12 rfl rfl
  have go15 : ∀ s : Int, (s = 0 ∨ s = 1) → (s = 1 ↔ (x = 2 ∨ x = 3)) → gX8_advance_15 E L d [.ref (sm_B E + a), .int (iI x)] a (iI x) (iI s) m Q := by
    intro s hs0 hs
    refine vX8_advance_15 hd hT ?_
    simp (disch := omega) only [forall_eq, true_and, and_true, false_and, and_false, forall_const, true_implies, implies_true, not_true_eq_false, not_false_eq_true, false_implies, if_true, if_false, ↓reduceIte, Int.toNat_natCast, Int.reduceEq, Int.reduceNe, Int.reduceLT, Int.reduceLE, Int.reduceToNat, Int.reduceAdd, Int.reduceSub, Int.reduceMul, Int.reduceNeg, Nat.reduceAdd, Nat.reduceMul, Nat.reduceSub, iI_lit, jI_lit, iI_add, iI_sub, iI_mul, iI_neg, jI_add, jI_sub, jI_mul, jI_neg, nI_i, lN_j, iI_le, iI_lt, iI_eq, jI_le, jI_lt, jI_eq, iI_in, iI_cl, iI_j, jI_i, cN, inN, wI_eq, wI_ne, wJ_1, wJ_eq, wJ_ne, wI_2, wJ_3, iI_div, iI_rem, jI_div, jI_rem, true_or, or_true, false_or, or_false, eq_self, Nat.add_zero]
    refine ⟨fun q => ?_, fun q => ?_⟩
    · have hx : ¬ (x = 2 ∨ x = 3) := fun hx => by have := hs.mpr hx; omega
      have e2 := (mv_two hx t n).2
      rw [if_neg hx] at l1 l2
      have iff1 : ((lvs t n : Int) + 1 ≤ 24 ∧ (crs t n : Int) + 1 ≤ 24 ∧ (n : Int) + 2 ≤ 60) ↔ fit (mvt t n x) (mvn n x) := by
        unfold fit
        omega
      refine c_hasRoom hT (by omega) hg (by omega) (by omega) (by omega) (by omega) ?_
      by_cases hft : fit (mvt t n x) (mvn n x)
      · rw [if_pos (iff1.mpr hft)]
        exact ⟨fun _ => go45 hft, fun q0 => absurd q0 (by decide)⟩
      · rw [if_neg (fun q => hft (iff1.mp q))]
        exact ⟨fun q0 => absurd rfl q0, fun _ => h0 hft⟩
    · have hx : x = 2 ∨ x = 3 := hs.mp (by omega)
      have e2 := (mv_bare hx t n).2
      rw [if_pos hx] at l1 l2
      have iff1 : ((lvs t n : Int) + 0 ≤ 24 ∧ (crs t n : Int) + 0 ≤ 24 ∧ (n : Int) + 1 ≤ 60) ↔ fit (mvt t n x) (mvn n x) := by
        unfold fit
        omega
      refine c_hasRoom hT (by omega) hg (by omega) (by omega) (by omega) (by omega) ?_
      by_cases hft : fit (mvt t n x) (mvn n x)
      · rw [if_pos (iff1.mpr hft)]
        exact ⟨fun _ => go45 hft, fun q0 => absurd q0 (by decide)⟩
      · rw [if_neg (fun q => hft (iff1.mp q))]
        exact ⟨fun q0 => absurd rfl q0, fun _ => h0 hft⟩
  refine vX8_advance_0 hd hT ?_
  simp (disch := omega) only [forall_eq, true_and, and_true, false_and, and_false, forall_const, true_implies, implies_true, not_true_eq_false, not_false_eq_true, false_implies, if_true, if_false, ↓reduceIte, Int.toNat_natCast, Int.reduceEq, Int.reduceNe, Int.reduceLT, Int.reduceLE, Int.reduceToNat, Int.reduceAdd, Int.reduceSub, Int.reduceMul, Int.reduceNeg, Nat.reduceAdd, Nat.reduceMul, Nat.reduceSub, iI_lit, jI_lit, iI_add, iI_sub, iI_mul, iI_neg, jI_add, jI_sub, jI_mul, jI_neg, nI_i, lN_j, iI_le, iI_lt, iI_eq, jI_le, jI_lt, jI_eq, iI_in, iI_cl, iI_j, jI_i, cN, inN, wI_eq, wI_ne, wJ_1, wJ_eq, wJ_ne, wI_2, wJ_3, iI_div, iI_rem, jI_div, jI_rem, true_or, or_true, false_or, or_false, eq_self, Nat.add_zero]
  exact ⟨fun q => go15 1 (Or.inr rfl) ⟨fun _ => Or.inl q, fun _ => rfl⟩, fun q => ⟨fun q2 => go15 0 (Or.inl rfl) ⟨fun _ => by omega, fun _ => by omega⟩, fun q2 => go15 1 (Or.inr rfl) ⟨fun _ => Or.inr q2, fun _ => rfl⟩⟩⟩
theorem c_settle {Q : Int32 → sm_M → Prop} {a na i n : Nat} {t : Nat → Int} (hly : ∀ S, L S → ly S) (hd : 5 ≤ d) (hT : sm_tan L a na) (ha : a = 3 ∨ a = 14) (hna : n ≤ na) (hna2 : na ≤ 100) (hi : i < 6) (hv : vT t n) (hg : tg m a t n)
    (h : ∀ m', fr (fun b k => meP a b k ∨ tmP (77 + 4 * i) b k) m m' → tgm m' (77 + 4 * i) t n → Q (iI (crs t n : Nat)) m') : sm_callI E L mX11_settle d 0 0 [.ref (sm_B E + 0), .ref (sm_B E + a), .int (iI (i : Nat))] m Q := by
  refine vX11_settle_0 hly hd hT (c_measure hly (by omega) hT (by omega) hna hna2 hv.1 hv.2.1 ⟨hv.2.2.1, hv.2.2.2.1⟩ hg (fun m1 f1 g1 => ?_))
  have hn6 := hv.2.2.2.2
  simp (disch := omega) only [forall_eq, true_and, and_true, false_and, and_false, forall_const, true_implies, implies_true, not_true_eq_false, not_false_eq_true, false_implies, if_true, if_false, ↓reduceIte, Int.toNat_natCast, Int.reduceEq, Int.reduceNe, Int.reduceLT, Int.reduceLE, Int.reduceToNat, Int.reduceAdd, Int.reduceSub, Int.reduceMul, Int.reduceNeg, Nat.reduceAdd, Nat.reduceMul, Nat.reduceSub, iI_lit, jI_lit, iI_add, iI_sub, iI_mul, iI_neg, jI_add, jI_sub, jI_mul, jI_neg, nI_i, lN_j, iI_le, iI_lt, iI_eq, jI_le, jI_lt, jI_eq, iI_in, iI_cl, iI_j, jI_i, cN, inN, wI_eq, wI_ne, wJ_1, wJ_eq, wJ_ne, wI_2, wJ_3, iI_div, iI_rem, jI_div, jI_rem, true_or, or_true, false_or, or_false, eq_self, Nat.add_zero]
  refine ⟨by omega, c_copy (ly_slotT hly hi) hT (by omega) (by omega) hna (by omega) (by omega) (by omega) (by omega) g1 (fun m2 f2 g2 => ?_)⟩
  have g1' := g1.1.fr f2 (fun k _ _ => by unfold tmP; omega) (fun k => by unfold tmP; omega)
  rw [g1'.2.2.2.1]
  exact h m2 ((f1.mono (fun b k hb => Or.inl hb)).tr (f2.mono (fun b k hb => Or.inr hb))) g2
theorem c_isWithinLimits {Q : Int32 → sm_M → Prop} {a na n : Nat} {t : Nat → Int} (hT : sm_tan L a na) (hd : 2 ≤ d) (hg : tg m a t n) (hn : n ≤ 100) (h1 : fit t n → Q (iI 1) m) (h0 : ¬ fit t n → Q (iI 0) m) : sm_callI E L mX8_isWithinLimits d 0 0 [.ref (sm_B E + a)] m Q := by
  refine vX8_isWithinLimits_0 hd hT (c_hasRoom (x := 0) (y := 0) (z := 0) hT (by omega) hg hn (by omega) (by omega) (by omega) ?_)
  by_cases hft : fit t n
  · rw [if_pos (by unfold fit at hft; omega)]
    exact ⟨Or.inr rfl, h1 hft⟩
  · rw [if_neg (by unfold fit at hft; omega)]
    exact ⟨Or.inl rfl, h0 hft⟩
/-! the reference -/
theorem c12_putsMove {Q : sm_M → Prop} {t : Nat → Int} {n : Nat} {x : Int} (hly : ∀ S, L S → ly S) (hd : 2 ≤ d) (hw : wk m t n) (hn : n + 2 ≤ 200) (hx1 : 0 ≤ x) (hx2 : x ≤ 5) (h : ∀ m', fr wkP m m' → wk m' (mvt t n x) (mvn n x) → Q m') : sm_callV E L mX12_putsMove d 0 0 [.ref (sm_B E + 109), .int (iI x)] m Q := by
  refine vX12_putsMove_0 hd ?_
  by_cases hx : x = 2 ∨ x = 3
  · obtain ⟨e1, e2⟩ := mv_bare hx t n
    rw [e1, e2] at h
    have k10 : ∀ vs, gX12_putsMove_10 E L d vs (iI x) m Q := by
      intro vs
      refine vX12_putsMove_10 hly hd ?_
      rcases hx with rfl | rfl
      · simp (disch := omega) only [forall_eq, true_and, and_true, false_and, and_false, forall_const, true_implies, implies_true, not_true_eq_false, not_false_eq_true, false_implies, if_true, if_false, ↓reduceIte, Int.toNat_natCast, Int.reduceEq, Int.reduceNe, Int.reduceLT, Int.reduceLE, Int.reduceToNat, Int.reduceAdd, Int.reduceSub, Int.reduceMul, Int.reduceNeg, Nat.reduceAdd, Nat.reduceMul, Nat.reduceSub, iI_lit, jI_lit, iI_add, iI_sub, iI_mul, iI_neg, jI_add, jI_sub, jI_mul, jI_neg, nI_i, lN_j, iI_le, iI_lt, iI_eq, jI_le, jI_lt, jI_eq, iI_in, iI_cl, iI_j, jI_i, cN, inN, wI_eq, wI_ne, wJ_1, wJ_eq, wJ_ne, wI_2, wJ_3, iI_div, iI_rem, jI_div, jI_rem, true_or, or_true, false_or, or_false, eq_self, Nat.add_zero]
        exact c12_puts (z := 13) hly hw (by omega) (by omega) h
      · simp (disch := omega) only [forall_eq, true_and, and_true, false_and, and_false, forall_const, true_implies, implies_true, not_true_eq_false, not_false_eq_true, false_implies, if_true, if_false, ↓reduceIte, Int.toNat_natCast, Int.reduceEq, Int.reduceNe, Int.reduceLT, Int.reduceLE, Int.reduceToNat, Int.reduceAdd, Int.reduceSub, Int.reduceMul, Int.reduceNeg, Nat.reduceAdd, Nat.reduceMul, Nat.reduceSub, iI_lit, jI_lit, iI_add, iI_sub, iI_mul, iI_neg, jI_add, jI_sub, jI_mul, jI_neg, nI_i, lN_j, iI_le, iI_lt, iI_eq, jI_le, jI_lt, jI_eq, iI_in, iI_cl, iI_j, jI_i, cN, inN, wI_eq, wI_ne, wJ_1, wJ_eq, wJ_ne, wI_2, wJ_3, iI_div, iI_rem, jI_div, jI_rem, true_or, or_true, false_or, or_false, eq_self, Nat.add_zero]
        exact c12_puts (z := 14) hly hw (by omega) (by omega) h
    rcases hx with rfl | rfl
    · simp (disch := omega) only [forall_eq, true_and, and_true, false_and, and_false, forall_const, true_implies, implies_true, not_true_eq_false, not_false_eq_true, false_implies, if_true, if_false, ↓reduceIte, Int.toNat_natCast, Int.reduceEq, Int.reduceNe, Int.reduceLT, Int.reduceLE, Int.reduceToNat, Int.reduceAdd, Int.reduceSub, Int.reduceMul, Int.reduceNeg, Nat.reduceAdd, Nat.reduceMul, Nat.reduceSub, iI_lit, jI_lit, iI_add, iI_sub, iI_mul, iI_neg, jI_add, jI_sub, jI_mul, jI_neg, nI_i, lN_j, iI_le, iI_lt, iI_eq, jI_le, jI_lt, jI_eq, iI_in, iI_cl, iI_j, jI_i, cN, inN, wI_eq, wI_ne, wJ_1, wJ_eq, wJ_ne, wI_2, wJ_3, iI_div, iI_rem, jI_div, jI_rem, true_or, or_true, false_or, or_false, eq_self, Nat.add_zero]
      exact k10 _
    · simp (disch := omega) only [forall_eq, true_and, and_true, false_and, and_false, forall_const, true_implies, implies_true, not_true_eq_false, not_false_eq_true, false_implies, if_true, if_false, ↓reduceIte, Int.toNat_natCast, Int.reduceEq, Int.reduceNe, Int.reduceLT, Int.reduceLE, Int.reduceToNat, Int.reduceAdd, Int.reduceSub, Int.reduceMul, Int.reduceNeg, Nat.reduceAdd, Nat.reduceMul, Nat.reduceSub, iI_lit, jI_lit, iI_add, iI_sub, iI_mul, iI_neg, jI_add, jI_sub, jI_mul, jI_neg, nI_i, lN_j, iI_le, iI_lt, iI_eq, jI_le, jI_lt, jI_eq, iI_in, iI_cl, iI_j, jI_i, cN, inN, wI_eq, wI_ne, wJ_1, wJ_eq, wJ_ne, wI_2, wJ_3, iI_div, iI_rem, jI_div, jI_rem, true_or, or_true, false_or, or_false, eq_self, Nat.add_zero]
      exact k10 _
  · obtain ⟨e1, e2⟩ := mv_two hx t n
    rw [e1, e2] at h
    have k44 : ∀ vs (s : Int), s = mvA x → gX12_putsMove_44 E L d vs (iI x) (iI s) m Q := by
      intro vs s hs
      refine vX12_putsMove_44 hly hd ?_
      have hA := mvA_01 x
      have htA : tc s = s := by rw [tc, if_pos (by omega)]
      have hk := c12_puts (E := E) (L := L) (d := 1) (z := s) (Q := fun m1 => ((2 : Int32) ≤ iI x → sm_callV E L mX12_puts 1 0 0 [.ref (sm_B E + 109), .int 21] m1 (fun m2 => Q m2)) ∧ (¬ (2 : Int32) ≤ iI x → sm_callV E L mX12_puts 1 0 0 [.ref (sm_B E + 109), .int 20] m1 (fun m3 => Q m3))) hly hw (by omega) (by omega) (fun m1 f1 w1 => ?_)
      · rw [htA] at hk
        exact hk
      · simp (disch := omega) only [forall_eq, true_and, and_true, false_and, and_false, forall_const, true_implies, implies_true, not_true_eq_false, not_false_eq_true, false_implies, if_true, if_false, ↓reduceIte, Int.toNat_natCast, Int.reduceEq, Int.reduceNe, Int.reduceLT, Int.reduceLE, Int.reduceToNat, Int.reduceAdd, Int.reduceSub, Int.reduceMul, Int.reduceNeg, Nat.reduceAdd, Nat.reduceMul, Nat.reduceSub, iI_lit, jI_lit, iI_add, iI_sub, iI_mul, iI_neg, jI_add, jI_sub, jI_mul, jI_neg, nI_i, lN_j, iI_le, iI_lt, iI_eq, jI_le, jI_lt, jI_eq, iI_in, iI_cl, iI_j, jI_i, cN, inN, wI_eq, wI_ne, wJ_1, wJ_eq, wJ_ne, wI_2, wJ_3, iI_div, iI_rem, jI_div, jI_rem, true_or, or_true, false_or, or_false, eq_self, Nat.add_zero]
        refine ⟨fun q => c12_puts (z := 12) hly w1 (by omega) (by omega) (fun m2 f2 w2 => h m2 (f1.tr f2) ?_), fun q => c12_puts (z := 11) hly w1 (by omega) (by omega) (fun m2 f2 w2 => h m2 (f1.tr f2) ?_)⟩
        · rw [← hs, show mvO x = 12 from if_neg (by omega)]
          exact w2
        · rw [← hs, show mvO x = 11 from if_pos (by omega)]
          exact w2
    rcases (show x = 0 ∨ x = 1 ∨ x = 4 ∨ x = 5 by omega) with rfl | rfl | rfl | rfl
    · simp (disch := omega) only [forall_eq, true_and, and_true, false_and, and_false, forall_const, true_implies, implies_true, not_true_eq_false, not_false_eq_true, false_implies, if_true, if_false, ↓reduceIte, Int.toNat_natCast, Int.reduceEq, Int.reduceNe, Int.reduceLT, Int.reduceLE, Int.reduceToNat, Int.reduceAdd, Int.reduceSub, Int.reduceMul, Int.reduceNeg, Nat.reduceAdd, Nat.reduceMul, Nat.reduceSub, iI_lit, jI_lit, iI_add, iI_sub, iI_mul, iI_neg, jI_add, jI_sub, jI_mul, jI_neg, nI_i, lN_j, iI_le, iI_lt, iI_eq, jI_le, jI_lt, jI_eq, iI_in, iI_cl, iI_j, jI_i, cN, inN, wI_eq, wI_ne, wJ_1, wJ_eq, wJ_ne, wI_2, wJ_3, iI_div, iI_rem, jI_div, jI_rem, true_or, or_true, false_or, or_false, eq_self, Nat.add_zero]
      exact k44 _ 1 rfl
    · simp (disch := omega) only [forall_eq, true_and, and_true, false_and, and_false, forall_const, true_implies, implies_true, not_true_eq_false, not_false_eq_true, false_implies, if_true, if_false, ↓reduceIte, Int.toNat_natCast, Int.reduceEq, Int.reduceNe, Int.reduceLT, Int.reduceLE, Int.reduceToNat, Int.reduceAdd, Int.reduceSub, Int.reduceMul, Int.reduceNeg, Nat.reduceAdd, Nat.reduceMul, Nat.reduceSub, iI_lit, jI_lit, iI_add, iI_sub, iI_mul, iI_neg, jI_add, jI_sub, jI_mul, jI_neg, nI_i, lN_j, iI_le, iI_lt, iI_eq, jI_le, jI_lt, jI_eq, iI_in, iI_cl, iI_j, jI_i, cN, inN, wI_eq, wI_ne, wJ_1, wJ_eq, wJ_ne, wI_2, wJ_3, iI_div, iI_rem, jI_div, jI_rem, true_or, or_true, false_or, or_false, eq_self, Nat.add_zero]
      exact k44 _ (-1) rfl
    · simp (disch := omega) only [forall_eq, true_and, and_true, false_and, and_false, forall_const, true_implies, implies_true, not_true_eq_false, not_false_eq_true, false_implies, if_true, if_false, ↓reduceIte, Int.toNat_natCast, Int.reduceEq, Int.reduceNe, Int.reduceLT, Int.reduceLE, Int.reduceToNat, Int.reduceAdd, Int.reduceSub, Int.reduceMul, Int.reduceNeg, Nat.reduceAdd, Nat.reduceMul, Nat.reduceSub, iI_lit, jI_lit, iI_add, iI_sub, iI_mul, iI_neg, jI_add, jI_sub, jI_mul, jI_neg, nI_i, lN_j, iI_le, iI_lt, iI_eq, jI_le, jI_lt, jI_eq, iI_in, iI_cl, iI_j, jI_i, cN, inN, wI_eq, wI_ne, wJ_1, wJ_eq, wJ_ne, wI_2, wJ_3, iI_div, iI_rem, jI_div, jI_rem, true_or, or_true, false_or, or_false, eq_self, Nat.add_zero]
      exact k44 _ 1 rfl
    · simp (disch := omega) only [forall_eq, true_and, and_true, false_and, and_false, forall_const, true_implies, implies_true, not_true_eq_false, not_false_eq_true, false_implies, if_true, if_false, ↓reduceIte, Int.toNat_natCast, Int.reduceEq, Int.reduceNe, Int.reduceLT, Int.reduceLE, Int.reduceToNat, Int.reduceAdd, Int.reduceSub, Int.reduceMul, Int.reduceNeg, Nat.reduceAdd, Nat.reduceMul, Nat.reduceSub, iI_lit, jI_lit, iI_add, iI_sub, iI_mul, iI_neg, jI_add, jI_sub, jI_mul, jI_neg, nI_i, lN_j, iI_le, iI_lt, iI_eq, jI_le, jI_lt, jI_eq, iI_in, iI_cl, iI_j, jI_i, cN, inN, wI_eq, wI_ne, wJ_1, wJ_eq, wJ_ne, wI_2, wJ_3, iI_div, iI_rem, jI_div, jI_rem, true_or, or_true, false_or, or_false, eq_self, Nat.add_zero]
      exact k44 _ (-1) rfl
/-- what the reference's fields say of tokens -/
def fdM (m : sm_M) (t : Nat → Int) (n : Nat) : Prop := m.1 109 26 = iI (lvs t n : Nat) ∧ m.1 109 27 = iI (crs t n : Nat) ∧ m.2.1 109 23 = jI (Tt t n) ∧ m.2.1 109 24 = jI (Tb t n) ∧ m.1 109 28 = iI (Td t n) ∧ m.1 109 25 = iI (Tr t n)
theorem fdM.fr {P : Nat → Nat → Prop} {m m' : sm_M} {n : Nat} {t : Nat → Int} (h : fdM m t n) (hf : fr P m m') (h1 : ∀ k, 23 ≤ k → k ≤ 28 → ¬ P 109 k) : fdM m' t n :=
  ⟨(hf.i (h1 _ (by decide) (by decide))).trans h.1, (hf.i (h1 _ (by decide) (by decide))).trans h.2.1, (hf.j (h1 _ (by decide) (by decide))).trans h.2.2.1, (hf.j (h1 _ (by decide) (by decide))).trans h.2.2.2.1, (hf.i (h1 _ (by decide) (by decide))).trans h.2.2.2.2.1, (hf.i (h1 _ (by decide) (by decide))).trans h.2.2.2.2.2⟩
theorem wk.fr {P : Nat → Nat → Prop} {m m' : sm_M} {n : Nat} {t : Nat → Int} (h : wk m t n) (hf : fr P m m') (h1 : ¬ P 109 6) (h2 : ∀ k, ¬ P 115 k) : wk m' t n := ⟨(hf.i h1).trans h.1, fun k hk => (hf.i (h2 _)).trans (h.2 k hk)⟩
theorem c12_isTooMuch {Q : Int32 → sm_M → Prop} {t : Nat → Int} {n : Nat} (hly : ∀ S, L S → ly S) (hd : 3 ≤ d) (hw : wk m t n) (hn : n ≤ 150) (hok : okT t n) (hh : 1 ≤ (ev t n).1) (h1 : fit t n → ∀ m', fr mmP m m' → Q (iI 0) m') (h0 : ¬ fit t n → ∀ m', fr mmP m m' → Q (iI 1) m') : sm_callI E L mX12_isTooMuch d 0 0 [.ref (sm_B E + 109)] m Q := by
  have l1 := lvs_le t n
  have l2 := crs_le hok.tok
  refine vX12_isTooMuch_0 hly hd ?_
  rw [hw.1]
  refine c12_measures (a := 115) (f := 0) (na := 200) hly (by omega) (ly_a hly 115 11 200 rfl) (Or.inr rfl) (by omega) (by omega) hn hok hh (fun k hk => by rw [Nat.zero_add]; exact hw.2 k hk) (fun m1 f1 e1 e2 e3 e4 e5 e6 => ?_)
  have hw1 := hw.fr f1 (by unfold mmP; omega) (fun k => by unfold mmP; omega)
  rw [e1, e2, hw1.1]
  simp (disch := omega) only [forall_eq, true_and, and_true, false_and, and_false, forall_const, true_implies, implies_true, not_true_eq_false, not_false_eq_true, false_implies, if_true, if_false, ↓reduceIte, Int.toNat_natCast, Int.reduceEq, Int.reduceNe, Int.reduceLT, Int.reduceLE, Int.reduceToNat, Int.reduceAdd, Int.reduceSub, Int.reduceMul, Int.reduceNeg, Nat.reduceAdd, Nat.reduceMul, Nat.reduceSub, iI_lit, jI_lit, iI_add, iI_sub, iI_mul, iI_neg, jI_add, jI_sub, jI_mul, jI_neg, nI_i, lN_j, iI_le, iI_lt, iI_eq, jI_le, jI_lt, jI_eq, iI_in, iI_cl, iI_j, jI_i, cN, inN, wI_eq, wI_ne, wJ_1, wJ_eq, wJ_ne, wI_2, wJ_3, iI_div, iI_rem, jI_div, jI_rem, true_or, or_true, false_or, or_false, eq_self, Nat.add_zero]
  unfold fit at h1 h0
  exact ⟨fun q => h0 (by omega) m1 f1, fun q => ⟨fun q2 => h0 (by omega) m1 f1, fun q2 => ⟨fun q3 => h1 (by omega) m1 f1, fun q3 => h0 (by omega) m1 f1⟩⟩⟩
theorem c12_measured {Q : sm_M → Prop} {t : Nat → Int} {n i : Nat} (hly : ∀ S, L S → ly S) (hd : 3 ≤ d) (hh : hl m i t n) (hi : i < 6) (hv : vT t n) (h : ∀ m', fr mmP m m' → fdM m' t n → Q m') : sm_callV E L mX12_measured d 0 0 [.ref (sm_B E + 109), .int (iI (i : Nat))] m Q := by
  have hn := hv.2.2.2.2
  have hc := hv.2.2.2.1
  refine vX12_measured_0 hly hd ?_
  have e : (60 : Int32) * iI (i : Nat) = iI ((60 * i : Nat) : Int) := by
    rw [iI_lit, iI_mul]
    rfl
  rw [e, cN (by omega), hh.1, inN (by omega)]
  refine ⟨hi, c12_measures (a := 111) (f := 60 * i) (na := 360) hly (by omega) (ly_a hly 111 11 360 rfl) (Or.inl rfl) (by omega) (by omega) (by omega) hv.1 (by rw [hv.2.1]; decide) hh.2 (fun m1 f1 e1 e2 e3 e4 e5 e6 => h m1 f1 ⟨e1, e2, e3, e4, e5, e6 (by omega)⟩)⟩
def ctP (i : Nat) : Nat → Nat → Prop := fun b k => mmP b k ∨ (b = 112 ∧ k = i) ∨ (b = 111 ∧ 60 * i ≤ k ∧ k < 60 * i + 60)
theorem c12_comesTo_loop {Q : Int32 → sm_M → Prop} {vs : List Value} {t : Nat → Int} {n i : Nat} (hly : ∀ S, L S → ly S) (hd : 4 ≤ d) (hi : i < 6) (hv : vT t n) (m0 : sm_M) (hw0 : wk m0 t n) (h : ∀ m', fr (ctP i) m0 m' → hl m' i t n → fdM m' t n → Q (iI (crs t n : Nat)) m') :
    ∀ (r j : Nat) (m : sm_M), j + r = n → fr (ctP i) m0 m → m.1 112 i = iI (n : Nat) → (∀ k, k < j → m.1 111 (60 * i + k) = iI (tc (t k))) → gX12_comesTo_12 E L d vs (iI (i : Nat)) (iI (j : Nat)) m Q := by
  have hn := hv.2.2.2.2
  intro r
  induction r with
  | zero =>
    intro j m hj hf h1 h2
    have hjn : j = n := by omega
    subst hjn
    have hw := hw0.fr hf (by unfold ctP mmP; omega) (fun k => by unfold ctP mmP; omega)
    refine vX12_comesTo_12 hly hd ⟨fun _ => ?_, fun hc => ?_⟩
    · refine c12_measured hly (by omega) ⟨h1, h2⟩ hi hv (fun m1 f1 g1 => ?_)
      rw [g1.2.1]
      exact h m1 (hf.tr (f1.mono (fun b k hb => Or.inl hb))) ((show hl m i t j from ⟨h1, h2⟩).fr f1 (by unfold mmP; omega) (fun k => by unfold mmP; omega)) g1
    · rw [hw.1] at hc
      exact absurd (Int32.le_refl _) hc
  | succ r ih =>
    intro j m hj hf h1 h2
    have hw := hw0.fr hf (by unfold ctP mmP; omega) (fun k => by unfold ctP mmP; omega)
    have hw1 := hw.1
    have hw2 := hw.2 j (by omega)
    have e5 : ((j : Nat) : Int) + 1 = ((j + 1 : Nat) : Int) := by omega
    have e6 : (60 : Int) * ((i : Nat) : Int) + ((j : Nat) : Int) = ((60 * i + j : Nat) : Int) := by omega
    refine vX12_comesTo_12 hly hd ?_
    simp (disch := omega) only [forall_eq, true_and, and_true, false_and, and_false, forall_const, true_implies, implies_true, not_true_eq_false, not_false_eq_true, false_implies, if_true, if_false, ↓reduceIte, Int.toNat_natCast, Int.reduceEq, Int.reduceNe, Int.reduceLT, Int.reduceLE, Int.reduceToNat, Int.reduceAdd, Int.reduceSub, Int.reduceMul, Int.reduceNeg, Nat.reduceAdd, Nat.reduceMul, Nat.reduceSub, iI_lit, jI_lit, iI_add, iI_sub, iI_mul, iI_neg, jI_add, jI_sub, jI_mul, jI_neg, nI_i, lN_j, iI_le, iI_lt, iI_eq, jI_le, jI_lt, jI_eq, iI_in, iI_cl, iI_j, jI_i, cN, inN, wI_eq, wI_ne, wJ_1, wJ_eq, wJ_ne, wI_2, wJ_3, iI_div, iI_rem, jI_div, jI_rem, true_or, or_true, false_or, or_false, eq_self, Nat.add_zero, hw1, hw2, e5, e6]
    refine ⟨fun q => by omega, fun q => ⟨by omega, by omega, ih (j + 1) _ (by omega) (hf.wI (Or.inr (Or.inr (by omega)))) ?_ (fun k hk => ?_)⟩⟩
    · simp (disch := omega) only [forall_eq, true_and, and_true, false_and, and_false, forall_const, true_implies, implies_true, not_true_eq_false, not_false_eq_true, false_implies, if_true, if_false, ↓reduceIte, Int.toNat_natCast, Int.reduceEq, Int.reduceNe, Int.reduceLT, Int.reduceLE, Int.reduceToNat, Int.reduceAdd, Int.reduceSub, Int.reduceMul, Int.reduceNeg, Nat.reduceAdd, Nat.reduceMul, Nat.reduceSub, iI_lit, jI_lit, iI_add, iI_sub, iI_mul, iI_neg, jI_add, jI_sub, jI_mul, jI_neg, nI_i, lN_j, iI_le, iI_lt, iI_eq, jI_le, jI_lt, jI_eq, iI_in, iI_cl, iI_j, jI_i, cN, inN, wI_eq, wI_ne, wJ_1, wJ_eq, wJ_ne, wI_2, wJ_3, iI_div, iI_rem, jI_div, jI_rem, true_or, or_true, false_or, or_false, eq_self, Nat.add_zero, h1]
    · by_cases hkj : k = j
      · subst hkj
        simp (disch := omega) only [forall_eq, true_and, and_true, false_and, and_false, forall_const, true_implies, implies_true, not_true_eq_false, not_false_eq_true, false_implies, if_true, if_false, ↓reduceIte, Int.toNat_natCast, Int.reduceEq, Int.reduceNe, Int.reduceLT, Int.reduceLE, Int.reduceToNat, Int.reduceAdd, Int.reduceSub, Int.reduceMul, Int.reduceNeg, Nat.reduceAdd, Nat.reduceMul, Nat.reduceSub, iI_lit, jI_lit, iI_add, iI_sub, iI_mul, iI_neg, jI_add, jI_sub, jI_mul, jI_neg, nI_i, lN_j, iI_le, iI_lt, iI_eq, jI_le, jI_lt, jI_eq, iI_in, iI_cl, iI_j, jI_i, cN, inN, wI_eq, wI_ne, wJ_1, wJ_eq, wJ_ne, wI_2, wJ_3, iI_div, iI_rem, jI_div, jI_rem, true_or, or_true, false_or, or_false, eq_self, Nat.add_zero]
      · simp (disch := omega) only [forall_eq, true_and, and_true, false_and, and_false, forall_const, true_implies, implies_true, not_true_eq_false, not_false_eq_true, false_implies, if_true, if_false, ↓reduceIte, Int.toNat_natCast, Int.reduceEq, Int.reduceNe, Int.reduceLT, Int.reduceLE, Int.reduceToNat, Int.reduceAdd, Int.reduceSub, Int.reduceMul, Int.reduceNeg, Nat.reduceAdd, Nat.reduceMul, Nat.reduceSub, iI_lit, jI_lit, iI_add, iI_sub, iI_mul, iI_neg, jI_add, jI_sub, jI_mul, jI_neg, nI_i, lN_j, iI_le, iI_lt, iI_eq, jI_le, jI_lt, jI_eq, iI_in, iI_cl, iI_j, jI_i, cN, inN, wI_eq, wI_ne, wJ_1, wJ_eq, wJ_ne, wI_2, wJ_3, iI_div, iI_rem, jI_div, jI_rem, true_or, or_true, false_or, or_false, eq_self, Nat.add_zero]
        exact h2 k (by omega)
theorem c12_comesTo {Q : Int32 → sm_M → Prop} {t : Nat → Int} {n i : Nat} (hly : ∀ S, L S → ly S) (hd : 4 ≤ d) (hw : wk m t n) (hi : i < 6) (hv : vT t n) (h : ∀ m', fr (ctP i) m m' → hl m' i t n → fdM m' t n → Q (iI (crs t n : Nat)) m') : sm_callI E L mX12_comesTo d 0 0 [.ref (sm_B E + 109), .int (iI (i : Nat))] m Q := by
  refine vX12_comesTo_0 hly hd ?_
  rw [hw.1]
  simp (disch := omega) only [forall_eq, true_and, and_true, false_and, and_false, forall_const, true_implies, implies_true, not_true_eq_false, not_false_eq_true, false_implies, if_true, if_false, ↓reduceIte, Int.toNat_natCast, Int.reduceEq, Int.reduceNe, Int.reduceLT, Int.reduceLE, Int.reduceToNat, Int.reduceAdd, Int.reduceSub, Int.reduceMul, Int.reduceNeg, Nat.reduceAdd, Nat.reduceMul, Nat.reduceSub, iI_lit, jI_lit, iI_add, iI_sub, iI_mul, iI_neg, jI_add, jI_sub, jI_mul, jI_neg, nI_i, lN_j, iI_le, iI_lt, iI_eq, jI_le, jI_lt, jI_eq, iI_in, iI_cl, iI_j, jI_i, cN, inN, wI_eq, wI_ne, wJ_1, wJ_eq, wJ_ne, wI_2, wJ_3, iI_div, iI_rem, jI_div, jI_rem, true_or, or_true, false_or, or_false, eq_self, Nat.add_zero]
  have h9 := c12_comesTo_loop (E := E) (vs := [.ref (sm_B E + 109), .int (iI (i : Nat))]) hly hd hi hv m hw h n 0 (sm_wI m 112 i (iI (n : Nat))) (by omega) (fr.rf.wI (Or.inr (Or.inl ⟨rfl, rfl⟩))) (by simp (disch := omega) only [forall_eq, true_and, and_true, false_and, and_false, forall_const, true_implies, implies_true, not_true_eq_false, not_false_eq_true, false_implies, if_true, if_false, ↓reduceIte, Int.toNat_natCast, Int.reduceEq, Int.reduceNe, Int.reduceLT, Int.reduceLE, Int.reduceToNat, Int.reduceAdd, Int.reduceSub, Int.reduceMul, Int.reduceNeg, Nat.reduceAdd, Nat.reduceMul, Nat.reduceSub, iI_lit, jI_lit, iI_add, iI_sub, iI_mul, iI_neg, jI_add, jI_sub, jI_mul, jI_neg, nI_i, lN_j, iI_le, iI_lt, iI_eq, jI_le, jI_lt, jI_eq, iI_in, iI_cl, iI_j, jI_i, cN, inN, wI_eq, wI_ne, wJ_1, wJ_eq, wJ_ne, wI_2, wJ_3, iI_div, iI_rem, jI_div, jI_rem, true_or, or_true, false_or, or_false, eq_self, Nat.add_zero]) (fun k hk => absurd hk (Nat.not_lt_zero _))
  exact ⟨by omega, h9⟩
theorem gcd_le_l {a b : Int} {c : Nat} (h : a.natAbs + b.natAbs ≤ c) : Int.gcd a b ≤ c := by
  by_cases hA0 : a = 0
  · subst hA0
    rw [Int.gcd_zero_left]
    omega
  · have := Int.gcd_le_natAbs_left b hA0
    omega
theorem c12_fractionOf {Q : Int32 → sm_M → Prop} {a b : Int} (hly : ∀ S, L S → ly S) (hd : 2 ≤ d) (hb : a.natAbs + b.natAbs ≤ 4000000000) (h : ∀ m', fr (fun c k => c = 109 ∧ (k = 29 ∨ k = 30)) m m' → (Int.gcd a b ≠ 0 → m'.2.1 109 29 = jI (fP a b) ∧ m'.2.1 109 30 = jI (fQ a b)) → Q (iI (if Int.gcd a b = 0 then 0 else 1)) m') : sm_callI E L mX12_fractionOf d 0 0 [.ref (sm_B E + 109), .long (jI a), .long (jI b)] m Q := by
  have hgl := gcd_le_l hb
  refine vX12_fractionOf_0 hly hd (c12_divisor (by omega) (by omega) (by omega) (by omega) (by omega) ?_)
  have fb : fby a b = if b < 0 ∨ (b = 0 ∧ a < 0) then -(Int.gcd a b : Int) else (Int.gcd a b : Int) := rfl
  generalize Int.gcd a b = g at *
  simp (disch := omega) only [forall_eq, true_and, and_true, false_and, and_false, forall_const, true_implies, implies_true, not_true_eq_false, not_false_eq_true, false_implies, if_true, if_false, ↓reduceIte, Int.toNat_natCast, Int.reduceEq, Int.reduceNe, Int.reduceLT, Int.reduceLE, Int.reduceToNat, Int.reduceAdd, Int.reduceSub, Int.reduceMul, Int.reduceNeg, Nat.reduceAdd, Nat.reduceMul, Nat.reduceSub, iI_lit, jI_lit, iI_add, iI_sub, iI_mul, iI_neg, jI_add, jI_sub, jI_mul, jI_neg, nI_i, lN_j, iI_le, iI_lt, iI_eq, jI_le, jI_lt, jI_eq, iI_in, iI_cl, iI_j, jI_i, cN, inN, wI_eq, wI_ne, wJ_1, wJ_eq, wJ_ne, wI_2, wJ_3, iI_div, iI_rem, jI_div, jI_rem, true_or, or_true, false_or, or_false, eq_self, Nat.add_zero]
  refine ⟨fun hg => ?_, fun hg => ?_⟩
  · rw [if_neg (by omega)] at h
    have go : ∀ vs (s : Int), s = fby a b → gX12_fractionOf_52 E L d vs (jI a) (jI b) (jI s) m Q := by
      intro vs s hs
      have hs0 : s ≠ 0 ∧ -4000000000 ≤ s ∧ s ≤ 4000000000 := by
        rw [hs, fb]
        split <;> omega
      refine vX12_fractionOf_52 hly hd ?_
      simp (disch := omega) only [forall_eq, true_and, and_true, false_and, and_false, forall_const, true_implies, implies_true, not_true_eq_false, not_false_eq_true, false_implies, if_true, if_false, ↓reduceIte, Int.toNat_natCast, Int.reduceEq, Int.reduceNe, Int.reduceLT, Int.reduceLE, Int.reduceToNat, Int.reduceAdd, Int.reduceSub, Int.reduceMul, Int.reduceNeg, Nat.reduceAdd, Nat.reduceMul, Nat.reduceSub, iI_lit, jI_lit, iI_add, iI_sub, iI_mul, iI_neg, jI_add, jI_sub, jI_mul, jI_neg, nI_i, lN_j, iI_le, iI_lt, iI_eq, jI_le, jI_lt, jI_eq, iI_in, iI_cl, iI_j, jI_i, cN, inN, wI_eq, wI_ne, wJ_1, wJ_eq, wJ_ne, wI_2, wJ_3, iI_div, iI_rem, jI_div, jI_rem, true_or, or_true, false_or, or_false, eq_self, Nat.add_zero]
      refine ⟨hs0.1, hs0.1, h _ ((fr.rf.wJ ⟨rfl, Or.inl rfl⟩).wJ ⟨rfl, Or.inr rfl⟩) (fun _ => ⟨?_, ?_⟩)⟩
      · simp (disch := omega) only [forall_eq, true_and, and_true, false_and, and_false, forall_const, true_implies, implies_true, not_true_eq_false, not_false_eq_true, false_implies, if_true, if_false, ↓reduceIte, Int.toNat_natCast, Int.reduceEq, Int.reduceNe, Int.reduceLT, Int.reduceLE, Int.reduceToNat, Int.reduceAdd, Int.reduceSub, Int.reduceMul, Int.reduceNeg, Nat.reduceAdd, Nat.reduceMul, Nat.reduceSub, iI_lit, jI_lit, iI_add, iI_sub, iI_mul, iI_neg, jI_add, jI_sub, jI_mul, jI_neg, nI_i, lN_j, iI_le, iI_lt, iI_eq, jI_le, jI_lt, jI_eq, iI_in, iI_cl, iI_j, jI_i, cN, inN, wI_eq, wI_ne, wJ_1, wJ_eq, wJ_ne, wI_2, wJ_3, iI_div, iI_rem, jI_div, jI_rem, true_or, or_true, false_or, or_false, eq_self, Nat.add_zero, fP, hs]
      · simp (disch := omega) only [forall_eq, true_and, and_true, false_and, and_false, forall_const, true_implies, implies_true, not_true_eq_false, not_false_eq_true, false_implies, if_true, if_false, ↓reduceIte, Int.toNat_natCast, Int.reduceEq, Int.reduceNe, Int.reduceLT, Int.reduceLE, Int.reduceToNat, Int.reduceAdd, Int.reduceSub, Int.reduceMul, Int.reduceNeg, Nat.reduceAdd, Nat.reduceMul, Nat.reduceSub, iI_lit, jI_lit, iI_add, iI_sub, iI_mul, iI_neg, jI_add, jI_sub, jI_mul, jI_neg, nI_i, lN_j, iI_le, iI_lt, iI_eq, jI_le, jI_lt, jI_eq, iI_in, iI_cl, iI_j, jI_i, cN, inN, wI_eq, wI_ne, wJ_1, wJ_eq, wJ_ne, wI_2, wJ_3, iI_div, iI_rem, jI_div, jI_rem, true_or, or_true, false_or, or_false, eq_self, Nat.add_zero, fQ, hs]
    refine ⟨fun q1 => go _ _ ?_, fun q1 => ⟨fun q2 => go _ _ ?_, fun q2 => ⟨fun q3 => go _ _ ?_, fun q3 => go _ _ ?_⟩⟩⟩
    · rw [fb, if_pos (Or.inl q1)]
    · rw [fb, if_neg (by omega)]
    · rw [fb, if_neg (by omega)]
    · rw [fb, if_pos (Or.inr ⟨q2, by omega⟩)]
  · rw [if_pos (by omega)] at h
    exact h _ ((fr.rf.wJ ⟨rfl, Or.inl rfl⟩).wJ ⟨rfl, Or.inr rfl⟩) (fun hn => absurd (by omega) hn)
def frP : Nat → Nat → Prop := fun b k => mmP b k ∨ (b = 109 ∧ (k = 29 ∨ k = 30))
theorem c12_fraction {Q : Int32 → sm_M → Prop} {t : Nat → Int} {n i : Nat} (hly : ∀ S, L S → ly S) (hd : 4 ≤ d) (hh : hl m i t n) (hi : i < 6) (hv : vT t n) (h : ∀ m', fr frP m m' → fdM m' t n → (Int.gcd (Tt t n) (Tb t n) ≠ 0 → m'.2.1 109 29 = jI (fP (Tt t n) (Tb t n)) ∧ m'.2.1 109 30 = jI (fQ (Tt t n) (Tb t n))) → Q (iI (if Int.gcd (Tt t n) (Tb t n) = 0 then 0 else 1)) m') : sm_callI E L mX12_fraction d 0 0 [.ref (sm_B E + 109), .int (iI (i : Nat))] m Q := by
  have hbd := hv.bd
  refine vX12_fraction_0 hly hd (c12_measured hly (by omega) hh hi hv (fun m1 f1 g1 => ?_))
  rw [g1.2.2.1, g1.2.2.2.1]
  refine c12_fractionOf hly (by omega) (by omega) (fun m2 f2 r2 => ⟨?_, ?_⟩)
  · split
    · exact Or.inl rfl
    · exact Or.inr rfl
  · exact h m2 ((f1.mono (fun b k hb => Or.inl hb)).tr (f2.mono (fun b k hb => Or.inr hb))) (g1.fr f2 (fun k h1 h2 => by omega)) r2
end MOV
