/-! the class reads a text: signs between, the end, and the whole -/
section TX3
variable {E : sm_E} {L : sm_S → Prop} {d : Nat} {m m0 : sm_M} {b : Nat → Int} {N : Nat}
theorem cs.fr {t : Nat → Int} {n o : Nat} {P : List Int} (h : cs m0 m t n P o) : fr rdP m0 m := by
  rcases h with h | ⟨_, _, _, _, h⟩
  · exact h.1
  · exact h.1
theorem c_endSumS {Q : sm_M → Prop} {t : Nat → Int} {n o : Nat} {P : List Int} (hly : ∀ S, L S → ly S) (hT : sm_tan L 14 100) (hd : 3 ≤ d) (hs : cs m0 m t n P o) (hp : tp P ≠ 43) (hl : P.length + n ≤ 100) (h : ∀ m', ck m0 m' t n P o → Q m') : sm_callV E L mX9_endSum d 0 0 [.ref (sm_B E + 10)] m Q := by
  rcases hs with hc | ⟨t1, n1, e1, e2, hc⟩
  · exact c_endSum hly hT hd hc hl (fun _ => h m hc) (fun P' e => absurd (by rw [e]; rfl) hp)
  · subst e1
    subst e2
    refine c_endSum hly hT hd hc (by rw [List.length_cons]; omega) (fun q => absurd rfl q) (fun P' e m' hc' => ?_)
    cases e
    exact h m' hc'
/-- at a sign: what the reader does -/
theorem t_at {Q : Int32 → sm_M → Prop} {vs : List Value} {i : Nat} (hly : ∀ S, L S → ly S) (hd : 5 ≤ d) (hb : base m0 b N) (hf : fr rdP m0 m) (hi : i < N) (h : gX9_readText_76 E L d vs 0 (iI (i : Nat)) (iI (b i)) m Q) : gX9_readText_21 E L d vs 0 (iI (i : Nat)) m Q := by
  have hN := hb.1
  have hlen := hb.len (t := b) (n := 0) (o := 0) (P := []) hf
  have hat := hb.at hf hi
  refine vX9_readText_21 hly hd ⟨fun z => ?_, fun _ => ⟨?_, ?_⟩⟩
  · rw [hlen] at z
    simp (disch := omega) only [forall_eq, true_and, and_true, false_and, and_false, forall_const, true_implies, implies_true, not_true_eq_false, not_false_eq_true, false_implies, if_true, if_false, ↓reduceIte, Int.toNat_natCast, Int.reduceEq, Int.reduceNe, Int.reduceLT, Int.reduceLE, Int.reduceToNat, Int.reduceAdd, Int.reduceSub, Int.reduceMul, Int.reduceNeg, Nat.reduceAdd, Nat.reduceMul, Nat.reduceSub, iI_lit, jI_lit, iI_add, iI_sub, iI_mul, iI_neg, jI_add, jI_sub, jI_mul, jI_neg, nI_i, lN_j, iI_le, iI_lt, iI_eq, jI_le, jI_lt, jI_eq, iI_in, iI_cl, iI_j, jI_i, cN, inN, wI_eq, wI_ne, wJ_1, wJ_eq, wJ_ne, wI_2, wJ_3, iI_div, iI_rem, jI_div, jI_rem, true_or, or_true, false_or, or_false, eq_self, Nat.add_zero] at z
    omega
  · simp (disch := omega) only [forall_eq, true_and, and_true, false_and, and_false, forall_const, true_implies, implies_true, not_true_eq_false, not_false_eq_true, false_implies, if_true, if_false, ↓reduceIte, Int.toNat_natCast, Int.reduceEq, Int.reduceNe, Int.reduceLT, Int.reduceLE, Int.reduceToNat, Int.reduceAdd, Int.reduceSub, Int.reduceMul, Int.reduceNeg, Nat.reduceAdd, Nat.reduceMul, Nat.reduceSub, iI_lit, jI_lit, iI_add, iI_sub, iI_mul, iI_neg, jI_add, jI_sub, jI_mul, jI_neg, nI_i, lN_j, iI_le, iI_lt, iI_eq, jI_le, jI_lt, jI_eq, iI_in, iI_cl, iI_j, jI_i, cN, inN, wI_eq, wI_ne, wJ_1, wJ_eq, wJ_ne, wI_2, wJ_3, iI_div, iI_rem, jI_div, jI_rem, true_or, or_true, false_or, or_false, eq_self, Nat.add_zero]
    omega
  intro x3 e3
  rw [cN (by omega), hat] at e3
  subst e3
  exact ⟨fun _ => h, fun z => absurd rfl z⟩
theorem t_star {Q : Int32 → sm_M → Prop} {vs : List Value} {t : Nat → Int} {n o i : Nat} {P : List Int} (hly : ∀ S, L S → ly S) (hd : 5 ≤ d) (hb : base m0 b N) (hc : ck m0 m t n P o) (hi : i < N) (hx : b i = 42) (hl : P.length + n ≤ i) (h : ∀ m', ck m0 m' t n (42 :: P) o → gX9_readText_21 E L d vs 1 (iI ((i + 1 : Nat) : Int)) m' Q) : gX9_readText_21 E L d vs 0 (iI (i : Nat)) m Q := by
  have hN := hb.1
  have e5 : ((i : Nat) : Int) + 1 = ((i + 1 : Nat) : Int) := by omega
  refine t_at hly hd hb hc.1 hi ?_
  rw [hx]
  refine vX9_readText_76 hly hd ⟨fun _ => ⟨fun _ => ⟨fun z => absurd z (by decide), fun _ => ⟨fun z => absurd rfl z, fun _ => ?_⟩⟩, fun z => absurd z (by decide)⟩, fun z => absurd rfl z⟩
  refine vX9_readText_150 hly hd ⟨fun _ => ?_, fun z => absurd z (by decide)⟩
  refine c_postpone (P := P) (t := t) (n := n) (o := o) hly (by omega) hc.2.2.1 (by omega) ?_
  intro x2 e2
  rw [iI_lit, iI_add, e5] at e2
  subst e2
  exact h _ (hc.push (by decide) (by decide))
theorem t_plus {Q : Int32 → sm_M → Prop} {vs : List Value} {t : Nat → Int} {n o i : Nat} {P : List Int} (hly : ∀ S, L S → ly S) (hT : sm_tan L 14 100) (hd : 5 ≤ d) (hb : base m0 b N) (hs : cs m0 m t n P o) (hp : tp P ≠ 43) (hi : i < N) (hx : b i = 43) (hl : P.length + n ≤ i) (h : ∀ m', ck m0 m' t n (43 :: P) o → gX9_readText_21 E L d vs 1 (iI ((i + 1 : Nat) : Int)) m' Q) : gX9_readText_21 E L d vs 0 (iI (i : Nat)) m Q := by
  have hN := hb.1
  have e5 : ((i : Nat) : Int) + 1 = ((i + 1 : Nat) : Int) := by omega
  refine t_at hly hd hb hs.fr hi ?_
  rw [hx]
  refine vX9_readText_76 hly hd ⟨fun _ => ⟨fun _ => ⟨fun _ => ?_, fun z => absurd rfl z⟩, fun z => absurd z (by decide)⟩, fun z => absurd rfl z⟩
  refine vX9_readText_150 hly hd ⟨fun z => absurd rfl z, fun _ => c_endSumS hly hT (by omega) hs hp (by omega) (fun m' hc => ?_)⟩
  refine c_postpone (P := P) (t := t) (n := n) (o := o) hly (by omega) hc.2.2.1 (by omega) ?_
  intro x2 e2
  rw [iI_lit, iI_add, e5] at e2
  subst e2
  exact h _ (hc.push (by decide) (by decide))
/-- a closing sign, and what is none of the signs -/
theorem t_shut {Q : Int32 → sm_M → Prop} {vs : List Value} {t : Nat → Int} {n o i : Nat} {P : List Int} (hly : ∀ S, L S → ly S) (hT : sm_tan L 14 100) (hd : 5 ≤ d) (hb : base m0 b N) (hs : cs m0 m t n (40 :: P) (o + 1)) (ho : o + 1 ≤ 6) (hi : i < N) (hx : b i = 41) (hl : P.length + 1 + n ≤ i) (h : ∀ m', ckx m0 m' (eU P t n o) → gX9_readText_21 E L d vs 0 (iI ((i + 1 : Nat) : Int)) m' Q) : gX9_readText_21 E L d vs 0 (iI (i : Nat)) m Q := by
  have hN := hb.1
  have e5 : ((i : Nat) : Int) + 1 = ((i + 1 : Nat) : Int) := by omega
  have e7 : ((o + 1 : Nat) : Int) - 1 = ((o : Nat) : Int) := by omega
  have e6 : (((40 :: P : List Int).length : Nat) : Int) - 1 = (P.length : Nat) := by rw [List.length_cons]; omega
  refine t_at hly hd hb hs.fr hi ?_
  rw [hx]
  refine vX9_readText_76 hly hd ⟨fun _ => ⟨fun z => absurd rfl z, fun _ => ?_⟩, fun z => absurd rfl z⟩
  refine vX9_closes_0 hly (by omega) (c_endSumS hly hT (by omega) hs (show (40 : Int) ≠ 43 by decide) (by rw [List.length_cons]; omega) (fun m1 hc => ?_))
  refine c_isWaiting (x := 40) hly (by omega) hc (by rw [List.length_cons]; omega) (by decide) (by decide) ?_
  rw [if_pos (show tp (40 :: P) = 40 from rfl)]
  refine ⟨fun _ => ?_, fun z => absurd z (by decide)⟩
  have hc2 := hc.shut (Or.inl rfl)
  intro m4 e4 m5 e5'
  rw [hc.2.2.1, iI_lit, iI_sub, e6] at e4
  subst e4
  rw [wI_ne (by omega), hc.2.2.2.2.1, iI_lit, iI_sub, e7] at e5'
  subst e5'
  refine c_endUnit hly hT (by omega) hc2 (by omega) (by omega) (fun m' h' => ⟨fun _ x2 e2 => ?_, fun z => absurd z (by decide)⟩)
  rw [iI_lit, iI_add, e5] at e2
  subst e2
  exact h m' h'
theorem t_stop {Q : Int32 → sm_M → Prop} {vs : List Value} {t : Nat → Int} {n o i : Nat} {P : List Int} (hly : ∀ S, L S → ly S) (hT : sm_tan L 14 100) (hd : 5 ≤ d) (hb : base m0 b N) (hs : cs m0 m t n P o) (hp : tp P ≠ 43) (hi : i ≤ N) (hl : P.length + n ≤ i) (h1 : bt b N i ≠ 42) (h2 : bt b N i ≠ 43) (h3 : bt b N i = 41 → tp P ≠ 40) (hP : i = N → P ≠ []) (h : ∀ m', fr rdP m0 m' → Q (iI (i : Nat)) m') : gX9_readText_21 E L d vs 0 (iI (i : Nat)) m Q := by
  have hN := hb.1
  rcases Nat.lt_or_eq_of_le hi with hlt | heq
  · have hbi := hb.2.2 i hlt
    have eb : bt b N i = b i := if_pos hlt
    rw [eb] at h1 h2 h3
    refine t_at hly hd hb hs.fr hlt (vX9_readText_76 hly hd ⟨fun _ => ⟨fun _ => ⟨fun z => ?_, fun _ => ⟨fun _ => h m hs.fr, fun z => ?_⟩⟩, fun z => ?_⟩, fun z => absurd rfl z⟩)
    · simp (disch := omega) only [forall_eq, true_and, and_true, false_and, and_false, forall_const, true_implies, implies_true, not_true_eq_false, not_false_eq_true, false_implies, if_true, if_false, ↓reduceIte, Int.toNat_natCast, Int.reduceEq, Int.reduceNe, Int.reduceLT, Int.reduceLE, Int.reduceToNat, Int.reduceAdd, Int.reduceSub, Int.reduceMul, Int.reduceNeg, Nat.reduceAdd, Nat.reduceMul, Nat.reduceSub, iI_lit, jI_lit, iI_add, iI_sub, iI_mul, iI_neg, jI_add, jI_sub, jI_mul, jI_neg, nI_i, lN_j, iI_le, iI_lt, iI_eq, jI_le, jI_lt, jI_eq, iI_in, iI_cl, iI_j, jI_i, cN, inN, wI_eq, wI_ne, wJ_1, wJ_eq, wJ_ne, wI_2, wJ_3, iI_div, iI_rem, jI_div, jI_rem, true_or, or_true, false_or, or_false, eq_self, Nat.add_zero] at z
      exact absurd z h2
    · simp (disch := omega) only [forall_eq, true_and, and_true, false_and, and_false, forall_const, true_implies, implies_true, not_true_eq_false, not_false_eq_true, false_implies, if_true, if_false, ↓reduceIte, Int.toNat_natCast, Int.reduceEq, Int.reduceNe, Int.reduceLT, Int.reduceLE, Int.reduceToNat, Int.reduceAdd, Int.reduceSub, Int.reduceMul, Int.reduceNeg, Nat.reduceAdd, Nat.reduceMul, Nat.reduceSub, iI_lit, jI_lit, iI_add, iI_sub, iI_mul, iI_neg, jI_add, jI_sub, jI_mul, jI_neg, nI_i, lN_j, iI_le, iI_lt, iI_eq, jI_le, jI_lt, jI_eq, iI_in, iI_cl, iI_j, jI_i, cN, inN, wI_eq, wI_ne, wJ_1, wJ_eq, wJ_ne, wI_2, wJ_3, iI_div, iI_rem, jI_div, jI_rem, true_or, or_true, false_or, or_false, eq_self, Nat.add_zero] at z
      exact absurd z h1
    · simp (disch := omega) only [forall_eq, true_and, and_true, false_and, and_false, forall_const, true_implies, implies_true, not_true_eq_false, not_false_eq_true, false_implies, if_true, if_false, ↓reduceIte, Int.toNat_natCast, Int.reduceEq, Int.reduceNe, Int.reduceLT, Int.reduceLE, Int.reduceToNat, Int.reduceAdd, Int.reduceSub, Int.reduceMul, Int.reduceNeg, Nat.reduceAdd, Nat.reduceMul, Nat.reduceSub, iI_lit, jI_lit, iI_add, iI_sub, iI_mul, iI_neg, jI_add, jI_sub, jI_mul, jI_neg, nI_i, lN_j, iI_le, iI_lt, iI_eq, jI_le, jI_lt, jI_eq, iI_in, iI_cl, iI_j, jI_i, cN, inN, wI_eq, wI_ne, wJ_1, wJ_eq, wJ_ne, wI_2, wJ_3, iI_div, iI_rem, jI_div, jI_rem, true_or, or_true, false_or, or_false, eq_self, Nat.add_zero] at z
      refine vX9_closes_0 hly (by omega) (c_endSumS hly hT (by omega) hs hp (by omega) (fun m1 hc => ?_))
      refine c_isWaiting (x := 40) hly (by omega) hc (by omega) (by decide) (by decide) ?_
      rw [if_neg (h3 z)]
      exact ⟨fun z => absurd rfl z, fun _ => ⟨fun z => absurd rfl z, fun _ => h m1 hc.1⟩⟩
  · subst heq
    have hlen := hb.len (t := b) (n := 0) (o := 0) (P := []) hs.fr
    refine vX9_readText_21 hly hd ⟨fun _ => c_endSumS hly hT (by omega) hs hp (by omega) (fun m1 hc => ?_), fun z => ?_⟩
    · have hl1 := hb.len (t := b) (n := 0) (o := 0) (P := []) hc.1
      have hne : P.length ≠ 0 := fun q => hP rfl (List.length_eq_zero_iff.mp q)
      refine ⟨fun z => absurd rfl z, fun _ => ⟨fun z => ?_, fun _ => ?_⟩⟩
      · rw [hc.2.2.1] at z
        simp (disch := omega) only [forall_eq, true_and, and_true, false_and, and_false, forall_const, true_implies, implies_true, not_true_eq_false, not_false_eq_true, false_implies, if_true, if_false, ↓reduceIte, Int.toNat_natCast, Int.reduceEq, Int.reduceNe, Int.reduceLT, Int.reduceLE, Int.reduceToNat, Int.reduceAdd, Int.reduceSub, Int.reduceMul, Int.reduceNeg, Nat.reduceAdd, Nat.reduceMul, Nat.reduceSub, iI_lit, jI_lit, iI_add, iI_sub, iI_mul, iI_neg, jI_add, jI_sub, jI_mul, jI_neg, nI_i, lN_j, iI_le, iI_lt, iI_eq, jI_le, jI_lt, jI_eq, iI_in, iI_cl, iI_j, jI_i, cN, inN, wI_eq, wI_ne, wJ_1, wJ_eq, wJ_ne, wI_2, wJ_3, iI_div, iI_rem, jI_div, jI_rem, true_or, or_true, false_or, or_false, eq_self, Nat.add_zero] at z
        omega
      · rw [hl1]
        exact h m1 hc.1
    · rw [hlen] at z
      exact absurd (Int32.le_refl _) z
theorem t_done {Q : Int32 → sm_M → Prop} {vs : List Value} {t : Nat → Int} {n o : Nat} (hly : ∀ S, L S → ly S) (hT : sm_tan L 14 100) (hd : 5 ≤ d) (hb : base m0 b N) (hs : cs m0 m t n [] o) (hl : n ≤ N) (h : ∀ m', ck m0 m' t n [] o → Q (-1) m') : gX9_readText_21 E L d vs 0 (iI (N : Nat)) m Q := by
  have hN := hb.1
  have hlen := hb.len (t := b) (n := 0) (o := 0) (P := []) hs.fr
  refine vX9_readText_21 hly hd ⟨fun _ => c_endSumS hly hT (by omega) hs (by decide) (by rw [List.length_nil]; omega) (fun m1 hc => ?_), fun z => ?_⟩
  · refine ⟨fun z => absurd rfl z, fun _ => ⟨fun _ => h m1 hc, fun z => ?_⟩⟩
    rw [hc.2.2.1] at z
    exact absurd (by decide) z
  · rw [hlen] at z
    exact absurd (Int32.le_refl _) z
/-- what the class does with each piece -/
def rdM (E : sm_E) (L : sm_S → Prop) (d : Nat) (vs : List Value) (Q : Int32 → sm_M → Prop) (m0 : sm_M) (N : Nat) (md i o : Nat) (t : Nat → Int) (n j : Nat) (t' : Nat → Int) (n' : Nat) (ok : Bool) : Prop :=
  i ≤ N → o ≤ 6 → (ok = false → ∀ m', fr rdP m0 m' → Q (iI (j : Nat)) m') →
  (md = 0 → ∀ m P, ck m0 m t n P o → P.length + n ≤ i → (ok = true → ∀ m', ckx m0 m' (eU P t' n' o) → gX9_readText_21 E L d vs 0 (iI (j : Nat)) m' Q) → gX9_readText_21 E L d vs 1 (iI (i : Nat)) m Q) ∧
  (md = 1 → ∀ m P, ck m0 m t n P o → P.length + n ≤ i → nt P → (ok = true → ∀ m', ck m0 m' t' n' P o → gX9_readText_21 E L d vs 0 (iI (j : Nat)) m' Q) → gX9_readText_21 E L d vs 1 (iI (i : Nat)) m Q) ∧
  (md = 2 → ∀ m P, ck m0 m t n P o → P.length + n ≤ i → nt P → (ok = true → ∀ m', ck m0 m' t' n' P o → gX9_readText_21 E L d vs 0 (iI (j : Nat)) m' Q) → gX9_readText_21 E L d vs 0 (iI (i : Nat)) m Q) ∧
  (md = 3 → ∀ m P, ck m0 m t n P o → P.length + n ≤ i → nt P → tp P ≠ 43 → (ok = true → ∀ m', cs m0 m' t' n' P o → gX9_readText_21 E L d vs 0 (iI (j : Nat)) m' Q) → gX9_readText_21 E L d vs 1 (iI (i : Nat)) m Q) ∧
  (md = 4 → ∀ m P, cs m0 m t n P o → P.length + n ≤ i → nt P → tp P ≠ 43 → (ok = true → ∀ m', cs m0 m' t' n' P o → gX9_readText_21 E L d vs 0 (iI (j : Nat)) m' Q) → gX9_readText_21 E L d vs 0 (iI (i : Nat)) m Q)
theorem bt_b {i : Nat} (h : i < N) : bt b N i = b i := if_pos h
theorem t_all {Q : Int32 → sm_M → Prop} {vs : List Value} {md i o : Nat} {t : Nat → Int} {n j : Nat} {t' : Nat → Int} {n' : Nat} {ok : Bool} (hly : ∀ S, L S → ly S) (hT : sm_tan L 14 100) (hd : 5 ≤ d) (hb : base m0 b N) (h : RP b N md i o t n j t' n' ok) : rdM E L d vs Q m0 N md i o t n j t' n' ok := by
  have hN := hb.1
  induction h using RP.ind with
  | uF h =>
    intro hi ho hF
    refine ⟨fun _ m P hc hl hK => ?_, by omega, by omega, by omega, by omega⟩
    have hlt := h.elim (fun h => bt_lt h (by decide)) (fun h => h.elim (fun h => bt_lt h (by decide)) (fun h => bt_lt h (by decide)))
    rw [bt_b hlt] at h
    exact t_opn hly hd hb hc hlt h hl (fun _ => hF rfl m hc.1) (fun q => absurd q (by decide)) ho
  | uT x z hx h ho6 h1 ih =>
    intro hi ho hF
    refine ⟨fun _ m P hc hl hK => ?_, by omega, by omega, by omega, by omega⟩
    have hlt := bt_lt h (by omega)
    rw [bt_b hlt] at h
    refine t_opn hly hd hb hc hlt (by omega) hl (fun q => absurd ho6 q) (fun _ m1 hc1 => ?_) ho
    refine (ih (by omega) (by omega) (fun q => by cases q)).1 rfl m1 _ hc1 (by rw [List.length_cons]; omega) (fun _ m2 h2 => hK rfl m2 ?_)
    rw [h] at h2
    rcases hx with ⟨e1, e2⟩ | ⟨e1, e2⟩
    · rw [eU, if_pos e1] at h2
      rw [e2]
      exact h2
    · rw [eU, if_neg (by omega), if_pos e1] at h2
      rw [e2]
      exact h2
  | uTf x hx h ho6 h1 ih =>
    intro hi ho hF
    refine ⟨fun _ m P hc hl hK => ?_, by omega, by omega, by omega, by omega⟩
    have hlt := bt_lt h (by omega)
    rw [bt_b hlt] at h
    refine t_opn hly hd hb hc hlt (by omega) hl (fun q => absurd ho6 q) (fun _ m1 hc1 => ?_) ho
    exact (ih (by omega) (by omega) hF).1 rfl m1 _ hc1 (by rw [List.length_cons]; omega) (fun q => by cases q)
  | uP h ho6 h1 hj ih =>
    intro hi ho hF
    refine ⟨fun _ m P hc hl hK => ?_, by omega, by omega, by omega, by omega⟩
    have hlt := bt_lt h (by omega)
    have hp := h1.pos (by omega)
    have hjl := bt_lt hj (by omega)
    rw [bt_b hlt] at h
    rw [bt_b hjl] at hj
    refine t_opn hly hd hb hc hlt (by omega) hl (fun q => absurd ho6 q) (fun _ m1 hc1 => ?_) ho
    rw [h] at hc1
    have hn := hp.2.2.1 rfl
    refine (ih (by omega) (by omega) (fun q => by cases q)).2.2.2.1 rfl m1 _ hc1 (by rw [List.length_cons]; omega) ⟨show (40 : Int) ≠ 116 by decide, show (40 : Int) ≠ 109 by decide, show (40 : Int) ≠ 42 by decide⟩ (show (40 : Int) ≠ 43 by decide) (fun _ m2 h2 => ?_)
    exact t_shut hly hT hd hb h2 (by omega) hjl hj (by omega) (fun m3 h3 => hK rfl m3 h3)
  | uPf h ho6 h1 hj ih =>
    intro hi ho hF
    refine ⟨fun _ m P hc hl hK => ?_, by omega, by omega, by omega, by omega⟩
    have hlt := bt_lt h (by omega)
    have hp := h1.pos (by omega)
    have hx := h1.nxt rfl
    rw [bt_b hlt] at h
    refine t_opn hly hd hb hc hlt (by omega) hl (fun q => absurd ho6 q) (fun _ m1 hc1 => ?_) ho
    rw [h] at hc1
    have hn := hp.2.2.1 rfl
    refine (ih (by omega) (by omega) (fun q => by cases q)).2.2.2.1 rfl m1 _ hc1 (by rw [List.length_cons]; omega) ⟨show (40 : Int) ≠ 116 by decide, show (40 : Int) ≠ 109 by decide, show (40 : Int) ≠ 42 by decide⟩ (show (40 : Int) ≠ 43 by decide) (fun _ m2 h2 => ?_)
    exact t_stop hly hT hd hb h2 (show (40 : Int) ≠ 43 by decide) hp.2.1 (by rw [List.length_cons]; omega) (hx.2.1 rfl).1 (hx.2.1 rfl).2 (fun q => absurd q hj) (fun _ => by simp) (hF rfl)
  | uPg h ho6 h1 ih =>
    intro hi ho hF
    refine ⟨fun _ m P hc hl hK => ?_, by omega, by omega, by omega, by omega⟩
    have hlt := bt_lt h (by omega)
    rw [bt_b hlt] at h
    refine t_opn hly hd hb hc hlt (by omega) hl (fun q => absurd ho6 q) (fun _ m1 hc1 => ?_) ho
    rw [h] at hc1
    exact (ih (by omega) (by omega) hF).2.2.2.1 rfl m1 _ hc1 (by rw [List.length_cons]; omega) ⟨show (40 : Int) ≠ 116 by decide, show (40 : Int) ≠ 109 by decide, show (40 : Int) ≠ 42 by decide⟩ (show (40 : Int) ≠ 43 by decide) (fun q => by cases q)
  | uI h =>
    intro hi ho hF
    refine ⟨fun _ m P hc hl hK => ?_, by omega, by omega, by omega, by omega⟩
    have hlt := bt_lt h (by omega)
    rw [bt_b hlt] at h
    exact t_leaf hly hT hd hb hc hlt ho (by omega) hl (fun _ q => by omega) (fun _ => hK rfl) (fun _ q => absurd h q) (fun q => by omega) (fun q => by omega)
  | uD h1 h2 =>
    intro hi ho hF
    refine ⟨fun _ m P hc hl hK => ?_, by omega, by omega, by omega, by omega⟩
    have hlt := bt_dig h1
    rw [bt_b hlt] at h1 h2 hK
    exact t_leaf hly hT hd hb hc hlt ho (by omega) hl (fun _ _ => hK rfl) (fun q => by omega) (fun _ _ q => absurd ⟨h1, h2⟩ q) (fun q => by omega) (fun q => by omega)
  | uN h h1 h2 =>
    intro hi ho hF
    refine ⟨fun _ m P hc hl hK => ?_, by omega, by omega, by omega, by omega⟩
    have hlt := bt_lt h (by omega)
    rw [bt_b hlt] at h
    exact t_leaf hly hT hd hb hc hlt ho (by omega) hl (fun q => absurd h q) (fun q => by omega) (fun q => absurd h q) (fun _ _ => hK rfl) (fun _ q => absurd ⟨h1, h2⟩ q)
  | uNf h h1 =>
    intro hi ho hF
    refine ⟨fun _ m P hc hl hK => ?_, by omega, by omega, by omega, by omega⟩
    have hlt := bt_lt h (by omega)
    rw [bt_b hlt] at h
    exact t_leaf hly hT hd hb hc hlt ho (by omega) hl (fun q => absurd h q) (fun q => by omega) (fun q => absurd h q) (fun _ q => by omega) (fun _ _ => hF rfl m hc.1)
  | uX h h1 =>
    intro hi ho hF
    refine ⟨fun _ m P hc hl hK => ?_, by omega, by omega, by omega, by omega⟩
    rcases Nat.lt_or_eq_of_le hi with hlt | heq
    · rw [bt_b hlt] at h h1
      exact t_leaf hly hT hd hb hc hlt ho (by omega) hl (fun _ q => by omega) (fun q => by omega) (fun _ _ _ => hF rfl m hc.1) (fun q => by omega) (fun q => by omega)
    · subst heq
      exact t_end hly hT hd hb hc hl (hF rfl)
  | s h1 h2 ih1 ih2 =>
    intro hi ho hF
    refine ⟨by omega, fun _ m P hc hl hn hK => ?_, by omega, by omega, by omega⟩
    have hp := h1.pos hi
    have hn' := hp.2.2.1 rfl
    refine (ih1 hi ho (fun q => by cases q)).1 rfl m P hc hl (fun _ m1 hc1 => ?_)
    rw [eU_nt hn] at hc1
    exact (ih2 hp.2.1 ho hF).2.2.1 rfl m1 P hc1 (by omega) hn hK
  | sf h1 ih =>
    intro hi ho hF
    refine ⟨by omega, fun _ m P hc hl hn hK => ?_, by omega, by omega, by omega⟩
    exact (ih hi ho hF).1 rfl m P hc hl (fun q => by cases q)
  | l0 h =>
    intro hi ho hF
    exact ⟨by omega, by omega, fun _ m P hc hl hn hK => hK rfl m hc, by omega, by omega⟩
  | l1 h h1 h2 ih1 ih2 =>
    intro hi ho hF
    refine ⟨by omega, by omega, fun _ m P hc hl hn hK => ?_, by omega, by omega⟩
    have hlt := bt_lt h (by omega)
    have hp := h1.pos (by omega)
    have hn' := hp.2.2.1 rfl
    rw [bt_b hlt] at h
    refine t_star hly hd hb hc hlt h hl (fun m1 hc1 => ?_)
    refine (ih1 (by omega) ho (fun q => by cases q)).1 rfl m1 _ hc1 (by rw [List.length_cons]; omega) (fun _ m2 h2' => ?_)
    rw [eU, if_neg (by decide), if_neg (by decide), if_pos rfl] at h2'
    exact (ih2 hp.2.1 ho hF).2.2.1 rfl m2 P h2' (by omega) hn hK
  | lf h h1 ih =>
    intro hi ho hF
    refine ⟨by omega, by omega, fun _ m P hc hl hn hK => ?_, by omega, by omega⟩
    have hlt := bt_lt h (by omega)
    rw [bt_b hlt] at h
    refine t_star hly hd hb hc hlt h hl (fun m1 hc1 => ?_)
    exact (ih (by omega) ho hF).1 rfl m1 _ hc1 (by rw [List.length_cons]; omega) (fun q => by cases q)
  | a h1 h2 ih1 ih2 =>
    intro hi ho hF
    refine ⟨by omega, by omega, by omega, fun _ m P hc hl hn hp4 hK => ?_, by omega⟩
    have hp := h1.pos hi
    have hn' := hp.2.2.1 rfl
    refine (ih1 hi ho (fun q => by cases q)).2.1 rfl m P hc hl hn (fun _ m1 hc1 => ?_)
    exact (ih2 hp.2.1 ho hF).2.2.2.2 rfl m1 P (Or.inl hc1) (by omega) hn hp4 hK
  | af h1 ih =>
    intro hi ho hF
    refine ⟨by omega, by omega, by omega, fun _ m P hc hl hn hp4 hK => ?_, by omega⟩
    exact (ih hi ho hF).2.1 rfl m P hc hl hn (fun q => by cases q)
  | m0 h =>
    intro hi ho hF
    exact ⟨by omega, by omega, by omega, by omega, fun _ m P hc hl hn hp4 hK => hK rfl m hc⟩
  | m1 h h1 h2 ih1 ih2 =>
    intro hi ho hF
    refine ⟨by omega, by omega, by omega, by omega, fun _ m P hc hl hn hp4 hK => ?_⟩
    have hlt := bt_lt h (by omega)
    have hp := h1.pos (by omega)
    have hn' := hp.2.2.1 rfl
    rw [bt_b hlt] at h
    refine t_plus hly hT hd hb hc hp4 hlt h hl (fun m1 hc1 => ?_)
    refine (ih1 (by omega) ho (fun q => by cases q)).2.1 rfl m1 _ hc1 (by rw [List.length_cons]; omega) ⟨show (43 : Int) ≠ 116 by decide, show (43 : Int) ≠ 109 by decide, show (43 : Int) ≠ 42 by decide⟩ (fun _ m2 h2' => ?_)
    exact (ih2 hp.2.1 ho hF).2.2.2.2 rfl m2 P (Or.inr ⟨_, _, rfl, rfl, h2'⟩) (by omega) hn hp4 hK
  | mf h h1 ih =>
    intro hi ho hF
    refine ⟨by omega, by omega, by omega, by omega, fun _ m P hc hl hn hp4 hK => ?_⟩
    have hlt := bt_lt h (by omega)
    rw [bt_b hlt] at h
    refine t_plus hly hT hd hb hc hp4 hlt h hl (fun m1 hc1 => ?_)
    exact (ih (by omega) ho hF).2.1 rfl m1 _ hc1 (by rw [List.length_cons]; omega) ⟨show (43 : Int) ≠ 116 by decide, show (43 : Int) ≠ 109 by decide, show (43 : Int) ≠ 42 by decide⟩ (fun q => by cases q)
end TX3
