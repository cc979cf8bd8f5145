/-! the class reads a text -/
def rdP (a k : Nat) : Prop := (a = 10 ∧ (k = 6 ∨ k = 7)) ∨ a = 12 ∨ (a = 14 ∧ 1 ≤ k ∧ k ≤ 3) ∨ a = 15
def pnd (m : sm_M) : List Int → Prop
  | [] => True
  | x :: P => m.1 12 P.length = iI x ∧ pnd m P
theorem pnd.cg {m m' : sm_M} : ∀ (P : List Int), pnd m P → (∀ k, k < P.length → m'.1 12 k = m.1 12 k) → pnd m' P
  | [], _, _ => trivial
  | x :: P, h, hk => ⟨(hk P.length (by rw [List.length_cons]; omega)).trans h.1, pnd.cg P h.2 (fun k hk' => hk k (by rw [List.length_cons]; omega))⟩
def oc : List Int → Nat
  | [] => 0
  | x :: P => (if x = 40 ∨ x = 116 ∨ x = 109 then 1 else 0) + oc P
def tp : List Int → Int
  | [] => -1
  | x :: _ => x
def ck (m0 m : sm_M) (t : Nat → Int) (n : Nat) (P : List Int) (o : Nat) : Prop := fr rdP m0 m ∧ tg m 14 t n ∧ m.1 10 6 = iI (P.length : Nat) ∧ pnd m P ∧ m.1 10 7 = iI (o : Nat) ∧ oc P = o ∧ ∀ x, x ∈ P → 0 ≤ x ∧ x ≤ 255
theorem ck.tp {m0 m : sm_M} {t : Nat → Int} {n o : Nat} {P : List Int} (h : ck m0 m t n P o) : -1 ≤ tp P ∧ tp P ≤ 255 := by
  cases P with
  | nil => exact ⟨by decide, by decide⟩
  | cons x P =>
    have := h.2.2.2.2.2.2 x List.mem_cons_self
    show -1 ≤ x ∧ x ≤ 255
    omega
def eU : List Int → (Nat → Int) → Nat → Nat → (Nat → Int) × Nat × List Int × Nat
  | [], t, n, o => (t, n, [], o)
  | x :: P, t, n, o => if x = 116 then eU P (tup t n 13) (n + 1) (o - 1) else if x = 109 then eU P (tup t n 14) (n + 1) (o - 1) else if x = 42 then (tup t n 12, n + 1, P, o) else (t, n, x :: P, o)
def ckx (m0 m : sm_M) (s : (Nat → Int) × Nat × List Int × Nat) : Prop := ck m0 m s.1 s.2.1 s.2.2.1 s.2.2.2
section TXT
variable {E : sm_E} {L : sm_S → Prop} {d : Nat} {m m0 : sm_M}
theorem c_isWaiting {Q : Int32 → sm_M → Prop} {t : Nat → Int} {n o : Nat} {P : List Int} {x : Int} (hly : ∀ S, L S → ly S) (hd : 1 ≤ d) (hc : ck m0 m t n P o) (hl : P.length ≤ 100) (x1 : 0 ≤ x) (x2 : x ≤ 255) (h : Q (iI (if tp P = x then 1 else 0)) m) : sm_callI E L mX9_isWaiting d 0 0 [.ref (sm_B E + 10), .int (iI x)] m Q := by
  have ht := hc.tp
  obtain ⟨f, g, h6, hp, h7, ho, hb⟩ := hc
  refine vX9_isWaiting_0 hly hd ?_
  rw [h6]
  cases P with
  | nil =>
    rw [tp, if_neg (by omega)] at h
    exact ⟨fun _ => h, fun z => absurd (by decide) z⟩
  | cons y P =>
    have e : (((y :: P).length : Nat) : Int) = (P.length : Nat) + 1 := by rw [List.length_cons]; omega
    have e2 : (((y :: P).length : Nat) : Int) - 1 = (P.length : Nat) := by rw [List.length_cons]; omega
    rw [List.length_cons] at hl
    have ht' : -1 ≤ y ∧ y ≤ 255 := ht
    have hh : m.1 12 P.length = iI y := hp.1
    simp (disch := omega) only [forall_eq, true_and, and_true, false_and, and_false, forall_const, true_implies, implies_true, not_true_eq_false, not_false_eq_true, false_implies, if_true, if_false, ↓reduceIte, Int.toNat_natCast, Int.reduceEq, Int.reduceNe, Int.reduceLT, Int.reduceLE, Int.reduceToNat, Int.reduceAdd, Int.reduceSub, Int.reduceMul, Int.reduceNeg, Nat.reduceAdd, Nat.reduceMul, Nat.reduceSub, iI_lit, jI_lit, iI_add, iI_sub, iI_mul, iI_neg, jI_add, jI_sub, jI_mul, jI_neg, nI_i, lN_j, iI_le, iI_lt, iI_eq, jI_le, jI_lt, jI_eq, iI_in, iI_cl, iI_j, jI_i, cN, inN, wI_eq, wI_ne, wJ_1, wJ_eq, wJ_ne, wI_2, wJ_3, iI_div, iI_rem, jI_div, jI_rem, true_or, or_true, false_or, or_false, eq_self, Nat.add_zero, e2, hh]
    have h' : Q (iI (if y = x then 1 else 0)) m := h
    refine ⟨fun z => by omega, fun _ => ⟨by omega, fun z => ?_, fun z => ?_⟩⟩
    · rw [if_neg z] at h'
      exact h'
    · rw [if_pos z] at h'
      exact h'
theorem ck.push {t : Nat → Int} {n o : Nat} {P : List Int} {x : Int} (hc : ck m0 m t n P o) (hx : 0 ≤ x ∧ x ≤ 255) (hn : ¬ (x = 40 ∨ x = 116 ∨ x = 109)) : ck m0 (sm_wI (sm_wI m 12 P.length (iI x)) 10 6 (iI ((P.length + 1 : Nat) : Int))) t n (x :: P) o := by
  obtain ⟨f, g, h6, hp, h7, ho, hb⟩ := hc
  have f2 : fr (fun a k => a = 12 ∨ a = 10) m (sm_wI (sm_wI m 12 P.length (iI x)) 10 6 (iI ((P.length + 1 : Nat) : Int))) := (fr.rf.wI (Or.inl rfl)).wI (Or.inr rfl)
  refine ⟨(f.wI (Or.inr (Or.inl rfl))).wI (Or.inl ⟨rfl, Or.inl rfl⟩), g.fr f2 (fun k _ _ => by omega) (fun k => by omega), wI_eq rfl rfl, ⟨?_, hp.cg P (fun k hk => ?_)⟩, ?_, ?_, ?_⟩
  · rw [wI_ne (by omega), wI_eq rfl rfl]
  · rw [wI_ne (by omega), wI_ne (by omega)]
  · rw [wI_ne (by omega), wI_ne (by omega)]
    exact h7
  · rw [oc, if_neg hn, ho]
    omega
  · intro y hy
    rcases List.mem_cons.mp hy with e | e
    · rw [e]; exact hx
    · exact hb y e
theorem ck.opn {t : Nat → Int} {n o : Nat} {P : List Int} {x : Int} (hc : ck m0 m t n P o) (hn : x = 40 ∨ x = 116 ∨ x = 109) : ck m0 (sm_wI (sm_wI (sm_wI m 10 7 (iI ((o + 1 : Nat) : Int))) 12 P.length (iI x)) 10 6 (iI ((P.length + 1 : Nat) : Int))) t n (x :: P) (o + 1) := by
  obtain ⟨f, g, h6, hp, h7, ho, hb⟩ := hc
  have f2 : fr (fun a k => a = 12 ∨ a = 10) m (sm_wI (sm_wI (sm_wI m 10 7 (iI ((o + 1 : Nat) : Int))) 12 P.length (iI x)) 10 6 (iI ((P.length + 1 : Nat) : Int))) := ((fr.rf.wI (Or.inr rfl)).wI (Or.inl rfl)).wI (Or.inr rfl)
  refine ⟨((f.wI (Or.inl ⟨rfl, Or.inr rfl⟩)).wI (Or.inr (Or.inl rfl))).wI (Or.inl ⟨rfl, Or.inl rfl⟩), g.fr f2 (fun k _ _ => by omega) (fun k => by omega), wI_eq rfl rfl, ⟨?_, hp.cg P (fun k hk => ?_)⟩, ?_, ?_, ?_⟩
  · rw [wI_ne (by omega), wI_eq rfl rfl]
  · rw [wI_ne (by omega), wI_ne (by omega), wI_ne (by omega)]
  · rw [wI_ne (by omega), wI_ne (by omega), wI_eq rfl rfl]
  · rw [oc, if_pos hn, ho]
    omega
  · intro y hy
    rcases List.mem_cons.mp hy with e | e
    · rw [e]; omega
    · exact hb y e
theorem ck.pop {t : Nat → Int} {n o : Nat} {P : List Int} {x : Int} (hc : ck m0 m t n (x :: P) o) (hn : ¬ (x = 40 ∨ x = 116 ∨ x = 109)) : ck m0 (sm_wI m 10 6 (iI (P.length : Nat))) t n P o := by
  obtain ⟨f, g, h6, hp, h7, ho, hb⟩ := hc
  have f2 : fr (fun a k => a = 10) m (sm_wI m 10 6 (iI (P.length : Nat))) := fr.rf.wI rfl
  refine ⟨f.wI (Or.inl ⟨rfl, Or.inl rfl⟩), g.fr f2 (fun k _ _ => by omega) (fun k => by omega), wI_eq rfl rfl, hp.2.cg P (fun k hk => wI_ne (by omega)), (wI_ne (by omega)).trans h7, ?_, fun y hy => hb y (List.mem_cons_of_mem _ hy)⟩
  rw [oc, if_neg hn] at ho
  omega
theorem ck.shut {t : Nat → Int} {n o : Nat} {P : List Int} {x : Int} (hc : ck m0 m t n (x :: P) o) (hn : x = 40 ∨ x = 116 ∨ x = 109) : ck m0 (sm_wI (sm_wI m 10 6 (iI (P.length : Nat))) 10 7 (iI ((o - 1 : Nat) : Int))) t n P (o - 1) := by
  obtain ⟨f, g, h6, hp, h7, ho, hb⟩ := hc
  have f2 : fr (fun a k => a = 10) m (sm_wI (sm_wI m 10 6 (iI (P.length : Nat))) 10 7 (iI ((o - 1 : Nat) : Int))) := (fr.rf.wI (P := fun a k => a = 10) rfl).wI rfl
  refine ⟨(f.wI (Or.inl ⟨rfl, Or.inl rfl⟩)).wI (Or.inl ⟨rfl, Or.inr rfl⟩), g.fr f2 (fun k _ _ => by omega) (fun k => by omega), (wI_ne (by omega)).trans (wI_eq rfl rfl), hp.2.cg P (fun k hk => (wI_ne (by omega)).trans (wI_ne (by omega))), wI_eq rfl rfl, ?_, fun y hy => hb y (List.mem_cons_of_mem _ hy)⟩
  rw [oc, if_pos hn] at ho
  omega
theorem ck.add {t : Nat → Int} {n o : Nat} {P : List Int} {z : Int} {m' : sm_M} (hc : ck m0 m t n P o) (hf : fr (tgP 14) m m') (hg : tg m' 14 (tup t n z) (n + 1)) : ck m0 m' (tup t n z) (n + 1) P o := by
  obtain ⟨f, g, h6, hp, h7, ho, hb⟩ := hc
  exact ⟨f.tr (hf.mono (fun a k h => by unfold tgP at h; unfold rdP; omega)), hg, (hf.i (by unfold tgP; omega)).trans h6, hp.cg P (fun k hk => hf.i (by unfold tgP; omega)), (hf.i (by unfold tgP; omega)).trans h7, ho, hb⟩
theorem c_endSum {Q : sm_M → Prop} {t : Nat → Int} {n o : Nat} {P : List Int} (hly : ∀ S, L S → ly S) (hT : sm_tan L 14 100) (hd : 3 ≤ d) (hc : ck m0 m t n P o) (hl : P.length + n ≤ 100) (h0 : tp P ≠ 43 → Q m) (h1 : ∀ P', P = 43 :: P' → ∀ m', ck m0 m' (tup t n 11) (n + 1) P' o → Q m') : sm_callV E L mX9_endSum d 0 0 [.ref (sm_B E + 10)] m Q := by
  refine vX9_endSum_0 hly hd (c_isWaiting (x := 43) hly (by omega) hc (by omega) (by decide) (by decide) ?_)
  by_cases h : tp P = 43
  · rw [if_pos h]
    refine ⟨fun z => absurd z (by decide), fun _ => ?_⟩
    cases P with
    | nil => exact absurd h (by decide)
    | cons x P =>
      have hx : x = 43 := h
      subst hx
      rw [List.length_cons] at hl
      refine c_add (z := 11) hT (by omega) hc.2.1 (by omega) (by omega) (by omega) (by omega) (fun m1 f1 g1 => ?_)
      have hc1 := hc.add f1 g1
      have h9 := h1 P rfl _ (hc1.pop (by decide))
      have e6 := hc1.2.2.1
      have e2 : (((43 :: P : List Int).length : Nat) : Int) - 1 = (P.length : Nat) := by rw [List.length_cons]; omega
      intro m4 e4
      rw [e6, iI_lit, iI_sub, e2] at e4
      subst e4
      exact h9
  · rw [if_neg h]
    exact ⟨fun _ => h0 h, fun z => absurd rfl z⟩
theorem c_endUnit_loop {Q : sm_M → Prop} {vs : List Value} (hly : ∀ S, L S → ly S) (hT : sm_tan L 14 100) (hd : 3 ≤ d) : ∀ (P : List Int) (x : Nat) (m : sm_M) (t : Nat → Int) (n o : Nat), ck m0 m t n P o → P.length + n ≤ 100 → x + o ≤ 6 → (∀ m', ckx m0 m' (eU P t n o) → Q m') → gX9_endUnit_2 E L d vs (iI (x : Nat)) m Q := by
  have g75 : ∀ (P : List Int) (m : sm_M) (t : Nat → Int) (n o : Nat), ck m0 m t n P o → P.length + n ≤ 100 → ¬ (tp P = 116 ∨ tp P = 109) → (∀ m', ckx m0 m' (eU P t n o) → Q m') → gX9_endUnit_75 E L d vs m Q := by
    intro P m t n o hc hl hn hQ
    refine vX9_endUnit_75 hly hd (c_isWaiting (x := 42) hly (by omega) hc (by omega) (by decide) (by decide) ?_)
    by_cases h : tp P = 42
    · rw [if_pos h]
      refine ⟨fun z => absurd z (by decide), fun _ => ?_⟩
      cases P with
      | nil => exact absurd h (by decide)
      | cons x P =>
        have hx : x = 42 := h
        subst hx
        rw [List.length_cons] at hl
        refine c_add (z := 12) hT (by omega) hc.2.1 (by omega) (by omega) (by omega) (by omega) (fun m1 f1 g1 => ?_)
        have hc1 := hc.add f1 g1
        have e6 := hc1.2.2.1
        have e2 : (((42 :: P : List Int).length : Nat) : Int) - 1 = (P.length : Nat) := by rw [List.length_cons]; omega
        intro m4 e4
        rw [e6, iI_lit, iI_sub, e2] at e4
        subst e4
        exact hQ _ (hc1.pop (by decide))
    · rw [if_neg h]
      refine ⟨fun _ => hQ m ?_, fun z => absurd rfl z⟩
      cases P with
      | nil => exact hc
      | cons x P =>
        have hx : ¬ (x = 116 ∨ x = 109) := hn
        have hx2 : x ≠ 42 := h
        rw [eU, if_neg (fun q => hx (Or.inl q)), if_neg (fun q => hx (Or.inr q)), if_neg hx2]
        exact hc
  intro P
  induction P with
  | nil =>
    intro x m t n o hc hl hx hQ
    have h75 := g75 [] m t n o hc hl (by decide) hQ
    refine vX9_endUnit_2 hly hd ⟨fun _ => h75, fun _ => c_isWaiting (x := 116) hly (by omega) hc (by omega) (by decide) (by decide) ?_⟩
    refine ⟨fun z => absurd (by decide) z, fun _ => c_isWaiting (x := 109) hly (by omega) hc (by omega) (by decide) (by decide) ?_⟩
    exact ⟨fun _ => h75, fun z => absurd (by decide) z⟩
  | cons y P ih =>
    intro x m t n o hc hl hx hQ
    have hoc := hc.2.2.2.2.2.1
    rw [oc] at hoc
    have hl' := hl
    rw [List.length_cons] at hl'
    have pop46 : ∀ z : Int, (y = 116 ∧ z = 13) ∨ (y = 109 ∧ z = 14) → gX9_endUnit_46 E L d vs (iI (x : Nat)) (iI z) m Q := by
      intro z hz
      have hyo : y = 40 ∨ y = 116 ∨ y = 109 := by omega
      rw [if_pos hyo] at hoc
      refine vX9_endUnit_46 hly hd (c_add (z := z) hT (by omega) hc.2.1 (by omega) (by omega) (by omega) (by omega) (fun m1 f1 g1 => ?_))
      have hc1 := hc.add f1 g1
      have hc2 := hc1.shut hyo
      have e6 := hc1.2.2.1
      have e7 := hc1.2.2.2.2.1
      have e2 : (((y :: P : List Int).length : Nat) : Int) - 1 = (P.length : Nat) := by rw [List.length_cons]; omega
      have e3 : ((o : Nat) : Int) - 1 = ((o - 1 : Nat) : Int) := by omega
      have e5 : ((x : Nat) : Int) + 1 = ((x + 1 : Nat) : Int) := by omega
      intro m2 e2' m3 e3' x1 ex1
      rw [e6, iI_lit, iI_sub, e2] at e2'
      subst e2'
      rw [wI_ne (by omega), e7, iI_lit, iI_sub, e3] at e3'
      subst e3'
      rw [iI_lit, iI_add, e5] at ex1
      subst ex1
      refine ih (x + 1) _ _ _ _ hc2 (by omega) (by omega) (fun m' h' => hQ m' ?_)
      rcases hz with ⟨q1, q2⟩ | ⟨q1, q2⟩
      · rw [eU, if_pos q1, ← q2]
        exact h'
      · rw [eU, if_neg (by omega), if_pos q1, ← q2]
        exact h'
    have h75 : ¬ (y = 116 ∨ y = 109) → gX9_endUnit_75 E L d vs m Q := fun hn => g75 (y :: P) m t n o hc hl hn hQ
    have tpy : tp (y :: P) = y := rfl
    have hx6 : (y = 116 ∨ y = 109) → x < 6 := fun h => by
      rw [if_pos (by omega)] at hoc
      omega
    refine vX9_endUnit_2 hly hd ⟨fun z => h75 (fun h => ?_), fun _ => c_isWaiting (x := 116) hly (by omega) hc (by omega) (by decide) (by decide) ?_⟩
    · have := hx6 h
      simp (disch := omega) only [forall_eq, true_and, and_true, false_and, and_false, forall_const, true_implies, implies_true, not_true_eq_false, not_false_eq_true, false_implies, if_true, if_false, ↓reduceIte, Int.toNat_natCast, Int.reduceEq, Int.reduceNe, Int.reduceLT, Int.reduceLE, Int.reduceToNat, Int.reduceAdd, Int.reduceSub, Int.reduceMul, Int.reduceNeg, Nat.reduceAdd, Nat.reduceMul, Nat.reduceSub, iI_lit, jI_lit, iI_add, iI_sub, iI_mul, iI_neg, jI_add, jI_sub, jI_mul, jI_neg, nI_i, lN_j, iI_le, iI_lt, iI_eq, jI_le, jI_lt, jI_eq, iI_in, iI_cl, iI_j, jI_i, cN, inN, wI_eq, wI_ne, wJ_1, wJ_eq, wJ_ne, wI_2, wJ_3, iI_div, iI_rem, jI_div, jI_rem, true_or, or_true, false_or, or_false, eq_self, Nat.add_zero] at z
      omega
    rw [tpy]
    by_cases h1 : y = 116
    · rw [if_pos h1]
      refine ⟨fun _ => c_isWaiting (x := 116) hly (by omega) hc (by omega) (by decide) (by decide) ?_, fun z => absurd z (by decide)⟩
      rw [tpy, if_pos h1]
      exact ⟨fun z => absurd z (by decide), fun _ => pop46 13 (by omega)⟩
    · rw [if_neg h1]
      refine ⟨fun z => absurd rfl z, fun _ => c_isWaiting (x := 109) hly (by omega) hc (by omega) (by decide) (by decide) ?_⟩
      rw [tpy]
      by_cases h2 : y = 109
      · rw [if_pos h2]
        refine ⟨fun z => absurd z (by decide), fun _ => c_isWaiting (x := 116) hly (by omega) hc (by omega) (by decide) (by decide) ?_⟩
        rw [tpy, if_neg h1]
        exact ⟨fun _ => pop46 14 (by omega), fun z => absurd rfl z⟩
      · rw [if_neg h2]
        exact ⟨fun _ => h75 (by omega), fun z => absurd rfl z⟩
end TXT
