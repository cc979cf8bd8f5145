/-! the reference reads a text -/
def rkP (a k : Nat) : Prop := wkP a k ∨ (a = 109 ∧ (k = 31 ∨ k = 33 ∨ k = 34))
def rk (m0 m : sm_M) (t : Nat → Int) (n i o : Nat) : Prop := fr rkP m0 m ∧ wk m t n ∧ m.1 109 31 = iI (i : Nat) ∧ m.1 109 33 = iI (o : Nat) ∧ m.1 109 34 = iI 0
def rf (m0 m : sm_M) (j : Nat) : Prop := fr rkP m0 m ∧ m.1 109 31 = iI (j : Nat) ∧ m.1 109 34 = iI 1
def bas2 (m0 : sm_M) (b : Nat → Int) (N : Nat) : Prop := N ≤ 100 ∧ m0.1 109 32 = iI (N : Nat) ∧ ∀ k, k < N → 0 ≤ b k ∧ b k ≤ 255 ∧ m0.1 116 k = iI (b k)
section TX4
variable {E : sm_E} {L : sm_S → Prop} {d : Nat} {m m0 : sm_M} {b : Nat → Int} {N : Nat}
theorem bt_bd (hb : bas2 m0 b N) (i : Nat) : -1 ≤ bt b N i ∧ bt b N i ≤ 255 := by
  unfold bt
  split
  · have := hb.2.2 i (by assumption)
    omega
  · omega
theorem c_byt {Q : Int32 → sm_M → Prop} {i : Nat} (hly : ∀ S, L S → ly S) (hd : 1 ≤ d) (hb : bas2 m0 b N) (hf : fr rkP m0 m) (hi : i ≤ N + 1) (h31 : m.1 109 31 = iI (i : Nat)) (h : Q (iI (bt b N i)) m) : sm_callI E L mX12_byteAt d 0 0 [.ref (sm_B E + 109), .int (m.1 109 31)] m Q := by
  have hN := hb.1
  rw [h31]
  exact c12_byteAt (b := b) (n := N) hly hd hN (by omega) ((hf.i (by unfold rkP wkP; omega)).trans hb.2.1) (fun k hk => (hf.i (by unfold rkP wkP; omega)).trans (hb.2.2 k hk).2.2) h
theorem rk.put {t : Nat → Int} {n i o : Nat} {z : Int} {m' : sm_M} (h : rk m0 m t n i o) (hf : fr wkP m m') (hw : wk m' (tup t n z) (n + 1)) : rk m0 m' (tup t n z) (n + 1) i o :=
  ⟨h.1.tr (hf.mono (fun a k q => Or.inl q)), hw, (hf.i (by unfold wkP; omega)).trans h.2.2.1, (hf.i (by unfold wkP; omega)).trans h.2.2.2.1, (hf.i (by unfold wkP; omega)).trans h.2.2.2.2⟩
theorem wk_w {t : Nat → Int} {n k : Nat} {v : Int32} (h : wk m t n) (hk : k = 31 ∨ k = 33 ∨ k = 34) : wk (sm_wI m 109 k v) t n := ⟨(wI_ne (by omega)).trans h.1, fun j hj => (wI_ne (by omega)).trans (h.2 j hj)⟩
theorem rk.to {t : Nat → Int} {n i o j : Nat} (h : rk m0 m t n i o) : rk m0 (sm_wI m 109 31 (iI (j : Nat))) t n j o :=
  ⟨h.1.wI (Or.inr ⟨rfl, Or.inl rfl⟩), wk_w h.2.1 (Or.inl rfl), wI_eq rfl rfl, (wI_ne (by omega)).trans h.2.2.2.1, (wI_ne (by omega)).trans h.2.2.2.2⟩
theorem rk.lev {t : Nat → Int} {n i o j : Nat} (h : rk m0 m t n i o) : rk m0 (sm_wI m 109 33 (iI (j : Nat))) t n i j :=
  ⟨h.1.wI (Or.inr ⟨rfl, Or.inr (Or.inl rfl)⟩), wk_w h.2.1 (Or.inr (Or.inl rfl)), (wI_ne (by omega)).trans h.2.2.1, wI_eq rfl rfl, (wI_ne (by omega)).trans h.2.2.2.2⟩
theorem rk.cl {t : Nat → Int} {n i o : Nat} (h : rk m0 m t n i o) : rk m0 (sm_wI m 109 34 (iI 0)) t n i o :=
  ⟨h.1.wI (Or.inr ⟨rfl, Or.inr (Or.inr rfl)⟩), wk_w h.2.1 (Or.inr (Or.inr rfl)), (wI_ne (by omega)).trans h.2.2.1, (wI_ne (by omega)).trans h.2.2.2.1, wI_eq rfl rfl⟩
theorem rk.bad {t : Nat → Int} {n i o : Nat} (h : rk m0 m t n i o) : rf m0 (sm_wI m 109 34 (iI 1)) i :=
  ⟨h.1.wI (Or.inr ⟨rfl, Or.inr (Or.inr rfl)⟩), (wI_ne (by omega)).trans h.2.2.1, wI_eq rfl rfl⟩
theorem rf.bad {i : Nat} (h : rf m0 m i) : rf m0 (sm_wI m 109 34 (iI 1)) i :=
  ⟨h.1.wI (Or.inr ⟨rfl, Or.inr (Or.inr rfl)⟩), (wI_ne (by omega)).trans h.2.1, wI_eq rfl rfl⟩
theorem rf.lev {i : Nat} {v : Int32} (h : rf m0 m i) : rf m0 (sm_wI m 109 33 v) i :=
  ⟨h.1.wI (Or.inr ⟨rfl, Or.inr (Or.inl rfl)⟩), (wI_ne (by omega)).trans h.2.1, (wI_ne (by omega)).trans h.2.2⟩
theorem rf.to {i : Nat} (h : rf m0 m i) : rf m0 (sm_wI m 109 31 (iI (i : Nat))) i :=
  ⟨h.1.wI (Or.inr ⟨rfl, Or.inl rfl⟩), wI_eq rfl rfl, (wI_ne (by omega)).trans h.2.2⟩
theorem c12_isDig {Q : Int32 → sm_M → Prop} {x : Int} (hd : 1 ≤ d) (h1 : -1 ≤ x) (h2 : x ≤ 255) (h : Q (iI (if 48 ≤ x ∧ x ≤ 57 then 1 else 0)) m) : sm_callI E L mX12_isDigit d 0 0 [.int (iI x)] m Q := by
  refine vX12_isDigit_0 hd ?_
  simp (disch := omega) only [forall_eq, true_and, and_true, false_and, and_false, forall_const, true_implies, implies_true, not_true_eq_false, not_false_eq_true, false_implies, if_true, if_false, ↓reduceIte, Int.toNat_natCast, Int.reduceEq, Int.reduceNe, Int.reduceLT, Int.reduceLE, Int.reduceToNat, Int.reduceAdd, Int.reduceSub, Int.reduceMul, Int.reduceNeg, Nat.reduceAdd, Nat.reduceMul, Nat.reduceSub, iI_lit, jI_lit, iI_add, iI_sub, iI_mul, iI_neg, jI_add, jI_sub, jI_mul, jI_neg, nI_i, lN_j, iI_le, iI_lt, iI_eq, jI_le, jI_lt, jI_eq, iI_in, iI_cl, iI_j, jI_i, cN, inN, wI_eq, wI_ne, wJ_1, wJ_eq, wJ_ne, wI_2, wJ_3, iI_div, iI_rem, jI_div, jI_rem, true_or, or_true, false_or, or_false, eq_self, Nat.add_zero]
  refine ⟨fun z => ?_, fun z => ⟨fun z2 => ?_, fun z2 => ?_⟩⟩
  · rw [if_neg (by omega)] at h; exact h
  · rw [if_neg (by omega)] at h; exact h
  · rw [if_pos (by omega)] at h; exact h
theorem c12_leaf {Q : sm_M → Prop} {t : Nat → Int} {n i o : Nat} (hly : ∀ S, L S → ly S) (hd : 2 ≤ d) (hb : bas2 m0 b N) (hr : rk m0 m t n i o) (hi : i ≤ N) (hn : n ≤ 100)
    (h1 : bt b N i ≠ 45 → (48 ≤ bt b N i ∧ bt b N i ≤ 57) → ∀ m', rk m0 m' (tup t n (bt b N i - 48)) (n + 1) (i + 1) o → Q m')
    (h2 : bt b N i ≠ 45 → ¬ (48 ≤ bt b N i ∧ bt b N i ≤ 57) → ∀ m', rf m0 m' i → Q m')
    (h3 : bt b N i = 45 → (48 ≤ bt b N (i + 1) ∧ bt b N (i + 1) ≤ 57) → ∀ m', rk m0 m' (tup t n (48 - bt b N (i + 1))) (n + 1) (i + 2) o → Q m')
    (h4 : bt b N i = 45 → ¬ (48 ≤ bt b N (i + 1) ∧ bt b N (i + 1) ≤ 57) → ∀ m', rf m0 m' (i + 1) → Q m') : sm_callV E L mX12_readsLeaf d 0 0 [.ref (sm_B E + 109)] m Q := by
  have hN := hb.1
  have hbd := bt_bd hb i
  have hbd1 := bt_bd hb (i + 1)
  -- from where the digit should be
  have go : ∀ (x : Int) (k : Nat) (m : sm_M) (s : Int), (x = 0 ∨ x = 1) → k ≤ N + 1 → k ≤ 101 → rk m0 m t n i o → (s : Int) = (k : Int) - i → ((48 ≤ bt b N k ∧ bt b N k ≤ 57) → ∀ m', rk m0 m' (tup t n (if x = 0 then bt b N k - 48 else 48 - bt b N k)) (n + 1) (k + 1) o → Q m') → (¬ (48 ≤ bt b N k ∧ bt b N k ≤ 57) → ∀ m', rf m0 m' k → Q m') → gX12_readsLeaf_33 E L d [.ref (sm_B E + 109)] (iI x) (iI (i : Nat)) (iI s) m Q := by
    intro x k m s hx hk hk2 hr hs g1 g2
    have hbk := bt_bd hb k
    refine vX12_readsLeaf_33 hly hd ?_
    intro m1 e1
    rw [iI_add, show (i : Int) + s = (k : Nat) by omega] at e1
    subst e1
    have hr1 := hr.to (j := k)
    refine c_byt hly (by omega) hb hr1.1 hk hr1.2.2.1 (c12_isDig (by omega) hbk.1 hbk.2 ?_)
    by_cases hdg : 48 ≤ bt b N k ∧ bt b N k ≤ 57
    · rw [if_pos hdg]
      refine ⟨fun _ => vX12_readsLeaf_57 hly hd ⟨Or.inl rfl, ?_⟩, fun z => absurd z (by decide)⟩
      intro m2 e2
      subst e2
      have hr2 := hr1.cl
      refine ⟨fun z => absurd (wI_eq rfl rfl) z, fun _ => c_byt hly (by omega) hb hr2.1 hk hr2.2.2.1 ?_⟩
      intro x2 ex2
      rw [iI_lit, iI_sub] at ex2
      subst ex2
      have ek : ((k : Nat) : Int) + 1 = ((k + 1 : Nat) : Int) := by omega
      have fin : ∀ z : Int, z = (if x = 0 then bt b N k - 48 else 48 - bt b N k) → sm_callV E L mX12_puts 1 0 0 [.ref (sm_B E + 109), .int (iI z)] (sm_wI (sm_wI m 109 31 (iI (k : Nat))) 109 34 0) (fun m_6 => ∀ m_7 : sm_M, m_7 = sm_wI m_6 109 31 ((m_6.1 109 31) + 1) → Q m_7) := by
        intro z hz
        have hz10 : z ≤ 10 := by
          rw [hz]
          split <;> omega
        have htc : tc z = z := if_pos hz10
        rw [← htc]
        refine c12_puts hly hr2.2.1 (by omega) (by omega) (fun m3 f3 w3 => ?_)
        have hr3 := hr2.put f3 w3
        intro m4 e4
        rw [hr3.2.2.1, iI_lit, iI_add, ek] at e4
        subst e4
        rw [hz] at hr3
        exact g1 hdg _ hr3.to
      refine ⟨fun z => ?_, fun z => ?_⟩
      · refine fin _ ?_
        rw [if_pos ?_]
        rcases hx with hx | hx
        · exact hx
        · rw [hx] at z
          exact absurd z (by decide)
      · rw [iI_neg]
        refine fin _ ?_
        rw [if_neg ?_]
        · omega
        · intro q
          rw [q] at z
          exact z rfl
    · rw [if_neg hdg]
      refine ⟨fun z => absurd rfl z, fun _ => vX12_readsLeaf_57 hly hd ⟨Or.inr rfl, ?_⟩⟩
      intro m2 e2
      subst e2
      exact ⟨fun _ => g2 hdg _ hr1.bad, fun z => absurd (z.symm.trans (wI_eq rfl rfl)) (by decide)⟩
  refine vX12_readsLeaf_0 hly hd (c_byt hly (by omega) hb hr.1 (by omega) hr.2.2.1 ⟨fun z => ?_, fun z => ?_⟩)
  · have hz : bt b N i ≠ 45 := fun q => z (by rw [q]; rfl)
    rw [hr.2.2.1]
    refine go 0 i m 0 (Or.inl rfl) (by omega) (by omega) hr (by omega) (fun hdg => ?_) (h2 hz)
    rw [if_pos rfl]
    exact h1 hz hdg
  · simp (disch := omega) only [forall_eq, true_and, and_true, false_and, and_false, forall_const, true_implies, implies_true, not_true_eq_false, not_false_eq_true, false_implies, if_true, if_false, ↓reduceIte, Int.toNat_natCast, Int.reduceEq, Int.reduceNe, Int.reduceLT, Int.reduceLE, Int.reduceToNat, Int.reduceAdd, Int.reduceSub, Int.reduceMul, Int.reduceNeg, Nat.reduceAdd, Nat.reduceMul, Nat.reduceSub, iI_lit, jI_lit, iI_add, iI_sub, iI_mul, iI_neg, jI_add, jI_sub, jI_mul, jI_neg, nI_i, lN_j, iI_le, iI_lt, iI_eq, jI_le, jI_lt, jI_eq, iI_in, iI_cl, iI_j, jI_i, cN, inN, wI_eq, wI_ne, wJ_1, wJ_eq, wJ_ne, wI_2, wJ_3, iI_div, iI_rem, jI_div, jI_rem, true_or, or_true, false_or, or_false, eq_self, Nat.add_zero] at z
    rw [hr.2.2.1]
    refine go 1 (i + 1) m 1 (Or.inr rfl) (by omega) (by omega) hr (by omega) (fun hdg => ?_) (h4 z)
    rw [if_neg (by decide)]
    exact h3 z hdg
end TX4
