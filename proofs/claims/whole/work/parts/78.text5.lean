/-! the reference reads a text: all of it -/
section TX5
variable {E : sm_E} {L : sm_S → Prop} {m0 : sm_M} {b : Nat → Int} {N : Nat}
theorem iI_p1 {x : Nat} : iI (x : Nat) + 1 = iI ((x + 1 : Nat) : Int) := by
  rw [iI_lit, iI_add]
  congr 1
theorem iI_m1 {x : Nat} : iI ((x + 1 : Nat) : Int) - 1 = iI (x : Nat) := by
  rw [iI_lit, iI_sub]
  congr 1
  omega
theorem iI_p0 {x : Nat} : iI (x : Nat) + 0 = iI (x : Nat) := by
  rw [iI_lit, iI_add]
  congr 1
theorem rk.dn {Q : sm_M → Prop} {m : sm_M} {t : Nat → Int} {n i o : Nat} (hr : rk m0 m t n i (o + 1)) (h : ∀ m', rk m0 m' t n i o → Q m') : ∀ m8, m8 = sm_wI m 109 33 ((m.1 109 33) - 1) → Q m8 := by
  intro m8 e8
  rw [hr.2.2.2.1, iI_m1] at e8
  subst e8
  exact h _ hr.lev
theorem bt_is (hb : bas2 m0 b N) {i : Nat} {x : Int} (h1 : 0 ≤ x) (h2 : x ≤ 255) (h : iI (bt b N i) = iI x) : bt b N i = x := by
  have := bt_bd hb i
  exact (iI_eq (by omega) (by omega) (by omega) (by omega)).mp h
def rsM (E : sm_E) (L : sm_S → Prop) (m0 : sm_M) (N : Nat) (md i o : Nat) (t : Nat → Int) (n j : Nat) (t' : Nat → Int) (n' : Nat) (ok : Bool) : Prop :=
  ∀ (d : Nat) (m : sm_M) (Q : sm_M → Prop), i ≤ N → o ≤ 6 → n ≤ i → rk m0 m t n i o → (ok = true → ∀ m', rk m0 m' t' n' j o → Q m') → (ok = false → ∀ m', rf m0 m' j → Q m') →
  (md = 0 → 22 - 3 * o ≤ d → sm_callV E L mX12_readsUnit d 0 0 [.ref (sm_B E + 109)] m Q) ∧
  (md = 1 → 23 - 3 * o ≤ d → sm_callV E L mX12_readsStack d 0 0 [.ref (sm_B E + 109)] m Q) ∧
  (md = 2 → 23 - 3 * o ≤ d → ∀ vs, gX12_readsStack_4 E L d vs m Q) ∧
  (md = 3 → 24 - 3 * o ≤ d → sm_callV E L mX12_readsAll d 0 0 [.ref (sm_B E + 109)] m Q) ∧
  (md = 4 → 24 - 3 * o ≤ d → ∀ vs, gX12_readsAll_4 E L d vs m Q)
theorem u_opn {Q : sm_M → Prop} {d : Nat} {m : sm_M} {t : Nat → Int} {n i o : Nat} {x : Int} (hly : ∀ S, L S → ly S) (hd : 4 ≤ d) (hb : bas2 m0 b N) (hr : rk m0 m t n i o) (hi : i ≤ N) (ho : o ≤ 6) (hx : x = 40 ∨ x = 116 ∨ x = 109) (h : bt b N i = x)
    (h6 : o = 6 → ∀ m', rf m0 m' i → Q m')
    (h1 : o < 6 → x ≠ 40 → ∀ m', rk m0 m' t n (i + 1) (o + 1) → sm_callV E L mX12_readsUnit (d - 1) 0 0 [.ref (sm_B E + 109)] m' (fun m_5 => (¬ (m_5.1 109 34) = 0 → ∀ m_6 : sm_M, m_6 = sm_wI m_5 109 33 ((m_5.1 109 33) - 1) → Q m_6) ∧ ((m_5.1 109 34) = 0 → (¬ iI x = 116 → sm_callV E L mX12_puts 1 0 0 [.ref (sm_B E + 109), .int 23] m_5 (fun m_7 => ∀ m_8 : sm_M, m_8 = sm_wI m_7 109 33 ((m_7.1 109 33) - 1) → Q m_8)) ∧ (iI x = 116 → sm_callV E L mX12_puts 1 0 0 [.ref (sm_B E + 109), .int 22] m_5 (fun m_9 => ∀ m_10 : sm_M, m_10 = sm_wI m_9 109 33 ((m_9.1 109 33) - 1) → Q m_10)))))
    (h2 : o < 6 → x = 40 → ∀ m', rk m0 m' t n (i + 1) (o + 1) → sm_callV E L mX12_readsAll (d - 1) 0 0 [.ref (sm_B E + 109)] m' (fun m_11 => (¬ (m_11.1 109 34) = 0 → gX12_readsUnit_149 E L d [.ref (sm_B E + 109)] 1 m_11 Q) ∧ ((m_11.1 109 34) = 0 → sm_callI E L mX12_byteAt 1 0 0 [.ref (sm_B E + 109), .int (m_11.1 109 31)] m_11 (fun r_13 m_12 => (r_13 = 41 → gX12_readsUnit_149 E L d [.ref (sm_B E + 109)] 0 m_12 Q) ∧ (¬ r_13 = 41 → gX12_readsUnit_149 E L d [.ref (sm_B E + 109)] 1 m_12 Q))))) : sm_callV E L mX12_readsUnit d 0 0 [.ref (sm_B E + 109)] m Q := by
  have g32 : gX12_readsUnit_32 E L d [.ref (sm_B E + 109)] (iI x) 1 m Q := by
    refine vX12_readsUnit_32 hly (dr := d - 1) hd (by omega) ⟨fun _ => ⟨fun z => ?_, fun z => ?_⟩, fun z => absurd z (by decide)⟩
    · have ho6 : o < 6 := by
        rcases Nat.lt_or_eq_of_le ho with q | q
        · exact q
        · rw [hr.2.2.2.1, q] at z
          exact absurd rfl z
      refine vX12_readsUnit_82 hly (dr := d - 1) hd (by omega) ⟨Or.inl rfl, ?_⟩
      intro m1 e1
      subst e1
      have hr1 := hr.cl
      refine ⟨fun _ => ?_, fun z => absurd (wI_eq rfl rfl) z⟩
      intro m3 e3 m4 e4
      have q33 : (sm_wI m 109 34 0).1 109 33 = iI (o : Nat) := hr1.2.2.2.1
      rw [q33, iI_p1] at e3
      subst e3
      have hr3 := hr1.lev (j := o + 1)
      have q31 : (sm_wI (sm_wI m 109 34 0) 109 33 (iI ((o + 1 : Nat) : Int))).1 109 31 = iI (i : Nat) := hr3.2.2.1
      rw [q31, iI_p1] at e4
      subst e4
      have hr4 := hr3.to (j := i + 1)
      refine ⟨fun z => h1 ho6 (fun q => z (by rw [q]; rfl)) _ hr4, fun z => h2 ho6 ?_ _ hr4⟩
      simp (disch := omega) only [forall_eq, true_and, and_true, false_and, and_false, forall_const, true_implies, implies_true, not_true_eq_false, not_false_eq_true, false_implies, if_true, if_false, ↓reduceIte, Int.toNat_natCast, Int.reduceEq, Int.reduceNe, Int.reduceLT, Int.reduceLE, Int.reduceToNat, Int.reduceAdd, Int.reduceSub, Int.reduceMul, Int.reduceNeg, Nat.reduceAdd, Nat.reduceMul, Nat.reduceSub, iI_lit, jI_lit, iI_add, iI_sub, iI_mul, iI_neg, jI_add, jI_sub, jI_mul, jI_neg, nI_i, lN_j, iI_le, iI_lt, iI_eq, jI_le, jI_lt, jI_eq, iI_in, iI_cl, iI_j, jI_i, cN, inN, wI_eq, wI_ne, wJ_1, wJ_eq, wJ_ne, wI_2, wJ_3, iI_div, iI_rem, jI_div, jI_rem, true_or, or_true, false_or, or_false, eq_self, Nat.add_zero] at z
      exact z
    · rw [hr.2.2.2.1] at z
      simp (disch := omega) only [forall_eq, true_and, and_true, false_and, and_false, forall_const, true_implies, implies_true, not_true_eq_false, not_false_eq_true, false_implies, if_true, if_false, ↓reduceIte, Int.toNat_natCast, Int.reduceEq, Int.reduceNe, Int.reduceLT, Int.reduceLE, Int.reduceToNat, Int.reduceAdd, Int.reduceSub, Int.reduceMul, Int.reduceNeg, Nat.reduceAdd, Nat.reduceMul, Nat.reduceSub, iI_lit, jI_lit, iI_add, iI_sub, iI_mul, iI_neg, jI_add, jI_sub, jI_mul, jI_neg, nI_i, lN_j, iI_le, iI_lt, iI_eq, jI_le, jI_lt, jI_eq, iI_in, iI_cl, iI_j, jI_i, cN, inN, wI_eq, wI_ne, wJ_1, wJ_eq, wJ_ne, wI_2, wJ_3, iI_div, iI_rem, jI_div, jI_rem, true_or, or_true, false_or, or_false, eq_self, Nat.add_zero] at z
      refine vX12_readsUnit_82 hly (dr := d - 1) hd (by omega) ⟨Or.inr rfl, ?_⟩
      intro m1 e1
      subst e1
      exact ⟨fun z => absurd (z.symm.trans (wI_eq rfl rfl)) (by decide), fun _ => h6 (by omega) _ hr.bad⟩
  refine vX12_readsUnit_0 hly (dr := d - 1) hd (by omega) (c_byt hly (by omega) hb hr.1 (by omega) hr.2.2.1 ?_)
  rw [h]
  refine ⟨fun _ => g32, fun z => ⟨fun _ => g32, fun z2 => ⟨fun z3 => ?_, fun _ => g32⟩⟩⟩
  rcases hx with q | q | q
  · exact absurd (by rw [q]; rfl) z
  · exact absurd (by rw [q]; rfl) z2
  · exact absurd (by rw [q]; rfl) z3
theorem u_leaf {Q : sm_M → Prop} {d : Nat} {m : sm_M} {t : Nat → Int} {n i o : Nat} (hly : ∀ S, L S → ly S) (hd : 4 ≤ d) (hb : bas2 m0 b N) (hr : rk m0 m t n i o) (hi : i ≤ N) (hn : n ≤ i) (hx : bt b N i ≠ 40 ∧ bt b N i ≠ 116 ∧ bt b N i ≠ 109)
    (h1 : bt b N i = 105 → ∀ m', rk m0 m' (tup t n 10) (n + 1) (i + 1) o → Q m')
    (h2 : bt b N i ≠ 105 → sm_callV E L mX12_readsLeaf 2 0 0 [.ref (sm_B E + 109)] m Q) : sm_callV E L mX12_readsUnit d 0 0 [.ref (sm_B E + 109)] m Q := by
  have hN := hb.1
  have hbd := bt_bd hb i
  have e5 : ((i : Nat) : Int) + 1 = ((i + 1 : Nat) : Int) := by omega
  have g32 : gX12_readsUnit_32 E L d [.ref (sm_B E + 109)] (iI (bt b N i)) 0 m Q := by
    refine vX12_readsUnit_32 hly (dr := d - 1) hd (by omega) ⟨fun z => absurd rfl z, fun _ => ⟨fun z => h2 (fun q => z (by rw [q]; rfl)), fun z => ?_⟩⟩
    simp (disch := omega) only [forall_eq, true_and, and_true, false_and, and_false, forall_const, true_implies, implies_true, not_true_eq_false, not_false_eq_true, false_implies, if_true, if_false, ↓reduceIte, Int.toNat_natCast, Int.reduceEq, Int.reduceNe, Int.reduceLT, Int.reduceLE, Int.reduceToNat, Int.reduceAdd, Int.reduceSub, Int.reduceMul, Int.reduceNeg, Nat.reduceAdd, Nat.reduceMul, Nat.reduceSub, iI_lit, jI_lit, iI_add, iI_sub, iI_mul, iI_neg, jI_add, jI_sub, jI_mul, jI_neg, nI_i, lN_j, iI_le, iI_lt, iI_eq, jI_le, jI_lt, jI_eq, iI_in, iI_cl, iI_j, jI_i, cN, inN, wI_eq, wI_ne, wJ_1, wJ_eq, wJ_ne, wI_2, wJ_3, iI_div, iI_rem, jI_div, jI_rem, true_or, or_true, false_or, or_false, eq_self, Nat.add_zero] at z
    refine c12_puts (z := 10) hly hr.2.1 (by omega) (by omega) (fun m3 f3 w3 => ?_)
    have hr3 := hr.put f3 w3
    intro m4 e4
    rw [hr3.2.2.1, iI_lit, iI_add, e5] at e4
    subst e4
    exact h1 z _ hr3.to
  refine vX12_readsUnit_0 hly (dr := d - 1) hd (by omega) (c_byt hly (by omega) hb hr.1 (by omega) hr.2.2.1 ?_)
  simp (disch := omega) only [forall_eq, true_and, and_true, false_and, and_false, forall_const, true_implies, implies_true, not_true_eq_false, not_false_eq_true, false_implies, if_true, if_false, ↓reduceIte, Int.toNat_natCast, Int.reduceEq, Int.reduceNe, Int.reduceLT, Int.reduceLE, Int.reduceToNat, Int.reduceAdd, Int.reduceSub, Int.reduceMul, Int.reduceNeg, Nat.reduceAdd, Nat.reduceMul, Nat.reduceSub, iI_lit, jI_lit, iI_add, iI_sub, iI_mul, iI_neg, jI_add, jI_sub, jI_mul, jI_neg, nI_i, lN_j, iI_le, iI_lt, iI_eq, jI_le, jI_lt, jI_eq, iI_in, iI_cl, iI_j, jI_i, cN, inN, wI_eq, wI_ne, wJ_1, wJ_eq, wJ_ne, wI_2, wJ_3, iI_div, iI_rem, jI_div, jI_rem, true_or, or_true, false_or, or_false, eq_self, Nat.add_zero]
  exact ⟨fun z => absurd z hx.1, fun _ => ⟨fun z => absurd z hx.2.1, fun _ => ⟨fun _ => g32, fun z => absurd z hx.2.2⟩⟩⟩
theorem u149 {Q : sm_M → Prop} {d : Nat} {m : sm_M} {j : Nat} {vs : List Value} (hly : ∀ S, L S → ly S) (hd : 4 ≤ d) (hr : fr rkP m0 m ∧ m.1 109 31 = iI (j : Nat)) (h : ∀ m', rf m0 m' j → Q m') : gX12_readsUnit_149 E L d vs 1 m Q := by
  refine vX12_readsUnit_149 hly (dr := d - 1) hd (by omega) ⟨Or.inr rfl, ?_⟩
  intro m1 e1
  subst e1
  have hr1 : rf m0 (sm_wI m 109 34 (iI 1)) j := ⟨hr.1.wI (Or.inr ⟨rfl, Or.inr (Or.inr rfl)⟩), (wI_ne (by omega)).trans hr.2, wI_eq rfl rfl⟩
  refine ⟨fun z => absurd (z.symm.trans (wI_eq rfl rfl)) (by decide), fun _ => vX12_readsUnit_169 hly (dr := d - 1) hd (by omega) ?_⟩
  intro m2 e2 m3 e3
  have q31 : (sm_wI m 109 34 1).1 109 31 = iI (j : Nat) := hr1.2.1
  rw [q31, iI_p0] at e2
  subst e2
  subst e3
  exact h _ hr1.to.lev
theorem r_all {md i o : Nat} {t : Nat → Int} {n j : Nat} {t' : Nat → Int} {n' : Nat} {ok : Bool} (hly : ∀ S, L S → ly S) (hb : bas2 m0 b N) (h : RP b N md i o t n j t' n' ok) : rsM E L m0 N md i o t n j t' n' ok := by
  have hN := hb.1
  have n1 : ∀ {m : sm_M} {j : Nat}, rf m0 m j → ¬ m.1 109 34 = 0 := fun h q => by
    rw [h.2.2] at q
    exact absurd q (by decide)
  have n0 : ∀ {m : sm_M} {t : Nat → Int} {n i o : Nat}, rk m0 m t n i o → m.1 109 34 = 0 := fun h => h.2.2.2.2
  induction h using RP.ind with
  | uF h =>
    intro d m Q hi ho hn hr hT hF
    refine ⟨fun _ hd => ?_, by omega, by omega, by omega, by omega⟩
    exact u_opn hly (by omega) hb hr hi ho h rfl (fun _ => hF rfl) (fun q => absurd q (by decide)) (fun q => absurd q (by decide))
  | uT x z hx h ho6 h1 ih =>
    intro d m Q hi ho hn hr hT hF
    refine ⟨fun _ hd => ?_, by omega, by omega, by omega, by omega⟩
    have hlt := bt_lt h (by omega)
    have hp := h1.pos (by omega)
    have hn' := hp.2.2.1 rfl
    refine u_opn hly (by omega) hb hr hi ho (by omega) h (fun q => by omega) (fun _ _ m1 hr1 => ?_) (fun _ q => by omega)
    refine (ih (d - 1) m1 _ (by omega) (by omega) (by omega) hr1 (fun _ m2 hr2 => ?_) (fun q => by cases q)).1 rfl (by omega)
    refine ⟨fun q => absurd (n0 hr2) q, fun _ => ?_⟩
    rcases hx with ⟨q1, q2⟩ | ⟨q1, q2⟩
    · subst q1
      subst q2
      refine ⟨fun q => absurd rfl q, fun _ => c12_puts (z := 13) hly hr2.2.1 (by omega) (by omega) (fun m3 f3 w3 => (hr2.put f3 w3).dn (hT rfl))⟩
    · subst q1
      subst q2
      refine ⟨fun _ => c12_puts (z := 14) hly hr2.2.1 (by omega) (by omega) (fun m3 f3 w3 => (hr2.put f3 w3).dn (hT rfl)), fun q => absurd q (by decide)⟩
  | uTf x hx h ho6 h1 ih =>
    intro d m Q hi ho hn hr hT hF
    refine ⟨fun _ hd => ?_, by omega, by omega, by omega, by omega⟩
    have hlt := bt_lt h (by omega)
    refine u_opn hly (by omega) hb hr hi ho (by omega) h (fun q => by omega) (fun _ _ m1 hr1 => ?_) (fun _ q => by omega)
    refine (ih (d - 1) m1 _ (by omega) (by omega) (by omega) hr1 (fun q => by cases q) (fun _ m2 hr2 => ?_)).1 rfl (by omega)
    refine ⟨fun _ m6 e6 => ?_, fun q => absurd q (n1 hr2)⟩
    subst e6
    exact hF rfl _ hr2.lev
  | uP h ho6 h1 hj ih =>
    intro d m Q hi ho hn hr hT hF
    refine ⟨fun _ hd => ?_, by omega, by omega, by omega, by omega⟩
    have hlt := bt_lt h (by omega)
    have hp := h1.pos (by omega)
    refine u_opn hly (by omega) hb hr hi ho (Or.inl rfl) h (fun q => by omega) (fun _ q => absurd rfl q) (fun _ _ m1 hr1 => ?_)
    refine (ih (d - 1) m1 _ (by omega) (by omega) (by omega) hr1 (fun _ m2 hr2 => ?_) (fun q => by cases q)).2.2.2.1 rfl (by omega)
    refine ⟨fun q => absurd (n0 hr2) q, fun _ => c_byt hly (by omega) hb hr2.1 (by omega) hr2.2.2.1 ?_⟩
    rw [hj]
    refine ⟨fun _ => vX12_readsUnit_149 hly (dr := d - 1) (by omega) (by omega) ⟨Or.inl rfl, ?_⟩, fun z => absurd rfl z⟩
    intro m3 e3
    subst e3
    have hr3 := hr2.cl
    refine ⟨fun _ => vX12_readsUnit_169 hly (dr := d - 1) (by omega) (by omega) ?_, fun z => absurd (wI_eq rfl rfl) z⟩
    intro m4 e4 m5 e5
    have q31 : (sm_wI m2 109 34 0).1 109 31 = _ := hr3.2.2.1
    rw [q31, iI_p1] at e4
    subst e4
    exact (hr3.to).dn (hT rfl) m5 e5
  | uPf h ho6 h1 hj ih =>
    intro d m Q hi ho hn hr hT hF
    refine ⟨fun _ hd => ?_, by omega, by omega, by omega, by omega⟩
    have hlt := bt_lt h (by omega)
    have hp := h1.pos (by omega)
    refine u_opn hly (by omega) hb hr hi ho (Or.inl rfl) h (fun q => by omega) (fun _ q => absurd rfl q) (fun _ _ m1 hr1 => ?_)
    refine (ih (d - 1) m1 _ (by omega) (by omega) (by omega) hr1 (fun _ m2 hr2 => ?_) (fun q => by cases q)).2.2.2.1 rfl (by omega)
    refine ⟨fun q => absurd (n0 hr2) q, fun _ => c_byt hly (by omega) hb hr2.1 (by omega) hr2.2.2.1 ⟨fun z => ?_, fun _ => u149 hly (by omega) ⟨hr2.1, hr2.2.2.1⟩ (hF rfl)⟩⟩
    exact absurd (bt_is hb (by decide) (by decide) z) hj
  | uPg h ho6 h1 ih =>
    intro d m Q hi ho hn hr hT hF
    refine ⟨fun _ hd => ?_, by omega, by omega, by omega, by omega⟩
    have hlt := bt_lt h (by omega)
    refine u_opn hly (by omega) hb hr hi ho (Or.inl rfl) h (fun q => by omega) (fun _ q => absurd rfl q) (fun _ _ m1 hr1 => ?_)
    refine (ih (d - 1) m1 _ (by omega) (by omega) (by omega) hr1 (fun q => by cases q) (fun _ m2 hr2 => ?_)).2.2.2.1 rfl (by omega)
    exact ⟨fun _ => u149 hly (by omega) ⟨hr2.1, hr2.2.1⟩ (hF rfl), fun q => absurd q (n1 hr2)⟩
  | uI h =>
    intro d m Q hi ho hn hr hT hF
    refine ⟨fun _ hd => ?_, by omega, by omega, by omega, by omega⟩
    exact u_leaf hly (by omega) hb hr hi hn (by omega) (fun _ => hT rfl) (fun q => absurd h q)
  | uD h1 h2 =>
    intro d m Q hi ho hn hr hT hF
    refine ⟨fun _ hd => ?_, by omega, by omega, by omega, by omega⟩
    exact u_leaf hly (by omega) hb hr hi hn (by omega) (fun q => by omega) (fun _ => c12_leaf hly (by omega) hb hr hi (by omega) (fun _ _ => hT rfl) (fun _ q => absurd ⟨h1, h2⟩ q) (fun q => by omega) (fun q => by omega))
  | uN h h1 h2 =>
    intro d m Q hi ho hn hr hT hF
    refine ⟨fun _ hd => ?_, by omega, by omega, by omega, by omega⟩
    exact u_leaf hly (by omega) hb hr hi hn (by omega) (fun q => by omega) (fun _ => c12_leaf hly (by omega) hb hr hi (by omega) (fun q => absurd h q) (fun q => absurd h q) (fun _ _ => hT rfl) (fun _ q => absurd ⟨h1, h2⟩ q))
  | uNf h h1 =>
    intro d m Q hi ho hn hr hT hF
    refine ⟨fun _ hd => ?_, by omega, by omega, by omega, by omega⟩
    exact u_leaf hly (by omega) hb hr hi hn (by omega) (fun q => by omega) (fun _ => c12_leaf hly (by omega) hb hr hi (by omega) (fun q => absurd h q) (fun q => absurd h q) (fun _ q => by omega) (fun _ _ => hF rfl))
  | uX h h1 =>
    intro d m Q hi ho hn hr hT hF
    refine ⟨fun _ hd => ?_, by omega, by omega, by omega, by omega⟩
    exact u_leaf hly (by omega) hb hr hi hn (by omega) (fun q => by omega) (fun _ => c12_leaf hly (by omega) hb hr hi (by omega) (fun _ q => by omega) (fun _ _ => hF rfl) (fun q => by omega) (fun q => by omega))
  | s h1 h2 ih1 ih2 =>
    intro d m Q hi ho hn hr hT hF
    refine ⟨by omega, fun _ hd => ?_, by omega, by omega, by omega⟩
    have hp := h1.pos hi
    have hn' := hp.2.2.1 rfl
    refine vX12_readsStack_0 hly (dr := d - 1) (by omega) (by omega) ((ih1 (d - 1) m _ hi ho hn hr (fun _ m1 hr1 => ?_) (fun q => by cases q)).1 rfl (by omega))
    exact (ih2 d m1 Q hp.2.1 ho (by omega) hr1 hT hF).2.2.1 rfl hd _
  | sf h1 ih =>
    intro d m Q hi ho hn hr hT hF
    refine ⟨by omega, fun _ hd => ?_, by omega, by omega, by omega⟩
    refine vX12_readsStack_0 hly (dr := d - 1) (by omega) (by omega) ((ih (d - 1) m _ hi ho hn hr (fun q => by cases q) (fun _ m1 hr1 => ?_)).1 rfl (by omega))
    exact vX12_readsStack_4 hly (dr := d - 1) (by omega) (by omega) ⟨fun _ => hF rfl m1 hr1, fun q => absurd q (n1 hr1)⟩
  | l0 h =>
    intro d m Q hi ho hn hr hT hF
    refine ⟨by omega, by omega, fun _ hd vs => ?_, by omega, by omega⟩
    refine vX12_readsStack_4 hly (dr := d - 1) (by omega) (by omega) ⟨fun q => absurd (n0 hr) q, fun _ => c_byt hly (by omega) hb hr.1 (by omega) hr.2.2.1 ⟨fun _ => hT rfl m hr, fun z => absurd (bt_is hb (by decide) (by decide) z) h⟩⟩
  | l1 h h1 h2 ih1 ih2 =>
    intro d m Q hi ho hn hr hT hF
    refine ⟨by omega, by omega, fun _ hd vs => ?_, by omega, by omega⟩
    have hlt := bt_lt h (by omega)
    have hp := h1.pos (by omega)
    have hn' := hp.2.2.1 rfl
    refine vX12_readsStack_4 hly (dr := d - 1) (by omega) (by omega) ⟨fun q => absurd (n0 hr) q, fun _ => c_byt hly (by omega) hb hr.1 (by omega) hr.2.2.1 ⟨fun z => absurd (by rw [h]; rfl) z, fun _ m3 e3 => ?_⟩⟩
    rw [hr.2.2.1, iI_p1] at e3
    subst e3
    refine (ih1 (d - 1) _ _ (by omega) ho (by omega) hr.to (fun _ m1 hr1 => ⟨fun q => absurd (n0 hr1) q, fun _ => ?_⟩) (fun q => by cases q)).1 rfl (by omega)
    refine c12_puts (z := 12) hly hr1.2.1 (by omega) (by omega) (fun m4 f4 w4 => ?_)
    exact (ih2 d m4 Q hp.2.1 ho (by omega) (hr1.put f4 w4) hT hF).2.2.1 rfl hd _
  | lf h h1 ih =>
    intro d m Q hi ho hn hr hT hF
    refine ⟨by omega, by omega, fun _ hd vs => ?_, by omega, by omega⟩
    have hlt := bt_lt h (by omega)
    refine vX12_readsStack_4 hly (dr := d - 1) (by omega) (by omega) ⟨fun q => absurd (n0 hr) q, fun _ => c_byt hly (by omega) hb hr.1 (by omega) hr.2.2.1 ⟨fun z => absurd (by rw [h]; rfl) z, fun _ m3 e3 => ?_⟩⟩
    rw [hr.2.2.1, iI_p1] at e3
    subst e3
    refine (ih (d - 1) _ _ (by omega) ho (by omega) hr.to (fun q => by cases q) (fun _ m1 hr1 => ⟨fun _ => ?_, fun q => absurd q (n1 hr1)⟩)).1 rfl (by omega)
    exact vX12_readsStack_4 hly (dr := d - 1) (by omega) (by omega) ⟨fun _ => hF rfl m1 hr1, fun q => absurd q (n1 hr1)⟩
  | a h1 h2 ih1 ih2 =>
    intro d m Q hi ho hn hr hT hF
    refine ⟨by omega, by omega, by omega, fun _ hd => ?_, by omega⟩
    have hp := h1.pos hi
    have hn' := hp.2.2.1 rfl
    refine vX12_readsAll_0 hly (dr := d - 1) (by omega) (by omega) ((ih1 (d - 1) m _ hi ho hn hr (fun _ m1 hr1 => ?_) (fun q => by cases q)).2.1 rfl (by omega))
    exact (ih2 d m1 Q hp.2.1 ho (by omega) hr1 hT hF).2.2.2.2 rfl hd _
  | af h1 ih =>
    intro d m Q hi ho hn hr hT hF
    refine ⟨by omega, by omega, by omega, fun _ hd => ?_, by omega⟩
    refine vX12_readsAll_0 hly (dr := d - 1) (by omega) (by omega) ((ih (d - 1) m _ hi ho hn hr (fun q => by cases q) (fun _ m1 hr1 => ?_)).2.1 rfl (by omega))
    exact vX12_readsAll_4 hly (dr := d - 1) (by omega) (by omega) ⟨fun _ => hF rfl m1 hr1, fun q => absurd q (n1 hr1)⟩
  | m0 h =>
    intro d m Q hi ho hn hr hT hF
    refine ⟨by omega, by omega, by omega, by omega, fun _ hd vs => ?_⟩
    refine vX12_readsAll_4 hly (dr := d - 1) (by omega) (by omega) ⟨fun q => absurd (n0 hr) q, fun _ => c_byt hly (by omega) hb hr.1 (by omega) hr.2.2.1 ⟨fun _ => hT rfl m hr, fun z => absurd (bt_is hb (by decide) (by decide) z) h⟩⟩
  | m1 h h1 h2 ih1 ih2 =>
    intro d m Q hi ho hn hr hT hF
    refine ⟨by omega, by omega, by omega, by omega, fun _ hd vs => ?_⟩
    have hlt := bt_lt h (by omega)
    have hp := h1.pos (by omega)
    have hn' := hp.2.2.1 rfl
    refine vX12_readsAll_4 hly (dr := d - 1) (by omega) (by omega) ⟨fun q => absurd (n0 hr) q, fun _ => c_byt hly (by omega) hb hr.1 (by omega) hr.2.2.1 ⟨fun z => absurd (by rw [h]; rfl) z, fun _ m3 e3 => ?_⟩⟩
    rw [hr.2.2.1, iI_p1] at e3
    subst e3
    refine (ih1 (d - 1) _ _ (by omega) ho (by omega) hr.to (fun _ m1 hr1 => ⟨fun q => absurd (n0 hr1) q, fun _ => ?_⟩) (fun q => by cases q)).2.1 rfl (by omega)
    refine c12_puts (z := 11) hly hr1.2.1 (by omega) (by omega) (fun m4 f4 w4 => ?_)
    exact (ih2 d m4 Q hp.2.1 ho (by omega) (hr1.put f4 w4) hT hF).2.2.2.2 rfl hd _
  | mf h h1 ih =>
    intro d m Q hi ho hn hr hT hF
    refine ⟨by omega, by omega, by omega, by omega, fun _ hd vs => ?_⟩
    have hlt := bt_lt h (by omega)
    refine vX12_readsAll_4 hly (dr := d - 1) (by omega) (by omega) ⟨fun q => absurd (n0 hr) q, fun _ => c_byt hly (by omega) hb hr.1 (by omega) hr.2.2.1 ⟨fun z => absurd (by rw [h]; rfl) z, fun _ m3 e3 => ?_⟩⟩
    rw [hr.2.2.1, iI_p1] at e3
    subst e3
    refine (ih (d - 1) _ _ (by omega) ho (by omega) hr.to (fun q => by cases q) (fun _ m1 hr1 => ⟨fun _ => ?_, fun q => absurd q (n1 hr1)⟩)).2.1 rfl (by omega)
    exact vX12_readsAll_4 hly (dr := d - 1) (by omega) (by omega) ⟨fun _ => hF rfl m1 hr1, fun q => absurd q (n1 hr1)⟩
end TX5
