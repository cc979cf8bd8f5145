/-! words of the tape: moves -/
/-- bytes f .. t - 1 are the word w -/
def wIs (b : Nat → Int) (f t w : Nat) : Prop := f + sm_len.getD w 0 = t ∧ ∀ k, k < sm_len.getD w 0 → iI (b (f + k)) = sm_chr w k
theorem sm_len_bd (w : Nat) (h : w < 6) : 4 ≤ sm_len.getD w 0 ∧ sm_len.getD w 0 ≤ 7 := by
  rcases (show w = 0 ∨ w = 1 ∨ w = 2 ∨ w = 3 ∨ w = 4 ∨ w = 5 by omega) with rfl | rfl | rfl | rfl | rfl | rfl <;> decide
theorem wIs_uniq {b : Nat → Int} {f t w v : Nat} (hw : w < 6) (hv : v < 6) (h1 : wIs b f t w) (h2 : wIs b f t v) : w = v := by
  obtain ⟨a1, a2⟩ := h1
  obtain ⟨b1, b2⟩ := h2
  have e : sm_len.getD w 0 = sm_len.getD v 0 := by omega
  have c0 := (a2 0 (by have := sm_len_bd w hw; omega)).symm.trans (b2 0 (by have := sm_len_bd v hv; omega))
  rcases (show w = 0 ∨ w = 1 ∨ w = 2 ∨ w = 3 ∨ w = 4 ∨ w = 5 by omega) with rfl | rfl | rfl | rfl | rfl | rfl <;> rcases (show v = 0 ∨ v = 1 ∨ v = 2 ∨ v = 3 ∨ v = 4 ∨ v = 5 by omega) with rfl | rfl | rfl | rfl | rfl | rfl <;> first | rfl | exact absurd e (by decide) | exact absurd c0 (by decide)
def watP (b : Nat → Int) (f t : Nat) (z : Int) : Prop := (∃ w : Nat, w < 6 ∧ wIs b f t w ∧ z = w) ∨ ((∀ w, w < 6 → ¬ wIs b f t w) ∧ z = -1)
theorem watP_ex (b : Nat → Int) (f t : Nat) : ∃ z, watP b f t z := by
  by_cases h : ∃ w, w < 6 ∧ wIs b f t w
  · obtain ⟨w, h1, h2⟩ := h
    exact ⟨w, Or.inl ⟨w, h1, h2, rfl⟩⟩
  · exact ⟨-1, Or.inr ⟨fun w h1 h2 => h ⟨w, h1, h2⟩, rfl⟩⟩
noncomputable def wat (b : Nat → Int) (f t : Nat) : Int := Classical.choose (watP_ex b f t)
theorem wat_is (b : Nat → Int) (f t : Nat) : watP b f t (wat b f t) := Classical.choose_spec (watP_ex b f t)
theorem wat_of {b : Nat → Int} {f t w : Nat} (hw : w < 6) (h : wIs b f t w) : wat b f t = w := by
  rcases wat_is b f t with ⟨v, h1, h2, h3⟩ | ⟨h1, h2⟩
  · rw [h3, wIs_uniq h1 hw h2 h]
  · exact absurd h (h1 w hw)
theorem wat_no {b : Nat → Int} {f t : Nat} (h : ∀ w, w < 6 → ¬ wIs b f t w) : wat b f t = -1 := by
  rcases wat_is b f t with ⟨v, h1, h2, h3⟩ | ⟨h1, h2⟩
  · exact absurd h2 (h v h1)
  · exact h2
theorem wat_bd (b : Nat → Int) (f t : Nat) : -1 ≤ wat b f t ∧ wat b f t ≤ 5 := by
  rcases wat_is b f t with ⟨v, h1, h2, h3⟩ | ⟨h1, h2⟩ <;> omega
/-- where the word that begins at i ends -/
def nxw (b : Nat → Int) (n : Nat) : Nat → Nat → Nat
  | 0, i => i
  | f + 1, i => if n ≤ i then i else if b i = 32 then i else nxw b n f (i + 1)
noncomputable def mvR (b : Nat → Int) (n : Nat) : Nat → Nat → Int × List Int
  | 0, _ => (-1, [])
  | f + 1, i => if n ≤ i then (-1, []) else if nxw b n (n - i) i = i then mvR b n f (i + 1) else if wat b i (nxw b n (n - i) i) < 0 then ((i : Int), []) else ((mvR b n f (nxw b n (n - i) i + 1)).1, wat b i (nxw b n (n - i) i) :: (mvR b n f (nxw b n (n - i) i + 1)).2)
def apM : List Int → (Nat → Int) → Nat → Option ((Nat → Int) × Nat)
  | [], t, n => some (t, n)
  | x :: xs, t, n => if lvs (mvt t n x) (mvn n x) ≤ 24 ∧ crs (mvt t n x) (mvn n x) ≤ 24 ∧ mvn n x ≤ 60 then apM xs (mvt t n x) (mvn n x) else none
theorem nxw_ge (b : Nat → Int) (n : Nat) : ∀ f i, i ≤ nxw b n f i := by
  intro f
  induction f with
  | zero => exact fun i => Nat.le_refl _
  | succ f ih =>
    intro i
    rw [nxw]
    split
    · exact Nat.le_refl _
    · split
      · exact Nat.le_refl _
      · have := ih (i + 1)
        omega
theorem nxw_le (b : Nat → Int) (n : Nat) : ∀ f i, i ≤ n → n ≤ i + f → nxw b n f i ≤ n := by
  intro f
  induction f with
  | zero => exact fun i h _ => h
  | succ f ih =>
    intro i h1 h2
    rw [nxw]
    split
    · exact h1
    · split
      · exact h1
      · exact ih (i + 1) (by omega) (by omega)
theorem nxw_step {b : Nat → Int} {n i : Nat} (h1 : i < n) (h2 : b i ≠ 32) : nxw b n (n - i) i = nxw b n (n - (i + 1)) (i + 1) := by
  rw [show n - i = (n - (i + 1)) + 1 by omega, nxw, if_neg (by omega), if_neg h2]
theorem nxw_at {b : Nat → Int} {n i : Nat} (h : n ≤ i ∨ b i = 32) : nxw b n (n - i) i = i := by
  rcases Nat.lt_or_ge i n with h1 | h1
  · rw [show n - i = (n - (i + 1)) + 1 by omega, nxw, if_neg (by omega), if_pos (by omega)]
  · rw [show n - i = 0 by omega, nxw]
theorem mvR_bd (b : Nat → Int) (n : Nat) : ∀ f i, (-1 ≤ (mvR b n f i).1 ∧ (mvR b n f i).1 ≤ n) ∧ (∀ x, x ∈ (mvR b n f i).2 → 0 ≤ x ∧ x ≤ 5) ∧ ((mvR b n f i).2.length ≤ n - i) := by
  intro f
  induction f with
  | zero => exact fun i => ⟨by rw [mvR]; omega, by rw [mvR]; simp, by rw [mvR]; simp⟩
  | succ f ih =>
    intro i
    rw [mvR]
    by_cases h1 : n ≤ i
    · rw [if_pos h1]
      exact ⟨by simp, by simp, by simp⟩
    · rw [if_neg h1]
      by_cases h2 : nxw b n (n - i) i = i
      · rw [if_pos h2]
        obtain ⟨a1, a2, a3⟩ := ih (i + 1)
        exact ⟨a1, a2, by omega⟩
      · rw [if_neg h2]
        by_cases h3 : wat b i (nxw b n (n - i) i) < 0
        · rw [if_pos h3]
          exact ⟨by simp; omega, by simp, by simp⟩
        · rw [if_neg h3]
          obtain ⟨a1, a2, a3⟩ := ih (nxw b n (n - i) i + 1)
          have g1 := nxw_ge b n (n - i) i
          have g2 := nxw_le b n (n - i) i (by omega) (by omega)
          have wb := wat_bd b i (nxw b n (n - i) i)
          refine ⟨a1, fun x hx => ?_, ?_⟩
          · rcases List.mem_cons.mp hx with e | e
            · rw [e]
              omega
            · exact a2 x e
          · simp only [List.length_cons]
            omega
section WOR
variable {E : sm_E} {L : sm_S → Prop} {d d1 d2 : Nat} {m : sm_M} {c : Nat}
theorem c_length {Q : Int32 → sm_M → Prop} {w : Nat} (hd : 2 ≤ d) (hw : w < 6) (h : Q (iI (sm_len.getD w 0 : Nat)) m) : sm_callI E L mJ0_length_8abf5 d 0 0 [.ref (E.2.2.2.2.2.1 w)] m Q := by
  refine vJ0_length_8abf5_0 hd hw (vJ0_coder_7d493_0 (by omega) hw ?_)
  have e : (nI (sm_len.getD w 0)) >>> ((0 : Int32) &&& 31) = iI (sm_len.getD w 0 : Nat) := by
    rcases (show w = 0 ∨ w = 1 ∨ w = 2 ∨ w = 3 ∨ w = 4 ∨ w = 5 by omega) with rfl | rfl | rfl | rfl | rfl | rfl <;> decide
  rw [e]
  exact ⟨by decide, h⟩
theorem c_wordOf {Q : Nat → sm_M → Prop} {w : Nat} (hd : 1 ≤ d) (hw : w < 6) (h : Q w m) : sm_callS E L mX9_wordOf d 0 0 [.int (iI (w : Nat))] m Q := by
  refine vX9_wordOf_0 hd ?_
  rcases (show w = 0 ∨ w = 1 ∨ w = 2 ∨ w = 3 ∨ w = 4 ∨ w = 5 by omega) with rfl | rfl | rfl | rfl | rfl | rfl <;> refine ⟨fun z => ?_, fun z => ?_, fun z => ?_, fun z => ?_, fun z => ?_, fun z => ?_⟩ <;> first | exact h | exact absurd z (by decide)
theorem c_says {Q : Int32 → sm_M → Prop} {b : Nat → Int} {n f t w : Nat} (hly : ∀ S, L S → ly S) (hd : 6 ≤ d) (hw : w < 6) (hft : f < t) (htn : t ≤ n) (hn : n ≤ 100) (h4 : m.1 10 4 = iI (n : Nat)) (hb : ∀ k, k < n → m.1 11 k = iI (b k)) (h1 : wIs b f t w → Q (iI 1) m) (h0 : ¬ wIs b f t w → Q (iI 0) m) : sm_callI E L mX9_says d 0 0 [.ref (sm_B E + 10), .int (iI (f : Nat)), .int (iI (t : Nat)), .ref (E.2.2.2.2.2.1 w)] m Q := by
  have lb := sm_len_bd w hw
  refine vX9_says_0 hly hd hw (c_length (by omega) hw ?_)
  rw [h4]
  generalize hl : sm_len.getD w 0 = l at *
  simp (disch := omega) only [forall_eq, true_and, and_true, false_and, and_false, forall_const, true_implies, implies_true, not_true_eq_false, not_false_eq_true, false_implies, if_true, if_false, ↓reduceIte, Int.toNat_natCast, Int.reduceEq, Int.reduceNe, Int.reduceLT, Int.reduceLE, Int.reduceToNat, Int.reduceAdd, Int.reduceSub, Int.reduceMul, Int.reduceNeg, Nat.reduceAdd, Nat.reduceMul, Nat.reduceSub, iI_lit, jI_lit, iI_add, iI_sub, iI_mul, iI_neg, jI_add, jI_sub, jI_mul, jI_neg, nI_i, lN_j, iI_le, iI_lt, iI_eq, jI_le, jI_lt, jI_eq, iI_in, iI_cl, iI_j, jI_i, cN, inN, wI_eq, wI_ne, wJ_1, wJ_eq, wJ_ne, wI_2, wJ_3, iI_div, iI_rem, jI_div, jI_rem, true_or, or_true, false_or, or_false, eq_self, Nat.add_zero]
  refine ⟨fun z => h0 (fun q => ?_), fun z => ⟨fun _ => ?_, fun z2 => by omega⟩⟩
  · have := q.1
    rw [hl] at this
    omega
  · have key : ∀ (r k : Nat), k + r = l → (∀ j, j < k → iI (b (f + j)) = sm_chr w j) → gX9_says_23 E L d [.ref (sm_B E + 10), .int (iI (f : Nat)), .int (iI (t : Nat)), .ref (E.2.2.2.2.2.1 w)] (iI (f : Nat)) w (iI (k : Nat)) m Q := by
      intro r
      induction r with
      | zero =>
        intro k hk hs
        have : k = l := by omega
        subst this
        refine vX9_says_23 hly hd hw (c_length (by omega) hw ?_)
        rw [hl]
        simp (disch := omega) only [forall_eq, true_and, and_true, false_and, and_false, forall_const, true_implies, implies_true, not_true_eq_false, not_false_eq_true, false_implies, if_true, if_false, ↓reduceIte, Int.toNat_natCast, Int.reduceEq, Int.reduceNe, Int.reduceLT, Int.reduceLE, Int.reduceToNat, Int.reduceAdd, Int.reduceSub, Int.reduceMul, Int.reduceNeg, Nat.reduceAdd, Nat.reduceMul, Nat.reduceSub, iI_lit, jI_lit, iI_add, iI_sub, iI_mul, iI_neg, jI_add, jI_sub, jI_mul, jI_neg, nI_i, lN_j, iI_le, iI_lt, iI_eq, jI_le, jI_lt, jI_eq, iI_in, iI_cl, iI_j, jI_i, cN, inN, wI_eq, wI_ne, wJ_1, wJ_eq, wJ_ne, wI_2, wJ_3, iI_div, iI_rem, jI_div, jI_rem, true_or, or_true, false_or, or_false, eq_self, Nat.add_zero]
        refine ⟨fun _ => h1 ⟨by rw [hl]; omega, by rw [hl]; exact hs⟩, fun z => by omega⟩
      | succ r ih =>
        intro k hk hs
        have e5 : ((k : Nat) : Int) + 1 = ((k + 1 : Nat) : Int) := by omega
        have e6 : ((f : Nat) : Int) + ((k : Nat) : Int) = ((f + k : Nat) : Int) := by omega
        refine vX9_says_23 hly hd hw (c_length (by omega) hw ?_)
        rw [hl]
        simp (disch := omega) only [forall_eq, true_and, and_true, false_and, and_false, forall_const, true_implies, implies_true, not_true_eq_false, not_false_eq_true, false_implies, if_true, if_false, ↓reduceIte, Int.toNat_natCast, Int.reduceEq, Int.reduceNe, Int.reduceLT, Int.reduceLE, Int.reduceToNat, Int.reduceAdd, Int.reduceSub, Int.reduceMul, Int.reduceNeg, Nat.reduceAdd, Nat.reduceMul, Nat.reduceSub, iI_lit, jI_lit, iI_add, iI_sub, iI_mul, iI_neg, jI_add, jI_sub, jI_mul, jI_neg, nI_i, lN_j, iI_le, iI_lt, iI_eq, jI_le, jI_lt, jI_eq, iI_in, iI_cl, iI_j, jI_i, cN, inN, wI_eq, wI_ne, wJ_1, wJ_eq, wJ_ne, wI_2, wJ_3, iI_div, iI_rem, jI_div, jI_rem, true_or, or_true, false_or, or_false, eq_self, Nat.add_zero, e6]
        refine ⟨fun z => by omega, fun _ => ⟨by omega, vJ0_charAt_5068e (by omega) hw (by rw [inN (by omega), hl]; omega) ?_⟩⟩
        rw [cN (by omega), hb (f + k) (by omega)]
        simp (disch := omega) only [forall_eq, true_and, and_true, false_and, and_false, forall_const, true_implies, implies_true, not_true_eq_false, not_false_eq_true, false_implies, if_true, if_false, ↓reduceIte, Int.toNat_natCast, Int.reduceEq, Int.reduceNe, Int.reduceLT, Int.reduceLE, Int.reduceToNat, Int.reduceAdd, Int.reduceSub, Int.reduceMul, Int.reduceNeg, Nat.reduceAdd, Nat.reduceMul, Nat.reduceSub, iI_lit, jI_lit, iI_add, iI_sub, iI_mul, iI_neg, jI_add, jI_sub, jI_mul, jI_neg, nI_i, lN_j, iI_le, iI_lt, iI_eq, jI_le, jI_lt, jI_eq, iI_in, iI_cl, iI_j, jI_i, cN, inN, wI_eq, wI_ne, wJ_1, wJ_eq, wJ_ne, wI_2, wJ_3, iI_div, iI_rem, jI_div, jI_rem, true_or, or_true, false_or, or_false, eq_self, Nat.add_zero, e5]
        refine ⟨fun z => ih (k + 1) (by omega) (fun j hj => ?_), fun z => h0 (fun q => z (q.2 k (by rw [hl]; omega)))⟩
        by_cases hjk : j = k
        · subst hjk
          exact z
        · exact hs j (by omega)
    exact key l 0 (by omega) (fun j hj => absurd hj (Nat.not_lt_zero _))
theorem c_moveAt {Q : Int32 → sm_M → Prop} {b : Nat → Int} {n f t : Nat} (hly : ∀ S, L S → ly S) (hd : 7 ≤ d) (hft : f < t) (htn : t ≤ n) (hn : n ≤ 100) (h4 : m.1 10 4 = iI (n : Nat)) (hb : ∀ k, k < n → m.1 11 k = iI (b k)) (h : Q (iI (wat b f t)) m) : sm_callI E L mX9_moveAt d 0 0 [.ref (sm_B E + 10), .int (iI (f : Nat)), .int (iI (t : Nat))] m Q := by
  refine vX9_moveAt_0 hd ?_
  have key : ∀ (r w : Nat), w + r = 6 → (∀ v, v < w → ¬ wIs b f t v) → gX9_moveAt_2 E L d [.ref (sm_B E + 10), .int (iI (f : Nat)), .int (iI (t : Nat))] (iI (f : Nat)) (iI (t : Nat)) (iI (w : Nat)) m Q := by
    intro r
    induction r with
    | zero =>
      intro w hw hno
      have : w = 6 := by omega
      subst this
      refine vX9_moveAt_2 hly hd ⟨fun _ => ?_, fun z => absurd (by decide) z⟩
      rw [wat_no hno] at h
      exact h
    | succ r ih =>
      intro w hw hno
      have e5 : ((w : Nat) : Int) + 1 = ((w + 1 : Nat) : Int) := by omega
      have k : sm_callI E L mX9_says 6 0 0 [.ref (sm_B E + 10), .int (iI (f : Nat)), .int (iI (t : Nat)), .ref (E.2.2.2.2.2.1 w)] m (fun r_4 m_3 => (r_4 = 0 → ∀ x3_5 : Int32, x3_5 = iI (w : Nat) + 1 → gX9_moveAt_2 E L d [.ref (sm_B E + 10), .int (iI (f : Nat)), .int (iI (t : Nat))] (iI (f : Nat)) (iI (t : Nat)) x3_5 m_3 Q) ∧ (¬ r_4 = 0 → Q (iI (w : Nat)) m_3)) := by
        refine c_says hly (by omega) (by omega) hft htn hn h4 hb (fun hy => ?_) (fun hy => ?_)
        · refine ⟨fun z => absurd z (by decide), fun _ => ?_⟩
          rw [wat_of (by omega) hy] at h
          exact h
        · refine ⟨fun _ x3 e3 => ?_, fun z => absurd rfl z⟩
          rw [iI_lit, iI_add] at e3
          subst e3
          have := ih (w + 1) (by omega) (fun v hv => by
            by_cases hvw : v = w
            · subst hvw
              exact hy
            · exact hno v (by omega))
          rw [← e5] at this
          exact this
      refine vX9_moveAt_2 hly hd ⟨fun z => ?_, fun _ => c_wordOf (by omega) (by omega) k⟩
      simp (disch := omega) only [forall_eq, true_and, and_true, false_and, and_false, forall_const, true_implies, implies_true, not_true_eq_false, not_false_eq_true, false_implies, if_true, if_false, ↓reduceIte, Int.toNat_natCast, Int.reduceEq, Int.reduceNe, Int.reduceLT, Int.reduceLE, Int.reduceToNat, Int.reduceAdd, Int.reduceSub, Int.reduceMul, Int.reduceNeg, Nat.reduceAdd, Nat.reduceMul, Nat.reduceSub, iI_lit, jI_lit, iI_add, iI_sub, iI_mul, iI_neg, jI_add, jI_sub, jI_mul, jI_neg, nI_i, lN_j, iI_le, iI_lt, iI_eq, jI_le, jI_lt, jI_eq, iI_in, iI_cl, iI_j, jI_i, cN, inN, wI_eq, wI_ne, wJ_1, wJ_eq, wJ_ne, wI_2, wJ_3, iI_div, iI_rem, jI_div, jI_rem, true_or, or_true, false_or, or_false, eq_self, Nat.add_zero] at z
      omega
  exact key 6 0 rfl (fun v hv => absurd hv (Nat.not_lt_zero _))
end WOR
