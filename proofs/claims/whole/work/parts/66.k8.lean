/-! moves -/
theorem nxw_stop {b : Nat → Int} {n i : Nat} (h : nxw b n (n - i) i = i) (hi : i < n) : b i = 32 := by
  apply Classical.byContradiction
  intro hb
  have h1 := nxw_step hi hb
  have h2 := nxw_ge b n (n - (i + 1)) (i + 1)
  omega
theorem words_at (w : Nat) (hw : w < 6) (j : Nat) (hj : j < 7) : sm_words.getD (7 * w + j) 0 = if j < sm_len.getD w 0 then sm_chr w j else -1 := by
  rcases (show w = 0 ∨ w = 1 ∨ w = 2 ∨ w = 3 ∨ w = 4 ∨ w = 5 by omega) with rfl | rfl | rfl | rfl | rfl | rfl <;> rcases (show j = 0 ∨ j = 1 ∨ j = 2 ∨ j = 3 ∨ j = 4 ∨ j = 5 ∨ j = 6 by omega) with rfl | rfl | rfl | rfl | rfl | rfl | rfl <;> decide
/-- a letter of the table is the letter there -/
def wMt (b : Nat → Int) (f t w j : Nat) : Prop := (if f + j < t then iI (b (f + j)) else -1) = sm_words.getD (7 * w + j) 0
theorem chr_ne (w j : Nat) (hw : w < 6) (hj : j < sm_len.getD w 0) : sm_chr w j ≠ -1 := by
  have := sm_len_bd w hw
  rcases (show w = 0 ∨ w = 1 ∨ w = 2 ∨ w = 3 ∨ w = 4 ∨ w = 5 by omega) with rfl | rfl | rfl | rfl | rfl | rfl <;> rcases (show j = 0 ∨ j = 1 ∨ j = 2 ∨ j = 3 ∨ j = 4 ∨ j = 5 ∨ j = 6 by omega) with rfl | rfl | rfl | rfl | rfl | rfl | rfl <;> revert hj <;> decide
theorem wIs_iff {b : Nat → Int} {f t w : Nat} (hw : w < 6) (hft : f < t) (hb : ∀ k, k < t → 0 ≤ b k ∧ b k ≤ 255) : (t - f ≤ 7 ∧ ∀ j, j < 7 → wMt b f t w j) ↔ wIs b f t w := by
  have lb := sm_len_bd w hw
  have hne : ∀ k, k < t → iI (b k) ≠ -1 := fun k hk => by
    have := hb k hk
    rw [show (-1 : Int32) = iI (-1) by decide, Ne, iI_eq (by omega) (by omega) (by omega) (by omega)]
    omega
  constructor
  · rintro ⟨h1, h2⟩
    have h3 : f + sm_len.getD w 0 = t := by
      rcases Nat.lt_trichotomy (f + sm_len.getD w 0) t with h | h | h
      · have h4 := h2 (sm_len.getD w 0) (by omega)
        unfold wMt at h4
        rw [if_pos h, words_at w hw _ (by omega), if_neg (by omega)] at h4
        exact absurd h4 (hne _ h)
      · exact h
      · have h4 := h2 (t - f) (by omega)
        unfold wMt at h4
        rw [if_neg (by omega), words_at w hw _ (by omega), if_pos (by omega)] at h4
        exact absurd h4.symm (chr_ne w _ hw (by omega))
    refine ⟨h3, fun k hk => ?_⟩
    have h4 := h2 k (by omega)
    unfold wMt at h4
    rw [if_pos (by omega), words_at w hw _ (by omega), if_pos hk] at h4
    exact h4
  · rintro ⟨h1, h2⟩
    refine ⟨by omega, fun j hj => ?_⟩
    unfold wMt
    rw [words_at w hw j hj]
    by_cases h : j < sm_len.getD w 0
    · rw [if_pos (by omega), if_pos h]
      exact h2 j h
    · rw [if_neg (by omega), if_neg h]
section K8
variable {E : sm_E} {L : sm_S → Prop} {d d1 d2 : Nat} {m : sm_M} {c : Nat}
theorem c12_byteAt {Q : Int32 → sm_M → Prop} {b : Nat → Int} {n i : Nat} (hly : ∀ S, L S → ly S) (hd : 1 ≤ d) (hn : n ≤ 100) (hi : i ≤ 1000) (h32 : m.1 109 32 = iI (n : Nat)) (hb : ∀ k, k < n → m.1 116 k = iI (b k)) (h : Q (iI (if i < n then b i else -1)) m) : sm_callI E L mX12_byteAt d 0 0 [.ref (sm_B E + 109), .int (iI (i : Nat))] m Q := by
  refine vX12_byteAt_0 hly hd ?_
  rw [h32]
  refine ⟨fun z => ?_, fun z => ?_⟩
  · simp (disch := omega) only [forall_eq, true_and, and_true, false_and, and_false, forall_const, true_implies, implies_true, not_true_eq_false, not_false_eq_true, false_implies, if_true, if_false, ↓reduceIte, Int.toNat_natCast, Int.reduceEq, Int.reduceNe, Int.reduceLT, Int.reduceLE, Int.reduceToNat, Int.reduceAdd, Int.reduceSub, Int.reduceMul, Int.reduceNeg, Nat.reduceAdd, Nat.reduceMul, Nat.reduceSub, iI_lit, jI_lit, iI_add, iI_sub, iI_mul, iI_neg, jI_add, jI_sub, jI_mul, jI_neg, nI_i, lN_j, iI_le, iI_lt, iI_eq, jI_le, jI_lt, jI_eq, iI_in, iI_cl, iI_j, jI_i, cN, inN, wI_eq, wI_ne, wJ_1, wJ_eq, wJ_ne, wI_2, wJ_3, iI_div, iI_rem, jI_div, jI_rem, true_or, or_true, false_or, or_false, eq_self, Nat.add_zero] at z
    rw [if_neg (by omega)] at h
    exact h
  · simp (disch := omega) only [forall_eq, true_and, and_true, false_and, and_false, forall_const, true_implies, implies_true, not_true_eq_false, not_false_eq_true, false_implies, if_true, if_false, ↓reduceIte, Int.toNat_natCast, Int.reduceEq, Int.reduceNe, Int.reduceLT, Int.reduceLE, Int.reduceToNat, Int.reduceAdd, Int.reduceSub, Int.reduceMul, Int.reduceNeg, Nat.reduceAdd, Nat.reduceMul, Nat.reduceSub, iI_lit, jI_lit, iI_add, iI_sub, iI_mul, iI_neg, jI_add, jI_sub, jI_mul, jI_neg, nI_i, lN_j, iI_le, iI_lt, iI_eq, jI_le, jI_lt, jI_eq, iI_in, iI_cl, iI_j, jI_i, cN, inN, wI_eq, wI_ne, wJ_1, wJ_eq, wJ_ne, wI_2, wJ_3, iI_div, iI_rem, jI_div, jI_rem, true_or, or_true, false_or, or_false, eq_self, Nat.add_zero] at z
    rw [if_pos (by omega)] at h
    rw [cN (by omega), inN (by omega), hb i (by omega)]
    exact ⟨by omega, h⟩
theorem c12_moveAt {Q : Int32 → sm_M → Prop} {b : Nat → Int} {n f t : Nat} (hly : ∀ S, L S → ly S) (hd : 2 ≤ d) (hft : f < t) (htn : t ≤ n) (hn : n ≤ 100) (h32 : m.1 109 32 = iI (n : Nat)) (hbb : ∀ k, k < n → 0 ≤ b k ∧ b k ≤ 255) (hb : ∀ k, k < n → m.1 116 k = iI (b k)) (h : Q (iI (wat b f t)) m) : sm_callI E L mX12_moveAt d 0 0 [.ref (sm_B E + 109), .int (iI (f : Nat)), .int (iI (t : Nat))] m Q := by
  refine vX12_moveAt_0 hd ?_
  obtain ⟨vs, hvs⟩ : ∃ vs : List Value, vs = [.ref (sm_B E + 109), .int (iI (f : Nat)), .int (iI (t : Nat))] := ⟨_, rfl⟩
  rw [← hvs]
  have inner : ∀ (w : Nat) (s : Int), w < 6 → (wIs b f t w → gX12_moveAt_5 E L d vs (iI (f : Nat)) (iI (t : Nat)) (iI (w : Nat)) (iI ((w + 1 : Nat) : Int)) m Q) → (¬ wIs b f t w → gX12_moveAt_5 E L d vs (iI (f : Nat)) (iI (t : Nat)) (iI s) (iI ((w + 1 : Nat) : Int)) m Q) → ∀ (r k : Nat) (fl : Int), k + r = 7 → (fl = 0 ∨ fl = 1) → (fl = 1 ↔ (t - f ≤ 7 ∧ ∀ j, j < k → wMt b f t w j)) → gX12_moveAt_30 E L d vs (iI (f : Nat)) (iI (t : Nat)) (iI s) (iI (w : Nat)) (iI fl) (iI (k : Nat)) m Q := by
    intro w s hw h1 h0 r
    have e5w : ((w : Nat) : Int) + 1 = ((w + 1 : Nat) : Int) := by omega
    induction r with
    | zero =>
      intro k fl hk hfl hiff
      have : k = 7 := by omega
      subst this
      have hi := wIs_iff (b := b) hw hft (fun k hk => hbb k (by omega))
      refine vX12_moveAt_30 hly hd ⟨fun _ => ?_, fun z => absurd (by decide) z⟩
      simp (disch := omega) only [forall_eq, true_and, and_true, false_and, and_false, forall_const, true_implies, implies_true, not_true_eq_false, not_false_eq_true, false_implies, if_true, if_false, ↓reduceIte, Int.toNat_natCast, Int.reduceEq, Int.reduceNe, Int.reduceLT, Int.reduceLE, Int.reduceToNat, Int.reduceAdd, Int.reduceSub, Int.reduceMul, Int.reduceNeg, Nat.reduceAdd, Nat.reduceMul, Nat.reduceSub, iI_lit, jI_lit, iI_add, iI_sub, iI_mul, iI_neg, jI_add, jI_sub, jI_mul, jI_neg, nI_i, lN_j, iI_le, iI_lt, iI_eq, jI_le, jI_lt, jI_eq, iI_in, iI_cl, iI_j, jI_i, cN, inN, wI_eq, wI_ne, wJ_1, wJ_eq, wJ_ne, wI_2, wJ_3, iI_div, iI_rem, jI_div, jI_rem, true_or, or_true, false_or, or_false, eq_self, Nat.add_zero, e5w]
      refine ⟨fun z => h0 (fun q => ?_), fun z => h1 (hi.mp (hiff.mp (by omega)))⟩
      have := hiff.mpr (hi.mpr q)
      omega
    | succ r ih =>
      intro k fl hk hfl hiff
      have e5 : ((k : Nat) : Int) + 1 = ((k + 1 : Nat) : Int) := by omega
      have e6 : ((f : Nat) : Int) + ((k : Nat) : Int) = ((f + k : Nat) : Int) := by omega
      have e7 : (7 : Int) * ((w : Nat) : Int) + ((k : Nat) : Int) = ((7 * w + k : Nat) : Int) := by omega
      have bad : (fl = 0 ∨ ¬ wMt b f t w k) → gX12_moveAt_30 E L d vs (iI (f : Nat)) (iI (t : Nat)) (iI s) (iI (w : Nat)) (iI 0) (iI ((k + 1 : Nat) : Int)) m Q := fun hb0 => ih (k + 1) 0 (by omega) (Or.inl rfl) ⟨fun q => by omega, fun q => by
        rcases hb0 with e | e
        · have := hiff.mpr ⟨q.1, fun j hj => q.2 j (by omega)⟩
          omega
        · exact absurd (q.2 k (by omega)) e⟩
      have g62 : fl = 1 → ∀ x : Int32, x = (if f + k < t then iI (b (f + k)) else -1) → gX12_moveAt_62 E L d vs (iI (f : Nat)) (iI (t : Nat)) (iI s) (iI (w : Nat)) (iI (k : Nat)) x m Q := by
        intro hf1 x hx
        refine vX12_moveAt_62 hd ?_
        have hidx : (((7 : Int32) * iI (w : Nat)) + iI (k : Nat)) = iI ((7 * w + k : Nat) : Int) := by
          rw [iI_lit, iI_mul, iI_add]
          exact congrArg iI e7
        rw [hidx, cN (by omega), inN (by omega)]
        refine ⟨by omega, fun z x6 e => ?_, fun z x6 e => ?_⟩
        · rw [iI_lit, iI_add] at e
          subst e
          have := bad (Or.inr (fun q => z (hx.trans q)))
          rw [← e5] at this
          exact this
        · rw [iI_lit, iI_add] at e
          subst e
          have := ih (k + 1) 1 (by omega) (Or.inr rfl) ⟨fun _ => ⟨(hiff.mp hf1).1, fun j hj => by
            by_cases hjk : j = k
            · subst hjk
              exact hx.symm.trans z
            · exact (hiff.mp hf1).2 j (by omega)⟩, fun _ => rfl⟩
          rw [← e5] at this
          exact this
      refine vX12_moveAt_30 hly hd ?_
      simp (disch := omega) only [forall_eq, true_and, and_true, false_and, and_false, forall_const, true_implies, implies_true, not_true_eq_false, not_false_eq_true, false_implies, if_true, if_false, ↓reduceIte, Int.toNat_natCast, Int.reduceEq, Int.reduceNe, Int.reduceLT, Int.reduceLE, Int.reduceToNat, Int.reduceAdd, Int.reduceSub, Int.reduceMul, Int.reduceNeg, Nat.reduceAdd, Nat.reduceMul, Nat.reduceSub, iI_lit, jI_lit, iI_add, iI_sub, iI_mul, iI_neg, jI_add, jI_sub, jI_mul, jI_neg, nI_i, lN_j, iI_le, iI_lt, iI_eq, jI_le, jI_lt, jI_eq, iI_in, iI_cl, iI_j, jI_i, cN, inN, wI_eq, wI_ne, wJ_1, wJ_eq, wJ_ne, wI_2, wJ_3, iI_div, iI_rem, jI_div, jI_rem, true_or, or_true, false_or, or_false, eq_self, Nat.add_zero, e5, e6]
      refine ⟨fun z => by omega, fun _ => ⟨fun z => bad (Or.inl z), fun z => ⟨fun z2 => ?_, fun z2 => ?_⟩⟩⟩
      · refine g62 (by omega) _ ?_
        rw [if_neg (by omega)]
        decide
      · refine c12_byteAt hly (by omega) hn (by omega) h32 hb (g62 (by omega) _ ?_)
        rw [if_pos (by omega), if_pos (by omega)]
  have outer : ∀ (r w : Nat) (s : Int), w + r = 6 → ((s = -1 ∧ ∀ v, v < w → ¬ wIs b f t v) ∨ (∃ v : Nat, v < w ∧ wIs b f t v ∧ s = v)) → gX12_moveAt_5 E L d vs (iI (f : Nat)) (iI (t : Nat)) (iI s) (iI (w : Nat)) m Q := by
    intro r
    induction r with
    | zero =>
      intro w s hw hs
      have : w = 6 := by omega
      subst this
      refine vX12_moveAt_5 hd ⟨fun _ => ?_, fun z => absurd (by decide) z⟩
      rcases hs with ⟨rfl, hno⟩ | ⟨v, hv, hy, rfl⟩
      · rw [wat_no hno] at h
        exact h
      · rw [wat_of hv hy] at h
        exact h
    | succ r ih =>
      intro w s hw hs
      have a1 : wIs b f t w → gX12_moveAt_5 E L d vs (iI (f : Nat)) (iI (t : Nat)) (iI (w : Nat)) (iI ((w + 1 : Nat) : Int)) m Q := fun hy => ih (w + 1) (w : Nat) (by omega) (Or.inr ⟨w, by omega, hy, rfl⟩)
      have a0 : ¬ wIs b f t w → gX12_moveAt_5 E L d vs (iI (f : Nat)) (iI (t : Nat)) (iI s) (iI ((w + 1 : Nat) : Int)) m Q := fun hy => ih (w + 1) s (by omega) (by
        rcases hs with ⟨e, hno⟩ | ⟨v, hv, hy2, e⟩
        · refine Or.inl ⟨e, fun v hv => ?_⟩
          by_cases hvw : v = w
          · subst hvw
            exact hy
          · exact hno v (by omega)
        · exact Or.inr ⟨v, by omega, hy2, e⟩)
      have inn := inner w s (by omega) a1 a0 7 0
      refine vX12_moveAt_5 hd ?_
      simp (disch := omega) only [forall_eq, true_and, and_true, false_and, and_false, forall_const, true_implies, implies_true, not_true_eq_false, not_false_eq_true, false_implies, if_true, if_false, ↓reduceIte, Int.toNat_natCast, Int.reduceEq, Int.reduceNe, Int.reduceLT, Int.reduceLE, Int.reduceToNat, Int.reduceAdd, Int.reduceSub, Int.reduceMul, Int.reduceNeg, Nat.reduceAdd, Nat.reduceMul, Nat.reduceSub, iI_lit, jI_lit, iI_add, iI_sub, iI_mul, iI_neg, jI_add, jI_sub, jI_mul, jI_neg, nI_i, lN_j, iI_le, iI_lt, iI_eq, jI_le, jI_lt, jI_eq, iI_in, iI_cl, iI_j, jI_i, cN, inN, wI_eq, wI_ne, wJ_1, wJ_eq, wJ_ne, wI_2, wJ_3, iI_div, iI_rem, jI_div, jI_rem, true_or, or_true, false_or, or_false, eq_self, Nat.add_zero]
      refine ⟨fun z => by omega, fun _ => ⟨fun z => inn 0 (by omega) (Or.inl rfl) ⟨fun q => by omega, fun q => by omega⟩, fun z => inn 1 (by omega) (Or.inr rfl) ⟨fun _ => ⟨by omega, fun j hj => absurd hj (Nat.not_lt_zero _)⟩, fun _ => rfl⟩⟩⟩
  exact outer 6 0 (-1) (by omega) (Or.inl ⟨rfl, fun v hv => absurd hv (Nat.not_lt_zero _)⟩)
def rmP : Nat → Nat → Prop := fun a k => (a = 10 ∧ k = 5) ∨ a = 13
def fnd (m : sm_M) (l : List Int) : Prop := m.1 10 5 = iI (l.length : Nat) ∧ ∀ k, k < l.length → m.1 13 k = iI (l.getD k 0)
theorem c_readMoves_loop {Q : Int32 → sm_M → Prop} {vs : List Value} {b : Nat → Int} {n : Nat} (hly : ∀ S, L S → ly S) (hd : 8 ≤ d) (hn : n ≤ 100) (m0 : sm_M) (h4 : m0.1 10 4 = iI (n : Nat)) (hb : ∀ k, k < n → 0 ≤ b k ∧ b k ≤ 255 ∧ m0.1 11 k = iI (b k)) : ∀ (fuel f : Nat) (pre : List Int) (m : sm_M), n + 1 ≤ f + fuel → f ≤ n + 1 → fr rmP m0 m → fnd m pre → pre.length ≤ f → (0 ≤ (mvR b n fuel f).1 → ∀ m', fr rmP m0 m' → Q (iI (mvR b n fuel f).1) m') → ((mvR b n fuel f).1 = -1 → ∀ m', fr rmP m0 m' → fnd m' (pre ++ (mvR b n fuel f).2) → Q (iI (-1)) m') → gX9_readMoves_9 E L d vs (iI (f : Nat)) (iI (f : Nat)) m Q := by
  intro fuel
  induction fuel with
  | zero =>
    intro f pre m h1 h2 hf hp hl hq1 hq0
    have m4 : m.1 10 4 = iI (n : Nat) := (hf.i (by unfold rmP; omega)).trans h4
    refine vX9_readMoves_9 hly hd ?_
    rw [m4]
    simp (disch := omega) only [forall_eq, true_and, and_true, false_and, and_false, forall_const, true_implies, implies_true, not_true_eq_false, not_false_eq_true, false_implies, if_true, if_false, ↓reduceIte, Int.toNat_natCast, Int.reduceEq, Int.reduceNe, Int.reduceLT, Int.reduceLE, Int.reduceToNat, Int.reduceAdd, Int.reduceSub, Int.reduceMul, Int.reduceNeg, Nat.reduceAdd, Nat.reduceMul, Nat.reduceSub, iI_lit, jI_lit, iI_add, iI_sub, iI_mul, iI_neg, jI_add, jI_sub, jI_mul, jI_neg, nI_i, lN_j, iI_le, iI_lt, iI_eq, jI_le, jI_lt, jI_eq, iI_in, iI_cl, iI_j, jI_i, cN, inN, wI_eq, wI_ne, wJ_1, wJ_eq, wJ_ne, wI_2, wJ_3, iI_div, iI_rem, jI_div, jI_rem, true_or, or_true, false_or, or_false, eq_self, Nat.add_zero]
    refine ⟨fun _ => ?_, fun z => by omega⟩
    have h9 := hq0 rfl m hf
    rw [mvR, List.append_nil] at h9
    exact h9 hp
  | succ fuel ih =>
    intro f pre m h1 h2 hf hp hl hq1 hq0
    have m4 : m.1 10 4 = iI (n : Nat) := (hf.i (by unfold rmP; omega)).trans h4
    have mb : ∀ k, k < n → m.1 11 k = iI (b k) := fun k hk => (hf.i (by unfold rmP; omega)).trans (hb k hk).2.2
    have e5 : ((f : Nat) : Int) + 1 = ((f + 1 : Nat) : Int) := by omega
    have ex : n ≤ f → gX9_readMoves_9 E L d vs (iI (f : Nat)) (iI (f : Nat)) m Q := by
      intro hnf
      have h9 := hq0 (by rw [mvR, if_pos hnf]) m hf
      rw [mvR, if_pos hnf, List.append_nil] at h9
      have out : ∀ g : Nat, n < g → g ≤ n + 1 → gX9_readMoves_9 E L d vs (iI (g : Nat)) (iI (g : Nat)) m Q := by
        intro g hg hg2
        refine vX9_readMoves_9 hly hd ?_
        rw [m4]
        simp (disch := omega) only [forall_eq, true_and, and_true, false_and, and_false, forall_const, true_implies, implies_true, not_true_eq_false, not_false_eq_true, false_implies, if_true, if_false, ↓reduceIte, Int.toNat_natCast, Int.reduceEq, Int.reduceNe, Int.reduceLT, Int.reduceLE, Int.reduceToNat, Int.reduceAdd, Int.reduceSub, Int.reduceMul, Int.reduceNeg, Nat.reduceAdd, Nat.reduceMul, Nat.reduceSub, iI_lit, jI_lit, iI_add, iI_sub, iI_mul, iI_neg, jI_add, jI_sub, jI_mul, jI_neg, nI_i, lN_j, iI_le, iI_lt, iI_eq, jI_le, jI_lt, jI_eq, iI_in, iI_cl, iI_j, jI_i, cN, inN, wI_eq, wI_ne, wJ_1, wJ_eq, wJ_ne, wI_2, wJ_3, iI_div, iI_rem, jI_div, jI_rem, true_or, or_true, false_or, or_false, eq_self, Nat.add_zero]
        exact ⟨fun _ => h9 hp, fun z => by omega⟩
      rcases Nat.lt_or_ge n f with h | h
      · exact out f h h2
      · refine vX9_readMoves_9 hly hd ?_
        rw [m4]
        simp (disch := omega) only [forall_eq, true_and, and_true, false_and, and_false, forall_const, true_implies, implies_true, not_true_eq_false, not_false_eq_true, false_implies, if_true, if_false, ↓reduceIte, Int.toNat_natCast, Int.reduceEq, Int.reduceNe, Int.reduceLT, Int.reduceLE, Int.reduceToNat, Int.reduceAdd, Int.reduceSub, Int.reduceMul, Int.reduceNeg, Nat.reduceAdd, Nat.reduceMul, Nat.reduceSub, iI_lit, jI_lit, iI_add, iI_sub, iI_mul, iI_neg, jI_add, jI_sub, jI_mul, jI_neg, nI_i, lN_j, iI_le, iI_lt, iI_eq, jI_le, jI_lt, jI_eq, iI_in, iI_cl, iI_j, jI_i, cN, inN, wI_eq, wI_ne, wJ_1, wJ_eq, wJ_ne, wI_2, wJ_3, iI_div, iI_rem, jI_div, jI_rem, true_or, or_true, false_or, or_false, eq_self, Nat.add_zero]
        refine ⟨fun z => by omega, fun _ => ⟨fun _ => vX9_readMoves_39 hly hd ?_, fun z => by omega⟩⟩
        simp (disch := omega) only [forall_eq, true_and, and_true, false_and, and_false, forall_const, true_implies, implies_true, not_true_eq_false, not_false_eq_true, false_implies, if_true, if_false, ↓reduceIte, Int.toNat_natCast, Int.reduceEq, Int.reduceNe, Int.reduceLT, Int.reduceLE, Int.reduceToNat, Int.reduceAdd, Int.reduceSub, Int.reduceMul, Int.reduceNeg, Nat.reduceAdd, Nat.reduceMul, Nat.reduceSub, iI_lit, jI_lit, iI_add, iI_sub, iI_mul, iI_neg, jI_add, jI_sub, jI_mul, jI_neg, nI_i, lN_j, iI_le, iI_lt, iI_eq, jI_le, jI_lt, jI_eq, iI_in, iI_cl, iI_j, jI_i, cN, inN, wI_eq, wI_ne, wJ_1, wJ_eq, wJ_ne, wI_2, wJ_3, iI_div, iI_rem, jI_div, jI_rem, true_or, or_true, false_or, or_false, eq_self, Nat.add_zero, e5]
        exact ⟨fun _ => out (f + 1) (by omega) (by omega), fun z => by omega⟩
    by_cases hnf : n ≤ f
    · exact ex hnf
    · obtain ⟨J, hJ⟩ : ∃ J, J = nxw b n (n - f) f := ⟨_, rfl⟩
      have J1 := nxw_ge b n (n - f) f
      have J2 := nxw_le b n (n - f) f (by omega) (by omega)
      rw [mvR, if_neg hnf, ← hJ] at hq1 hq0
      rw [← hJ] at J1 J2
      have e6 : ((J : Nat) : Int) + 1 = ((J + 1 : Nat) : Int) := by omega
      have g39 : gX9_readMoves_39 E L d vs (iI (f : Nat)) (iI (J : Nat)) m Q := by
        refine vX9_readMoves_39 hly hd ?_
        by_cases hJf : J = f
        · rw [if_pos hJf] at hq1 hq0
          have h9 := ih (f + 1) pre m (by omega) (by omega) hf hp (by omega) hq1 hq0
          rw [hJf]
          simp (disch := omega) only [forall_eq, true_and, and_true, false_and, and_false, forall_const, true_implies, implies_true, not_true_eq_false, not_false_eq_true, false_implies, if_true, if_false, ↓reduceIte, Int.toNat_natCast, Int.reduceEq, Int.reduceNe, Int.reduceLT, Int.reduceLE, Int.reduceToNat, Int.reduceAdd, Int.reduceSub, Int.reduceMul, Int.reduceNeg, Nat.reduceAdd, Nat.reduceMul, Nat.reduceSub, iI_lit, jI_lit, iI_add, iI_sub, iI_mul, iI_neg, jI_add, jI_sub, jI_mul, jI_neg, nI_i, lN_j, iI_le, iI_lt, iI_eq, jI_le, jI_lt, jI_eq, iI_in, iI_cl, iI_j, jI_i, cN, inN, wI_eq, wI_ne, wJ_1, wJ_eq, wJ_ne, wI_2, wJ_3, iI_div, iI_rem, jI_div, jI_rem, true_or, or_true, false_or, or_false, eq_self, Nat.add_zero, e5]
          exact ⟨fun _ => h9, fun z => by omega⟩
        · rw [if_neg hJf] at hq1 hq0
          have wb := wat_bd b f J
          simp (disch := omega) only [forall_eq, true_and, and_true, false_and, and_false, forall_const, true_implies, implies_true, not_true_eq_false, not_false_eq_true, false_implies, if_true, if_false, ↓reduceIte, Int.toNat_natCast, Int.reduceEq, Int.reduceNe, Int.reduceLT, Int.reduceLE, Int.reduceToNat, Int.reduceAdd, Int.reduceSub, Int.reduceMul, Int.reduceNeg, Nat.reduceAdd, Nat.reduceMul, Nat.reduceSub, iI_lit, jI_lit, iI_add, iI_sub, iI_mul, iI_neg, jI_add, jI_sub, jI_mul, jI_neg, nI_i, lN_j, iI_le, iI_lt, iI_eq, jI_le, jI_lt, jI_eq, iI_in, iI_cl, iI_j, jI_i, cN, inN, wI_eq, wI_ne, wJ_1, wJ_eq, wJ_ne, wI_2, wJ_3, iI_div, iI_rem, jI_div, jI_rem, true_or, or_true, false_or, or_false, eq_self, Nat.add_zero]
          refine ⟨fun z => by omega, fun _ => c_moveAt hly (by omega) (by omega) J2 hn m4 mb ?_⟩
          by_cases hw : wat b f J < 0
          · rw [if_pos hw] at hq1
            simp (disch := omega) only [forall_eq, true_and, and_true, false_and, and_false, forall_const, true_implies, implies_true, not_true_eq_false, not_false_eq_true, false_implies, if_true, if_false, ↓reduceIte, Int.toNat_natCast, Int.reduceEq, Int.reduceNe, Int.reduceLT, Int.reduceLE, Int.reduceToNat, Int.reduceAdd, Int.reduceSub, Int.reduceMul, Int.reduceNeg, Nat.reduceAdd, Nat.reduceMul, Nat.reduceSub, iI_lit, jI_lit, iI_add, iI_sub, iI_mul, iI_neg, jI_add, jI_sub, jI_mul, jI_neg, nI_i, lN_j, iI_le, iI_lt, iI_eq, jI_le, jI_lt, jI_eq, iI_in, iI_cl, iI_j, jI_i, cN, inN, wI_eq, wI_ne, wJ_1, wJ_eq, wJ_ne, wI_2, wJ_3, iI_div, iI_rem, jI_div, jI_rem, true_or, or_true, false_or, or_false, eq_self, Nat.add_zero]
            exact ⟨fun z => by omega, fun _ => hq1 (by simp) m hf⟩
          · rw [if_neg hw] at hq1 hq0
            have hp1 := hp.1
            have e7 : ((pre.length : Nat) : Int) + 1 = ((pre.length + 1 : Nat) : Int) := by omega
            simp (disch := omega) only [forall_eq, true_and, and_true, false_and, and_false, forall_const, true_implies, implies_true, not_true_eq_false, not_false_eq_true, false_implies, if_true, if_false, ↓reduceIte, Int.toNat_natCast, Int.reduceEq, Int.reduceNe, Int.reduceLT, Int.reduceLE, Int.reduceToNat, Int.reduceAdd, Int.reduceSub, Int.reduceMul, Int.reduceNeg, Nat.reduceAdd, Nat.reduceMul, Nat.reduceSub, iI_lit, jI_lit, iI_add, iI_sub, iI_mul, iI_neg, jI_add, jI_sub, jI_mul, jI_neg, nI_i, lN_j, iI_le, iI_lt, iI_eq, jI_le, jI_lt, jI_eq, iI_in, iI_cl, iI_j, jI_i, cN, inN, wI_eq, wI_ne, wJ_1, wJ_eq, wJ_ne, wI_2, wJ_3, iI_div, iI_rem, jI_div, jI_rem, true_or, or_true, false_or, or_false, eq_self, Nat.add_zero, hp1, e6, e7]
            refine ⟨fun _ => ⟨by omega, ?_⟩, fun z => by omega⟩
            refine ih (J + 1) (pre ++ [wat b f J]) _ (by omega) (by omega) ((hf.wI (Or.inr rfl)).wI (Or.inl ⟨rfl, rfl⟩)) ⟨?_, fun k hk => ?_⟩ ?_ hq1 (fun e m' f' g' => hq0 e m' f' ?_)
            · rw [wI_eq rfl rfl, List.length_append]
              rfl
            · rw [List.length_append] at hk
              have hk2 : k < pre.length + 1 := hk
              rw [wI_ne (by omega)]
              by_cases hkl : k = pre.length
              · subst hkl
                rw [wI_eq rfl rfl]
                simp [List.getD]
              · rw [wI_ne (by omega), hp.2 k (by omega)]
                simp [List.getD, List.getElem?_append_left (show k < pre.length by omega)]
            · rw [List.length_append]
              show pre.length + 1 ≤ J + 1
              omega
            · rw [List.append_assoc] at g'
              exact g'
      have scan : ∀ (r i : Nat), i + r = J → f ≤ i → nxw b n (n - i) i = J → gX9_readMoves_9 E L d vs (iI (f : Nat)) (iI (i : Nat)) m Q := by
        intro r
        induction r with
        | zero =>
          intro i hi hfi hx
          have : i = J := by omega
          subst this
          refine vX9_readMoves_9 hly hd ?_
          rw [m4]
          refine ⟨fun z => ?_, fun _ => ⟨fun _ => g39, fun z => ?_⟩⟩
          · simp (disch := omega) only [forall_eq, true_and, and_true, false_and, and_false, forall_const, true_implies, implies_true, not_true_eq_false, not_false_eq_true, false_implies, if_true, if_false, ↓reduceIte, Int.toNat_natCast, Int.reduceEq, Int.reduceNe, Int.reduceLT, Int.reduceLE, Int.reduceToNat, Int.reduceAdd, Int.reduceSub, Int.reduceMul, Int.reduceNeg, Nat.reduceAdd, Nat.reduceMul, Nat.reduceSub, iI_lit, jI_lit, iI_add, iI_sub, iI_mul, iI_neg, jI_add, jI_sub, jI_mul, jI_neg, nI_i, lN_j, iI_le, iI_lt, iI_eq, jI_le, jI_lt, jI_eq, iI_in, iI_cl, iI_j, jI_i, cN, inN, wI_eq, wI_ne, wJ_1, wJ_eq, wJ_ne, wI_2, wJ_3, iI_div, iI_rem, jI_div, jI_rem, true_or, or_true, false_or, or_false, eq_self, Nat.add_zero] at z
            omega
          · simp (disch := omega) only [forall_eq, true_and, and_true, false_and, and_false, forall_const, true_implies, implies_true, not_true_eq_false, not_false_eq_true, false_implies, if_true, if_false, ↓reduceIte, Int.toNat_natCast, Int.reduceEq, Int.reduceNe, Int.reduceLT, Int.reduceLE, Int.reduceToNat, Int.reduceAdd, Int.reduceSub, Int.reduceMul, Int.reduceNeg, Nat.reduceAdd, Nat.reduceMul, Nat.reduceSub, iI_lit, jI_lit, iI_add, iI_sub, iI_mul, iI_neg, jI_add, jI_sub, jI_mul, jI_neg, nI_i, lN_j, iI_le, iI_lt, iI_eq, jI_le, jI_lt, jI_eq, iI_in, iI_cl, iI_j, jI_i, cN, inN, wI_eq, wI_ne, wJ_1, wJ_eq, wJ_ne, wI_2, wJ_3, iI_div, iI_rem, jI_div, jI_rem, true_or, or_true, false_or, or_false, eq_self, Nat.add_zero] at z
            rw [cN (by omega), inN (by omega), mb i (by omega), nxw_stop hx (by omega)]
            exact ⟨by omega, fun _ => g39, fun z => absurd (by decide) z⟩
        | succ r ihr =>
          intro i hi hfi hx
          have hin : i < n := by omega
          have hb32 : b i ≠ 32 := fun e => by
            rw [nxw_at (Or.inr e)] at hx
            omega
          have hbi := hb i hin
          have e8 : ((i : Nat) : Int) + 1 = ((i + 1 : Nat) : Int) := by omega
          have h9 := ihr (i + 1) (by omega) (by omega) (by rw [← nxw_step hin hb32]; exact hx)
          refine vX9_readMoves_9 hly hd ?_
          rw [m4]
          simp (disch := omega) only [forall_eq, true_and, and_true, false_and, and_false, forall_const, true_implies, implies_true, not_true_eq_false, not_false_eq_true, false_implies, if_true, if_false, ↓reduceIte, Int.toNat_natCast, Int.reduceEq, Int.reduceNe, Int.reduceLT, Int.reduceLE, Int.reduceToNat, Int.reduceAdd, Int.reduceSub, Int.reduceMul, Int.reduceNeg, Nat.reduceAdd, Nat.reduceMul, Nat.reduceSub, iI_lit, jI_lit, iI_add, iI_sub, iI_mul, iI_neg, jI_add, jI_sub, jI_mul, jI_neg, nI_i, lN_j, iI_le, iI_lt, iI_eq, jI_le, jI_lt, jI_eq, iI_in, iI_cl, iI_j, jI_i, cN, inN, wI_eq, wI_ne, wJ_1, wJ_eq, wJ_ne, wI_2, wJ_3, iI_div, iI_rem, jI_div, jI_rem, true_or, or_true, false_or, or_false, eq_self, Nat.add_zero, mb i hin, e8]
          exact ⟨fun z => by omega, fun _ => ⟨fun z => by omega, fun _ => ⟨by omega, fun z => absurd z hb32, fun _ => h9⟩⟩⟩
      exact scan (J - f) f (by omega) (by omega) hJ.symm
theorem c_readMoves {Q : Int32 → sm_M → Prop} {b : Nat → Int} {n : Nat} (hly : ∀ S, L S → ly S) (hd : 8 ≤ d) (hn : n ≤ 100) (h4 : m.1 10 4 = iI (n : Nat)) (hb : ∀ k, k < n → 0 ≤ b k ∧ b k ≤ 255 ∧ m.1 11 k = iI (b k)) (h1 : 0 ≤ (mvR b n (n + 1) 0).1 → ∀ m', fr rmP m m' → Q (iI (mvR b n (n + 1) 0).1) m') (h0 : (mvR b n (n + 1) 0).1 = -1 → ∀ m', fr rmP m m' → fnd m' (mvR b n (n + 1) 0).2 → Q (iI (-1)) m') : sm_callI E L mX9_readMoves d 0 0 [.ref (sm_B E + 10)] m Q := by
  refine vX9_readMoves_0 hly hd ?_
  simp (disch := omega) only [forall_eq, true_and, and_true, false_and, and_false, forall_const, true_implies, implies_true, not_true_eq_false, not_false_eq_true, false_implies, if_true, if_false, ↓reduceIte, Int.toNat_natCast, Int.reduceEq, Int.reduceNe, Int.reduceLT, Int.reduceLE, Int.reduceToNat, Int.reduceAdd, Int.reduceSub, Int.reduceMul, Int.reduceNeg, Nat.reduceAdd, Nat.reduceMul, Nat.reduceSub, iI_lit, jI_lit, iI_add, iI_sub, iI_mul, iI_neg, jI_add, jI_sub, jI_mul, jI_neg, nI_i, lN_j, iI_le, iI_lt, iI_eq, jI_le, jI_lt, jI_eq, iI_in, iI_cl, iI_j, jI_i, cN, inN, wI_eq, wI_ne, wJ_1, wJ_eq, wJ_ne, wI_2, wJ_3, iI_div, iI_rem, jI_div, jI_rem, true_or, or_true, false_or, or_false, eq_self, Nat.add_zero]
  exact c_readMoves_loop hly hd hn m h4 hb (n + 1) 0 [] _ (by omega) (by omega) (fr.rf.wI (Or.inl ⟨rfl, rfl⟩)) ⟨wI_eq rfl rfl, fun k hk => absurd hk (Nat.not_lt_zero _)⟩ (by simp) h1 h0
end K8
