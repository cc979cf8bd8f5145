/-! tangles: rows of tokens. A leaf is at most 10 (10: no crossing), what joins is above -/
def lvs (t : Nat → Int) : Nat → Nat
  | 0 => 0
  | n + 1 => lvs t n + (if t n ≤ 10 then 1 else 0)
def crs (t : Nat → Int) : Nat → Nat
  | 0 => 0
  | n + 1 => crs t n + (if t n < 10 then (t n).natAbs else 0)
/-- tokens within bounds -/
def tok (t : Nat → Int) (n : Nat) : Prop := ∀ k, k < n → -100 ≤ t k ∧ t k ≤ 100
theorem lvs_congr {t u : Nat → Int} {n : Nat} (h : ∀ k, k < n → t k = u k) : lvs t n = lvs u n := by
  induction n with
  | zero => rfl
  | succ n ih => rw [lvs, lvs, ih (fun k hk => h k (by omega)), h n (by omega)]
theorem crs_congr {t u : Nat → Int} {n : Nat} (h : ∀ k, k < n → t k = u k) : crs t n = crs u n := by
  induction n with
  | zero => rfl
  | succ n ih => rw [crs, crs, ih (fun k hk => h k (by omega)), h n (by omega)]
theorem lvs_le (t : Nat → Int) (n : Nat) : lvs t n ≤ n := by
  induction n with
  | zero => exact Nat.le_refl _
  | succ n ih =>
    rw [lvs]
    split <;> omega
theorem crs_le {t : Nat → Int} {n : Nat} (h : tok t n) : crs t n ≤ 100 * n := by
  induction n with
  | zero => exact Nat.le_refl _
  | succ n ih =>
    have h1 := ih (fun k hk => h k (by omega))
    have h2 := h n (by omega)
    rw [crs]
    split <;> omega
def tup (t : Nat → Int) (n : Nat) (z : Int) : Nat → Int := fun k => if k = n then z else t k
theorem tup_lt {t : Nat → Int} {n k : Nat} {z : Int} (h : k < n) : tup t n z k = t k := if_neg (Nat.ne_of_lt h)
theorem tup_at {t : Nat → Int} {n : Nat} {z : Int} : tup t n z n = z := if_pos rfl
/-- the tangle at a holds the n tokens t -/
def tg (m : sm_M) (a : Nat) (t : Nat → Int) (n : Nat) : Prop := m.1 a 1 = iI (n : Nat) ∧ (∀ k, k < n → m.1 (a + 1) k = iI (t k)) ∧ m.1 a 2 = iI (lvs t n : Nat) ∧ m.1 a 3 = iI (crs t n : Nat) ∧ tok t n
/-- what the tokens of the tangle at a take -/
def tgP (a : Nat) : Nat → Nat → Prop := fun b k => (b = a ∧ 1 ≤ k ∧ k ≤ 3) ∨ b = a + 1
theorem tg.fr {P : Nat → Nat → Prop} {m m' : sm_M} {a n : Nat} {t : Nat → Int} (h : tg m a t n) (hf : fr P m m') (h1 : ∀ k, 1 ≤ k → k ≤ 3 → ¬ P a k) (h2 : ∀ k, ¬ P (a + 1) k) : tg m' a t n :=
  ⟨(hf.i (h1 1 (by decide) (by decide))).trans h.1, fun k hk => (hf.i (h2 k)).trans (h.2.1 k hk), (hf.i (h1 2 (by decide) (by decide))).trans h.2.2.1, (hf.i (h1 3 (by decide) (by decide))).trans h.2.2.2.1, h.2.2.2.2⟩
theorem tg.congr {m : sm_M} {a n : Nat} {t u : Nat → Int} (h : tg m a t n) (hu : ∀ k, k < n → t k = u k) : tg m a u n :=
  ⟨h.1, fun k hk => by rw [← hu k hk]; exact h.2.1 k hk, by rw [← lvs_congr hu]; exact h.2.2.1, by rw [← crs_congr hu]; exact h.2.2.2.1, fun k hk => by rw [← hu k hk]; exact h.2.2.2.2 k hk⟩
section TAN
variable {E : sm_E} {L : sm_S → Prop} {d : Nat} {m : sm_M}
theorem c_clear {Q : sm_M → Prop} {a na : Nat} (hT : sm_tan L a na) (hd : 1 ≤ d) (h : ∀ m', fr (tgP a) m m' → (∀ t, tg m' a t 0) → Q m') : sm_callV E L mX8_clear d 0 0 [.ref (sm_B E + a)] m Q := by
  refine vX8_clear_0 hd hT (fun m1 e1 m2 e2 m3 e3 => ?_)
  subst e1
  subst e2
  subst e3
  refine h _ (((fr.rf.wI (Or.inl ⟨rfl, by decide, by decide⟩)).wI (Or.inl ⟨rfl, by decide, by decide⟩)).wI (Or.inl ⟨rfl, by decide, by decide⟩)) (fun t => ⟨?_, fun k hk => absurd hk (Nat.not_lt_zero _), ?_, ?_, fun k hk => absurd hk (Nat.not_lt_zero _)⟩)
  · simp [wI_1]; rfl
  · simp [wI_1]; rfl
  · simp [wI_1]; rfl
theorem c_add {Q : sm_M → Prop} {a na n : Nat} {t : Nat → Int} {z : Int} (hT : sm_tan L a na) (hd : 2 ≤ d) (hg : tg m a t n) (hn : n < na) (hna : na ≤ 100) (hz1 : -100 ≤ z) (hz2 : z ≤ 100) (h : ∀ m', fr (tgP a) m m' → tg m' a (tup t n z) (n + 1) → Q m') : sm_callV E L mX8_add d 0 0 [.ref (sm_B E + a), .int (iI z)] m Q := by
  obtain ⟨g1, g2, g3, g4, g5⟩ := hg
  have hl := lvs_le t n
  have hc0 := crs_le g5
  have q1 : lvs (tup t n z) n = lvs t n := lvs_congr (fun k hk => tup_lt hk)
  have q2 : crs (tup t n z) n = crs t n := crs_congr (fun k hk => tup_lt hk)
  have q3 : tok (tup t n z) (n + 1) := fun k hk => by
    by_cases hkn : k = n
    · subst hkn
      rw [tup_at]
      exact ⟨hz1, hz2⟩
    · rw [tup_lt (by omega)]
      exact g5 k (by omega)
  have htn : (iI (n : Nat)).toNatClampNeg = n := by rw [iI_cl (by omega) (by omega)]; omega
  have fin : ∀ m', fr (tgP a) m m' → m'.1 a 1 = iI (n + 1 : Nat) → m'.1 (a + 1) n = iI z → (∀ k, k < n → m'.1 (a + 1) k = m.1 (a + 1) k) → m'.1 a 2 = iI ((lvs t n + (if z ≤ 10 then 1 else 0) : Nat)) → m'.1 a 3 = iI ((crs t n + (if z < 10 then z.natAbs else 0) : Nat)) → Q m' := fun m' f e1 e2 e3 e4 e5 => by
    refine h m' f ⟨e1, fun k hk => ?_, ?_, ?_, q3⟩
    · by_cases hkn : k = n
      · subst hkn
        rw [tup_at]
        exact e2
      · rw [tup_lt (by omega), e3 k (by omega)]
        exact g2 k (by omega)
    · rw [lvs, q1, tup_at]
      exact e4
    · rw [crs, q2, tup_at]
      exact e5
  refine vX8_add_0 hd hT ⟨fun hc => ⟨?_, fun m1 e1 m3 e3 => ?_⟩, fun hc => ?_⟩
  · rw [g1, iI_in (by omega) (by omega)]
    omega
  · rw [g1, htn] at e1
    subst e1
    have v1 : (sm_wI m (a + 1) n (iI z)).1 a 1 = iI (n : Nat) := by rw [wI_1, if_neg (by omega)]; exact g1
    rw [v1, iI_lit, iI_add] at e3
    subst e3
    have f3 : fr (tgP a) m (sm_wI (sm_wI m (a + 1) n (iI z)) a 1 (iI (n + 1))) := (fr.rf.wI (Or.inr rfl)).wI (Or.inl ⟨rfl, by decide, by decide⟩)
    refine ⟨fun hx => ?_, fun hx m4 e4 => ⟨fun hy => ?_, fun hy m8 e8 => ?_⟩⟩
    · simp (disch := omega) only [iI_lit, jI_lit, iI_add, iI_sub, iI_mul, iI_neg, jI_add, jI_sub, jI_mul, jI_neg, nI_i, lN_j, iI_le, iI_lt, iI_eq, jI_le, jI_lt, jI_eq, iI_in, iI_cl, iI_j, jI_i, wI_1, wI_2, wJ_1, wJ_2, wJ_3, wIs_1, wIs_2, wJs_1, wJs_2, wJs_3] at hx
      refine fin _ f3 ?_ ?_ (fun k hk => ?_) ?_ ?_
      · rw [wI_1, if_pos ⟨rfl, rfl⟩]; rfl
      · rw [wI_1, if_neg (by omega), wI_1, if_pos ⟨rfl, rfl⟩]
      · rw [wI_1, if_neg (by omega), wI_1, if_neg (by omega)]
      · rw [wI_1, if_neg (by omega), wI_1, if_neg (by omega), if_neg (by omega)]
        exact g3
      · rw [wI_1, if_neg (by omega), wI_1, if_neg (by omega), if_neg (by omega)]
        exact g4
    · simp (disch := omega) only [iI_lit, jI_lit, iI_add, iI_sub, iI_mul, iI_neg, jI_add, jI_sub, jI_mul, jI_neg, nI_i, lN_j, iI_le, iI_lt, iI_eq, jI_le, jI_lt, jI_eq, iI_in, iI_cl, iI_j, jI_i, wI_1, wI_2, wJ_1, wJ_2, wJ_3, wIs_1, wIs_2, wJs_1, wJs_2, wJs_3] at hx hy
      refine c_abs (by omega) (by omega) (by omega) (fun m7 e7 => ?_)
      subst e4
      subst e7
      refine fin _ ((f3.wI (Or.inl ⟨rfl, by decide, by decide⟩)).wI (Or.inl ⟨rfl, by decide, by decide⟩)) ?_ ?_ (fun k hk => ?_) ?_ ?_
      · rw [wI_1, if_neg (by omega), wI_1, if_neg (by omega), wI_1, if_pos ⟨rfl, rfl⟩]; rfl
      · rw [wI_1, if_neg (by omega), wI_1, if_neg (by omega), wI_1, if_neg (by omega), wI_1, if_pos ⟨rfl, rfl⟩]
      · rw [wI_1, if_neg (by omega), wI_1, if_neg (by omega), wI_1, if_neg (by omega), wI_1, if_neg (by omega)]
      · rw [wI_1, if_neg (by omega), wI_1, if_pos ⟨rfl, rfl⟩, wI_1, if_neg (by omega), wI_1, if_neg (by omega), g3, iI_lit, iI_add, if_pos (by omega)]
        rfl
      · rw [wI_1, if_pos ⟨rfl, rfl⟩, wI_1, if_neg (by omega), wI_1, if_neg (by omega), wI_1, if_neg (by omega), g4, iI_add, if_pos (by omega)]
        rfl
    · simp (disch := omega) only [iI_lit, jI_lit, iI_add, iI_sub, iI_mul, iI_neg, jI_add, jI_sub, jI_mul, jI_neg, nI_i, lN_j, iI_le, iI_lt, iI_eq, jI_le, jI_lt, jI_eq, iI_in, iI_cl, iI_j, jI_i, wI_1, wI_2, wJ_1, wJ_2, wJ_3, wIs_1, wIs_2, wJs_1, wJs_2, wJs_3] at hx hy
      subst e4
      subst e8
      refine fin _ ((f3.wI (Or.inl ⟨rfl, by decide, by decide⟩)).wI (Or.inl ⟨rfl, by decide, by decide⟩)) ?_ ?_ (fun k hk => ?_) ?_ ?_
      · rw [wI_1, if_neg (by omega), wI_1, if_neg (by omega), wI_1, if_pos ⟨rfl, rfl⟩]; rfl
      · rw [wI_1, if_neg (by omega), wI_1, if_neg (by omega), wI_1, if_neg (by omega), wI_1, if_pos ⟨rfl, rfl⟩]
      · rw [wI_1, if_neg (by omega), wI_1, if_neg (by omega), wI_1, if_neg (by omega), wI_1, if_neg (by omega)]
      · rw [wI_1, if_neg (by omega), wI_1, if_pos ⟨rfl, rfl⟩, wI_1, if_neg (by omega), wI_1, if_neg (by omega), g3, iI_lit, iI_add, if_pos (by omega)]
        rfl
      · rw [wI_1, if_pos ⟨rfl, rfl⟩, wI_1, if_neg (by omega), wI_1, if_neg (by omega), wI_1, if_neg (by omega), g4, iI_lit, iI_add, if_neg (by omega)]
        rfl
  · rw [g1, nI_i, iI_lt (by omega) (by omega) (by omega) (by omega)] at hc
    omega
theorem c_hasRoom {Q : Int32 → sm_M → Prop} {a na n : Nat} {t : Nat → Int} {x y z : Int} (hT : sm_tan L a na) (hd : 1 ≤ d) (hg : tg m a t n) (hn : n ≤ 100) (hx : 0 ≤ x ∧ x ≤ 100000) (hy : 0 ≤ y ∧ y ≤ 100000) (hz : 0 ≤ z ∧ z ≤ 100000) (h : Q (if (lvs t n : Int) + x ≤ 24 ∧ (crs t n : Int) + y ≤ 24 ∧ (n : Int) + z ≤ 60 then 1 else 0) m) : sm_callI E L mX8_hasRoom d 0 0 [.ref (sm_B E + a), .int (iI x), .int (iI y), .int (iI z)] m Q := by
  obtain ⟨g1, g2, g3, g4, g5⟩ := hg
  have hl := lvs_le t n
  have hc0 := crs_le g5
  refine vX8_hasRoom_0 hd hT ?_
  rw [g1, g3, g4]
  refine ⟨fun hc => ?_, fun hc => ⟨fun hc2 => ?_, fun hc2 => ⟨fun hc3 => ?_, fun hc3 => ?_⟩⟩⟩
  · simp (disch := omega) only [iI_lit, jI_lit, iI_add, iI_sub, iI_mul, iI_neg, jI_add, jI_sub, jI_mul, jI_neg, nI_i, lN_j, iI_le, iI_lt, iI_eq, jI_le, jI_lt, jI_eq, iI_in, iI_cl, iI_j, jI_i, wI_1, wI_2, wJ_1, wJ_2, wJ_3, wIs_1, wIs_2, wJs_1, wJs_2, wJs_3] at hc
    rw [if_neg (by omega)] at h
    exact h
  · simp (disch := omega) only [iI_lit, jI_lit, iI_add, iI_sub, iI_mul, iI_neg, jI_add, jI_sub, jI_mul, jI_neg, nI_i, lN_j, iI_le, iI_lt, iI_eq, jI_le, jI_lt, jI_eq, iI_in, iI_cl, iI_j, jI_i, wI_1, wI_2, wJ_1, wJ_2, wJ_3, wIs_1, wIs_2, wJs_1, wJs_2, wJs_3] at hc hc2
    rw [if_neg (by omega)] at h
    exact h
  · simp (disch := omega) only [iI_lit, jI_lit, iI_add, iI_sub, iI_mul, iI_neg, jI_add, jI_sub, jI_mul, jI_neg, nI_i, lN_j, iI_le, iI_lt, iI_eq, jI_le, jI_lt, jI_eq, iI_in, iI_cl, iI_j, jI_i, wI_1, wI_2, wJ_1, wJ_2, wJ_3, wIs_1, wIs_2, wJs_1, wJs_2, wJs_3] at hc hc2 hc3
    rw [if_neg (by omega)] at h
    exact h
  · simp (disch := omega) only [iI_lit, jI_lit, iI_add, iI_sub, iI_mul, iI_neg, jI_add, jI_sub, jI_mul, jI_neg, nI_i, lN_j, iI_le, iI_lt, iI_eq, jI_le, jI_lt, jI_eq, iI_in, iI_cl, iI_j, jI_i, wI_1, wI_2, wJ_1, wJ_2, wJ_3, wIs_1, wIs_2, wJs_1, wJs_2, wJs_3] at hc hc2 hc3
    rw [if_pos (by omega)] at h
    exact h
/-- the tokens t, then u -/
def tcat (t : Nat → Int) (n : Nat) (u : Nat → Int) : Nat → Int := fun k => if k < n then t k else u (k - n)
theorem c_append_loop {Q : sm_M → Prop} {vs : List Value} {a b na nb n k : Nat} {t u : Nat → Int} (hTa : sm_tan L a na) (hTb : sm_tan L b nb) (hd : 3 ≤ d) (hk : k ≤ nb) (hna : na ≤ 100) (hnk : n + k ≤ na) (hab : a ≠ b) (hab1 : a ≠ b + 1) (hab2 : b ≠ a + 1) (m0 : sm_M) (h : ∀ m', fr (tgP a) m0 m' → tg m' a (tcat t n u) (n + k) → Q m') :
    ∀ (j i : Nat) (m : sm_M), i + j = k → fr (tgP a) m0 m → tg m a (tcat t n u) (n + i) → tg m b u k → gX8_append_2 E L d vs a b (iI (i : Nat)) m Q := by
  intro j
  induction j with
  | zero =>
    intro i m hij hf hga hgb
    have hgb0 := hgb.1
    refine vX8_append_2 hd hTa hTb ⟨fun _ => ?_, fun hc => ?_⟩
    · rw [show i = k by omega] at hga
      exact h m hf hga
    · rw [hgb0, iI_le (by omega) (by omega) (by omega) (by omega)] at hc
      omega
  | succ j ih =>
    intro i m hij hf hga hgb
    have hgb0 := hgb.1
    have hgb1 := hgb.2.1 i (by omega)
    have hgb2 := hgb.2.2.2.2 i (by omega)
    have htn : (iI (i : Nat)).toNatClampNeg = i := by rw [iI_cl (by omega) (by omega)]; omega
    refine vX8_append_2 hd hTa hTb ⟨fun hc => ?_, fun _ => ⟨by rw [iI_in (by omega) (by omega)]; omega, ?_⟩⟩
    · rw [hgb0, iI_le (by omega) (by omega) (by omega) (by omega)] at hc
      omega
    · rw [htn, hgb1]
      refine c_add hTa (by omega) hga (by omega) hna hgb2.1 hgb2.2 (fun m' f' g' x2 e2 => ?_)
      rw [iI_lit, iI_add] at e2
      subst e2
      refine ih (i + 1) m' (by omega) (hf.tr f') ?_ (hgb.fr f' (fun q h1 h2 => ?_) (fun q => ?_))
      · refine tg.congr g' (fun q hq => ?_)
        by_cases hq1 : q = n + i
        · subst hq1
          rw [tup_at, tcat, if_neg (by omega)]
          congr 1
          omega
        · rw [tup_lt (by omega)]
      · unfold tgP
        omega
      · unfold tgP
        omega
theorem c_append {Q : sm_M → Prop} {a b na nb n k : Nat} {t u : Nat → Int} (hTa : sm_tan L a na) (hTb : sm_tan L b nb) (hd : 3 ≤ d) (hk : k ≤ nb) (hna : na ≤ 100) (hnk : n + k ≤ na) (hab : a ≠ b) (hab1 : a ≠ b + 1) (hab2 : b ≠ a + 1) (hga : tg m a t n) (hgb : tg m b u k) (h : ∀ m', fr (tgP a) m m' → tg m' a (tcat t n u) (n + k) → Q m') : sm_callV E L mX8_append d 0 0 [.ref (sm_B E + a), .ref (sm_B E + b)] m Q := by
  refine vX8_append_0 hd hTa hTb ?_
  exact c_append_loop hTa hTb hd hk hna hnk hab hab1 hab2 m h k 0 m (by omega) fr.rf (tg.congr hga (fun q hq => by rw [tcat, if_pos (show q < n from hq)])) hgb
end TAN
