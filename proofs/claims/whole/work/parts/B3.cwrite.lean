/-! the class writes its grid -/
noncomputable def pd (K : Nat) (st ps : Nat → Nat) (k x q : Nat) : Bool := decide ((pkx K st ps q).1 < k ∨ ((pkx K st ps q).1 = k ∧ (pkx K st ps q).2 < x))
noncomputable def vl (K : Nat) (st ps : Nat → Nat) (k x b j : Nat) : Int := (if pd K st ps k x (2 * b) then 2 * eqI j (colG K st ps (fun _ => 0) (2 * b)) else 0) + (if pd K st ps k x (2 * b + 1) then -(eqI j (colG K st ps (fun _ => 0) (2 * b + 1))) - eqI j (colG K st ps (fun _ => 1) (2 * b + 1)) else 0)
section CWR
variable {E : sm_E} {L : sm_S → Prop} {d d1 d2 : Nat} {c K Z w cc : Nat} {po st ps ho ea : Nat → Nat}
theorem pd_new (hF : rF c K Z w po st ps ho ea) {k x q : Nat} (hk : k < K) (hx : st k + x < st (k + 1)) (hq : q < 2 * c) : pd K st ps k (x + 1) q = (pd K st ps k x q || decide (q = ps (st k + x))) := by
  unfold pd
  rw [← Bool.decide_or]
  apply decide_eq_decide.mpr
  constructor
  · rintro (h | ⟨h1, h2⟩)
    · exact Or.inl (Or.inl h)
    · by_cases h3 : (pkx K st ps q).2 < x
      · exact Or.inl (Or.inr ⟨h1, h3⟩)
      · right
        have h4 := (pkx_is hF hq).2.2
        rw [h1, show (pkx K st ps q).2 = x by omega] at h4
        exact h4.symm
  · rintro ((h | ⟨h1, h2⟩) | h)
    · exact Or.inl h
    · exact Or.inr ⟨h1, by omega⟩
    · right
      rw [h, pkx_at hF hk hx]
      exact ⟨rfl, Nat.lt_succ_self _⟩
theorem pd_old (hF : rF c K Z w po st ps ho ea) {k x : Nat} (hk : k < K) (hx : st k + x < st (k + 1)) : pd K st ps k x (ps (st k + x)) = false := by
  unfold pd
  rw [pkx_at hF hk hx]
  apply decide_eq_false
  rintro (h | h)
  · exact absurd h (Nat.lt_irrefl _)
  · exact absurd h.2 (Nat.lt_irrefl _)
theorem pd_next (hF : rF c K Z w po st ps ho ea) {k N q : Nat} (hN : st k + N = st (k + 1)) (hq : q < 2 * c) : pd K st ps (k + 1) 0 q = pd K st ps k N q := by
  unfold pd
  apply decide_eq_decide.mpr
  have h1 := (pkx_is hF hq).2.1
  constructor
  · rintro (h | ⟨_, h⟩)
    · by_cases h2 : (pkx K st ps q).1 = k
      · right
        rw [h2] at h1
        exact ⟨h2, by omega⟩
      · exact Or.inl (by omega)
    · exact absurd h (Nat.not_lt_zero _)
  · rintro (h | ⟨h, _⟩)
    · exact Or.inl (by omega)
    · exact Or.inl (by omega)
theorem vl_end (hF : rF c K Z w po st ps ho ea) {b j : Nat} (hb : b < c) : vl K st ps K 0 b j = mtx K st ps (fun _ => 0) (fun _ => 1) b j := by
  have h1 : pd K st ps K 0 (2 * b) = true := decide_eq_true (Or.inl (pkx_is hF (show 2 * b < 2 * c by omega)).1)
  have h2 : pd K st ps K 0 (2 * b + 1) = true := decide_eq_true (Or.inl (pkx_is hF (show 2 * b + 1 < 2 * c by omega)).1)
  unfold vl mtx
  rw [h1, h2, if_pos rfl, if_pos rfl]
  omega
theorem vl_next (hF : rF c K Z w po st ps ho ea) {k N b j : Nat} (hN : st k + N = st (k + 1)) (hb : b < c) : vl K st ps (k + 1) 0 b j = vl K st ps k N b j := by
  unfold vl
  rw [pd_next hF hN (show 2 * b < 2 * c by omega), pd_next hF hN (show 2 * b + 1 < 2 * c by omega)]
theorem vl_even (hF : rF c K Z w po st ps ho ea) {k x b0 b j : Nat} (hk : k < K) (hx : st k + x < st (k + 1)) (hq : ps (st k + x) = 2 * b0) (hb : b < c) : vl K st ps k (x + 1) b j = vl K st ps k x b j + (if b = b0 then 2 * eqI j (colG K st ps (fun _ => 0) (2 * b0)) else 0) := by
  have ho := pd_old hF hk hx
  unfold vl
  rw [pd_new hF hk hx (show 2 * b < 2 * c by omega), pd_new hF hk hx (show 2 * b + 1 < 2 * c by omega), hq, decide_eq_false (show ¬ (2 * b + 1 = 2 * b0) by omega), Bool.or_false]
  by_cases h : b = b0
  · subst h
    rw [hq] at ho
    rw [ho, if_pos rfl]
    simp
    omega
  · rw [if_neg h, decide_eq_false (show ¬ (2 * b = 2 * b0) by omega), Bool.or_false, Int.add_zero]
theorem vl_odd (hF : rF c K Z w po st ps ho ea) {k x b0 b j : Nat} (hk : k < K) (hx : st k + x < st (k + 1)) (hq : ps (st k + x) = 2 * b0 + 1) (hb : b < c) : vl K st ps k (x + 1) b j = vl K st ps k x b j + (if b = b0 then -(eqI j (colG K st ps (fun _ => 0) (2 * b0 + 1))) - eqI j (colG K st ps (fun _ => 1) (2 * b0 + 1)) else 0) := by
  have ho := pd_old hF hk hx
  unfold vl
  rw [pd_new hF hk hx (show 2 * b < 2 * c by omega), pd_new hF hk hx (show 2 * b + 1 < 2 * c by omega), hq, decide_eq_false (show ¬ (2 * b = 2 * b0 + 1) by omega), Bool.or_false]
  by_cases h : b = b0
  · subst h
    rw [hq] at ho
    rw [ho, if_pos rfl]
    simp
  · rw [if_neg h, decide_eq_false (show ¬ (2 * b + 1 = 2 * b0 + 1) by omega), Bool.or_false, Int.add_zero]
theorem rC.fr {P : Nat → Nat → Prop} {m m' : sm_M} (h : rC m c K Z w po st ps ho ea) (hf : fr P m m') (h1 : ∀ a k, 16 ≤ a → a ≤ 26 → ¬ P a k) : rC m' c K Z w po st ps ho ea := by
  obtain ⟨p1, p2, p3, p4, p5, p6, p7, p8⟩ := h
  exact ⟨(hf.i (h1 _ _ (by decide) (by decide))).trans p1, (hf.i (h1 _ _ (by decide) (by decide))).trans p2, (hf.i (h1 _ _ (by decide) (by decide))).trans p3, fun b hb => (hf.i (h1 _ _ (by decide) (by decide))).trans (p4 b hb), fun b hb => (hf.i (h1 _ _ (by decide) (by decide))).trans (p5 b hb), fun b hb => (hf.i (h1 _ _ (by decide) (by decide))).trans (p6 b hb), fun b hb => (hf.i (h1 _ _ (by decide) (by decide))).trans (p7 b hb), fun b hb => (hf.i (h1 _ _ (by decide) (by decide))).trans (p8 b hb)⟩
theorem Gb.up {p b col : Nat} {G : Nat → Nat → Int} {v : Int} (h : Gb c p G) (hp : 1 ≤ p) : Gb c p (upG G b col (v % (p : Int))) := by
  intro i k hi hk
  rw [upG_at]
  split
  · exact ⟨Int.emod_nonneg _ (by omega), Int.emod_lt_of_pos _ (by omega)⟩
  · exact h i k hi hk
/-- one more weight -/
theorem md_up {p b col i k : Nat} {G : Nat → Nat → Int} {v u : Int} {f : Nat → Nat → Int} (h : md p (G i k) (f i k)) (hv : md p v u) : md p (upG G b col ((G b col + v) % (p : Int)) i k) (f i k + (if i = b then u * eqI k col else 0)) := by
  rw [upG_at]
  unfold eqI
  by_cases h1 : i = b
  · by_cases h2 : k = col
    · subst h1
      subst h2
      rw [if_pos ⟨rfl, rfl⟩, if_pos rfl, if_pos rfl, Int.mul_one]
      exact (md_mod _ _).tr (h.add hv)
    · rw [if_neg (fun q => h2 q.2), if_pos h1, if_neg h2, Int.mul_zero, Int.add_zero]
      exact h
  · rw [if_neg (fun q => h1 q.1), if_neg h1, Int.add_zero]
    exact h
theorem colG_at (hF : rF c K Z w po st ps ho ea) {k x : Nat} (g : Nat → Nat) (hk : k < K) (hx : st k + x < st (k + 1)) : colG K st ps g (ps (st k + x)) = asm ps st k + (g (amn ps st k) + unc ps (st k) x) % amn ps st k := by
  unfold colG
  rw [pkx_at hF hk hx]
end CWR
