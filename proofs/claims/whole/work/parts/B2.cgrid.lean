/-! the class's grid -/
/-- the row i of the grid holds G i -/
def GV (m : sm_M) (c : Nat) (G : Nat → Nat → Int) : Prop := ∀ i j, i < c → j < 24 → m.2.2.1 28 i = some (29 + j) → ∀ k, k < 48 → m.1 (29 + j) k = iI (G i k)
def grP (a _k : Nat) : Prop := 29 ≤ a ∧ a ≤ 52
theorem grP_sc {a k : Nat} (h : grP a k) : scC a k := by
  unfold grP at h
  unfold scC
  omega
def upG (G : Nat → Nat → Int) (i k : Nat) (v : Int) : Nat → Nat → Int := fun i' k' => if i' = i ∧ k' = k then v else G i' k'
theorem upG_at {G : Nat → Nat → Int} {i k i' k' : Nat} {v : Int} : upG G i k v i' k' = if i' = i ∧ k' = k then v else G i' k' := rfl
theorem GV.w {m : sm_M} {c i j k : Nat} {G : Nat → Nat → Int} {v : Int} (h : GV m c G) (hc : c ≤ 24) (hi : inj28 m) (hic : i < c) (hj : j < 24) (hr : m.2.2.1 28 i = some (29 + j)) : GV (sm_wI m (29 + j) k (iI v)) c (upG G i k v) := by
  intro i' j' hi' hj' hr' k' hk'
  rw [upG_at]
  have hr2 : m.2.2.1 28 i' = some (29 + j') := hr'
  by_cases hii : i' = i
  · subst hii
    have hjj : j' = j := by
      have := hr2.symm.trans hr
      injection this
      omega
    subst hjj
    by_cases hkk : k' = k
    · rw [wI_eq rfl hkk, if_pos ⟨rfl, hkk⟩]
    · rw [wI_ne (Or.inr hkk), if_neg (fun q => hkk q.2)]
      exact h i' j' hi' hj' hr2 k' hk'
  · have hjj : j' ≠ j := fun q => hii (hi i' i (by omega) (by omega) (by rw [hr2, hr, q]))
    rw [wI_ne (Or.inl (by omega)), if_neg (fun q => hii q.1)]
    exact h i' j' hi' hj' hr2 k' hk'
/-- every entry is within 0 and p -/
def Gb (c p : Nat) (G : Nat → Nat → Int) : Prop := ∀ i k, i < c → k < 48 → 0 ≤ G i k ∧ G i k < p
section GRD
variable {E : sm_E} {L : sm_S → Prop} {d d1 d2 : Nat} {c K Z w cc : Nat} {po st ps ho ea : Nat → Nat}
theorem c_weigh {Q : sm_M → Prop} {m : sm_M} {b col p : Nat} {v : Int} {G : Nat → Nat → Int} (hly : ∀ S, L S → ly S) (hd : 1 ≤ d) (hc : c ≤ 24) (hi : inj28 m) (hG : GV m c G) (hGb : Gb c p G) (hb : b < c) (hcol : col < 48) (hp1 : 2 ≤ p) (hp2 : p ≤ 13) (v1 : 0 ≤ v) (v2 : v ≤ 13) (h : ∀ m', fr grP m m' → GV m' c (upG G b col ((G b col + v) % (p : Int))) → Q m') : sm_callV E L mX1_weigh d 0 0 [.ref (sm_B E + 27), .int (iI (b : Nat)), .int (iI (col : Nat)), .int (iI v), .int (iI (p : Nat))] m Q := by
  have hbd := hGb b col hb hcol
  have u1 : ¬ ((48 : Int) ≤ (col : Int)) := by omega
  have u2 : ¬ ((p : Int) ≤ 0) := by omega
  have u3 : (p : Int) ≠ 0 := by omega
  refine vX1_weigh_0 hly hd ?_
  simp (disch := omega) only [forall_eq, true_and, and_true, false_and, and_false, forall_const, true_implies, implies_true, not_true_eq_false, not_false_eq_true, false_implies, if_true, if_false, ↓reduceIte, Int.toNat_natCast, Int.reduceEq, Int.reduceNe, Int.reduceLT, Int.reduceLE, Int.reduceToNat, Int.reduceAdd, Int.reduceSub, Int.reduceMul, Int.reduceNeg, Nat.reduceAdd, Nat.reduceMul, Nat.reduceSub, iI_lit, jI_lit, iI_add, iI_sub, iI_mul, iI_neg, jI_add, jI_sub, jI_mul, jI_neg, nI_i, lN_j, iI_le, iI_lt, iI_eq, jI_le, jI_lt, jI_eq, iI_in, iI_cl, iI_j, jI_i, cN, inN, wI_eq, wI_ne, wJ_1, wJ_eq, wJ_ne, wI_2, wJ_3, iI_div, iI_rem, jI_div, jI_rem, true_or, or_true, false_or, or_false, eq_self, Nat.add_zero, u1, u2, u3]
  refine ⟨by omega, fun j2 hj2 r2 => ⟨by omega, fun j4 hj4 r4 => ?_⟩⟩
  rw [hG b j4 hb hj4 r4 col hcol]
  simp (disch := omega) only [forall_eq, true_and, and_true, false_and, and_false, forall_const, true_implies, implies_true, not_true_eq_false, not_false_eq_true, false_implies, if_true, if_false, ↓reduceIte, Int.toNat_natCast, Int.reduceEq, Int.reduceNe, Int.reduceLT, Int.reduceLE, Int.reduceToNat, Int.reduceAdd, Int.reduceSub, Int.reduceMul, Int.reduceNeg, Nat.reduceAdd, Nat.reduceMul, Nat.reduceSub, iI_lit, jI_lit, iI_add, iI_sub, iI_mul, iI_neg, jI_add, jI_sub, jI_mul, jI_neg, nI_i, lN_j, iI_le, iI_lt, iI_eq, jI_le, jI_lt, jI_eq, iI_in, iI_cl, iI_j, jI_i, cN, inN, wI_eq, wI_ne, wJ_1, wJ_eq, wJ_ne, wI_2, wJ_3, iI_div, iI_rem, jI_div, jI_rem, true_or, or_true, false_or, or_false, eq_self, Nat.add_zero]
  refine ⟨by omega, by omega, ?_⟩
  have e : (G b col + v).tmod (p : Int) = (G b col + v) % (p : Int) := by rw [Int.tmod_eq_emod_of_nonneg (by omega)]
  rw [e]
  exact h _ (fr.rf.wI ⟨by omega, by omega⟩) (hG.w hc hi hb hj2 r2)
theorem c_wfill {Q : Int32 → sm_M → Prop} {vs : List Value} {p : Nat} (hly : ∀ S, L S → ly S) (hd : 3 ≤ d) (hc : c ≤ 24) (m0 : sm_M) (hi : inj28 m0) (v10 : m0.1 16 10 = iI (c : Nat)) (h : ∀ m', fr grP m0 m' → GV m' c (fun _ _ => 0) → gX1_write_31 E L d vs (iI (p : Nat)) (iI 0) (iI 0) m' Q) :
    ∀ (r b : Nat) (m : sm_M), b + r = c → fr grP m0 m → GV m b (fun _ _ => 0) → gX1_write_2 E L d vs (iI (p : Nat)) (iI (b : Nat)) m Q := by
  intro r
  induction r with
  | zero =>
    intro b m hb hf hG
    have hbc : b = c := by omega
    subst hbc
    have w10 : m.1 16 10 = iI (b : Nat) := (hf.i (by unfold grP; omega)).trans v10
    refine vX1_write_2 hly hd ?_
    simp (disch := omega) only [forall_eq, true_and, and_true, false_and, and_false, forall_const, true_implies, implies_true, not_true_eq_false, not_false_eq_true, false_implies, if_true, if_false, ↓reduceIte, Int.toNat_natCast, Int.reduceEq, Int.reduceNe, Int.reduceLT, Int.reduceLE, Int.reduceToNat, Int.reduceAdd, Int.reduceSub, Int.reduceMul, Int.reduceNeg, Nat.reduceAdd, Nat.reduceMul, Nat.reduceSub, iI_lit, jI_lit, iI_add, iI_sub, iI_mul, iI_neg, jI_add, jI_sub, jI_mul, jI_neg, nI_i, lN_j, iI_le, iI_lt, iI_eq, jI_le, jI_lt, jI_eq, iI_in, iI_cl, iI_j, jI_i, cN, inN, wI_eq, wI_ne, wJ_1, wJ_eq, wJ_ne, wI_2, wJ_3, iI_div, iI_rem, jI_div, jI_rem, true_or, or_true, false_or, or_false, eq_self, Nat.add_zero, w10, Int.le_refl]
    exact h m hf hG
  | succ r ih =>
    intro b m hb hf hG
    have w10 : m.1 16 10 = iI (c : Nat) := (hf.i (by unfold grP; omega)).trans v10
    have u : ¬ ((c : Int) ≤ (b : Int)) := by omega
    have hi1 : inj28 m := by unfold inj28 at *; rw [hf.2]; exact hi
    refine vX1_write_2 hly hd ?_
    simp (disch := omega) only [forall_eq, true_and, and_true, false_and, and_false, forall_const, true_implies, implies_true, not_true_eq_false, not_false_eq_true, false_implies, if_true, if_false, ↓reduceIte, Int.toNat_natCast, Int.reduceEq, Int.reduceNe, Int.reduceLT, Int.reduceLE, Int.reduceToNat, Int.reduceAdd, Int.reduceSub, Int.reduceMul, Int.reduceNeg, Nat.reduceAdd, Nat.reduceMul, Nat.reduceSub, iI_lit, jI_lit, iI_add, iI_sub, iI_mul, iI_neg, jI_add, jI_sub, jI_mul, jI_neg, nI_i, lN_j, iI_le, iI_lt, iI_eq, jI_le, jI_lt, jI_eq, iI_in, iI_cl, iI_j, jI_i, cN, inN, wI_eq, wI_ne, wJ_1, wJ_eq, wJ_ne, wI_2, wJ_3, iI_div, iI_rem, jI_div, jI_rem, true_or, or_true, false_or, or_false, eq_self, Nat.add_zero, w10, u]
    refine ⟨by omega, fun j hj rj => ?_⟩
    have hT : ∀ S, L S → sm_K S (29 + j) = 11 ∧ sm_N S (29 + j) = 48 := ly_growA hly hj
    refine c_fillI hT (by decide) (by omega) (fun m' f1 z1 => ?_)
    refine ih (b + 1) m' (by omega) (hf.tr (f1.mono (fun a k q => by unfold rowP at q; unfold grP; omega))) (fun i j' hi' hj' r' k hk => ?_)
    have r'' : m.2.2.1 28 i = some (29 + j') := by rw [← show m'.2.2 = m.2.2 from f1.2]; exact r'
    by_cases hib : i = b
    · subst hib
      have hjj : j' = j := by
        have := r''.symm.trans rj
        injection this
        omega
      subst hjj
      exact z1 k hk
    · have hjj : j' ≠ j := fun q => hib (hi1 i b (by omega) (by omega) (by rw [r'', rj, q]))
      rw [f1.i (by unfold rowP; omega)]
      exact hG i j' (by omega) hj' r'' k hk
end GRD
