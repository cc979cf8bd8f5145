/-! the size of a name -/
def szS (u v : Int) : Nat → Int
  | 0 => 0
  | k + 1 => szS u v k + (rst 3 u v k).1 / (rst 3 u v k).2
theorem szS_bd {u v : Int} (hu : 0 ≤ u) (hv : 0 ≤ v) : ∀ k, (∀ j, j < k → (rst 3 u v j).2 ≠ 0) → 0 ≤ szS u v k ∧ szS u v k + (rst 3 u v k).1 + (rst 3 u v k).2 ≤ u + v := by
  intro k
  induction k with
  | zero =>
    intro _
    rw [szS, rst]
    omega
  | succ k ih =>
    intro hn
    obtain ⟨a1, a2⟩ := ih (fun j hj => hn j (by omega))
    obtain ⟨f1, f2, f3⟩ := rst_floor hu hv k (fun j hj => hn j (by omega))
    have hk := hn k (by omega)
    rw [szS, f3 hk]
    generalize (rst 3 u v k).1 = x at *
    generalize (rst 3 u v k).2 = y at *
    have e := Int.emod_add_mul_ediv x y
    have q0 := Int.ediv_nonneg f1 f2
    have : 1 * (x / y) ≤ y * (x / y) := Int.mul_le_mul_of_nonneg_right (by omega) q0
    show 0 ≤ szS u v k + x / y ∧ szS u v k + x / y + y + x % y ≤ u + v
    omega
section SIZ
variable {E : sm_E} {L : sm_S → Prop} {d : Nat} {m : sm_M}
theorem c_sizeOf_loop {Q : Int32 → sm_M → Prop} {vs : List Value} {u v : Int} {M : Nat} (hd : 2 ≤ d) (hu : 0 ≤ u) (hu2 : u ≤ 500000000) (hv : 0 ≤ v) (hv2 : v ≤ 500000000) (hM : M ≤ 47) (hz : (rst 3 u v M).2 = 0) (hn : ∀ j, j < M → (rst 3 u v j).2 ≠ 0) (h : Q (iI (szS u v M)) m) : ∀ (r k : Nat), k + r = M → gX6_sizeOf_23 E L d vs (iI (rst 3 u v k).1) (iI (rst 3 u v k).2) (iI (szS u v k)) (iI (k : Nat)) m Q := by
  intro r
  induction r with
  | zero =>
    intro k hk
    have : k = M := by omega
    subst this
    refine vX6_sizeOf_23 hd ?_
    rw [hz]
    exact ⟨fun _ => h, fun _ => ⟨fun _ => h, fun z => absurd rfl z⟩⟩
  | succ r ih =>
    intro k hk
    have nx := ih (k + 1) (by omega)
    obtain ⟨f1, f2, f3⟩ := rst_floor hu hv k (fun j hj => hn j (by omega))
    obtain ⟨a1, a2⟩ := szS_bd hu hv k (fun j hj => hn j (by omega))
    have hk0 := hn k (by omega)
    have e5 : ((k : Nat) : Int) + 1 = ((k + 1 : Nat) : Int) := by omega
    rw [szS, f3 hk0] at nx
    generalize (rst 3 u v k).1 = x at *
    generalize (rst 3 u v k).2 = y at *
    refine vX6_sizeOf_23 hd ?_
    have hy0 : ¬ iI y = 0 := fun q => by
      rw [iI_lit] at q
      have := (iI_eq (by omega) (by omega) (by omega) (by omega)).mp q
      omega
    refine ⟨fun z => ?_, fun _ => ⟨fun z => absurd z hy0, fun _ => ⟨hy0, ?_⟩⟩⟩
    · simp (disch := omega) only [forall_eq, true_and, and_true, false_and, and_false, forall_const, true_implies, implies_true, not_true_eq_false, not_false_eq_true, false_implies, if_true, if_false, ↓reduceIte, Int.toNat_natCast, Int.reduceEq, Int.reduceNe, Int.reduceLT, Int.reduceLE, Int.reduceToNat, Int.reduceAdd, Int.reduceSub, Int.reduceMul, Int.reduceNeg, Nat.reduceAdd, Nat.reduceMul, Nat.reduceSub, iI_lit, jI_lit, iI_add, iI_sub, iI_mul, iI_neg, jI_add, jI_sub, jI_mul, jI_neg, nI_i, lN_j, iI_le, iI_lt, iI_eq, jI_le, jI_lt, jI_eq, iI_in, iI_cl, iI_j, jI_i, cN, inN, wI_eq, wI_ne, wJ_1, wJ_eq, wJ_ne, wI_2, wJ_3, iI_div, iI_rem, jI_div, jI_rem, true_or, or_true, false_or, or_false, eq_self, Nat.add_zero] at z
      omega
    intro x6 e6
    refine ⟨hy0, ?_⟩
    intro x4 e4 x5 e5'
    rw [iI_rem (by omega) (by omega) (by omega) (by omega), Int.tmod_eq_emod_of_nonneg f1] at e6
    rw [iI_div (by omega) (by omega) (by omega) (by omega), Int.tdiv_eq_ediv_of_nonneg f1, iI_add] at e4
    rw [iI_lit, iI_add, e5] at e5'
    subst e6 e4 e5'
    exact nx
end SIZ
