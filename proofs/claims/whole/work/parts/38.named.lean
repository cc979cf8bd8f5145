/-! names -/
/-- r is the inverse of q modulo p -/
def isInv (p q r : Int) : Prop := 0 ≤ r ∧ r < p ∧ ∃ c, r * q = 1 + c * p
theorem isInv.uniq {p q r r' : Int} (h : isInv p q r) (h' : isInv p q r') : r = r' := by
  obtain ⟨h1, h2, c, h3⟩ := h
  obtain ⟨h1', h2', c', h3'⟩ := h'
  have e1 : (r - r') = p * ((c * r') - (c' * r)) := by
    have a1 : r * q * r' = (1 + c * p) * r' := by rw [h3]
    have a2 : r' * q * r = (1 + c' * p) * r := by rw [h3']
    have a3 : r * q * r' = r' * q * r := by rw [Int.mul_right_comm, Int.mul_comm r r', Int.mul_right_comm]
    rw [a3, a2, Int.add_mul, Int.add_mul, Int.one_mul, Int.one_mul, Int.mul_right_comm c p, Int.mul_right_comm c' p] at a1
    rw [Int.mul_sub, Int.mul_comm p, Int.mul_comm p]
    omega
  have e2 : p ∣ (r - r') := ⟨_, e1⟩
  obtain ⟨k, hk⟩ := e2
  have hk0 : k = 0 := by
    apply Classical.byContradiction
    intro hk0
    have hp : 0 < p := by omega
    by_cases hkp : 1 ≤ k
    · have := Int.mul_le_mul_of_nonneg_left hkp (show 0 ≤ p by omega)
      omega
    · have := Int.mul_le_mul_of_nonneg_left (show k ≤ -1 by omega) (show 0 ≤ p by omega)
      omega
  subst hk0
  omega
/-- the name's bottom: the lesser of q and its inverse, modulo p -/
noncomputable def nmB (p q : Int) : Int := min (q % p) (Classical.epsilon (isInv p (q % p)))
theorem nmB_of {p q r : Int} (h : isInv p (q % p) r) : nmB p q = min (q % p) r := by
  rw [nmB, isInv.uniq (Classical.epsilon_spec ⟨r, h⟩) h]
section NMD
variable {E : sm_E} {L : sm_S → Prop} {d : Nat} {m : sm_M}
/-- the name of the fraction a/b -/
noncomputable def nm (a b : Int) : Int × Int := if a = 0 then (0, 1) else if a.natAbs = 1 then (1, 0) else (a.natAbs, nmB a.natAbs (if 0 ≤ a then b else -b))
theorem c_named_36 {Q : Int64 → sm_M → Prop} {vs : List Value} {p q : Int} (hp : 2 ≤ p) (hp2 : p ≤ 2147483647) (hq1 : -2147483648 ≤ q) (hq2 : q ≤ 2147483647) (hg : Int.gcd p q = 1) (hd : 2 ≤ d) (h : Q (pk p (nmB p q)) m) : gX6_named_36 E L d vs (iI p) (iI q) m Q := by
  have hr1 := Int.emod_nonneg q (show p ≠ 0 by omega)
  have hr2 := Int.emod_lt_of_pos q (show 0 < p by omega)
  refine vX6_named_36 hd (c_floorMod hq1 hq2 (by omega) hp2 (by omega) ?_)
  refine c_inverseOf hp hp2 hr1 hr2 ?_ (by omega) (fun r h1 h2 h3 => ?_)
  · rw [Int.emod_def, Int.gcd_sub_mul_left_right]
    exact hg
  · refine c_min (by omega) (by omega) (by omega) (by omega) (by omega) (c_pair (by omega) ?_)
    rw [nmB_of ⟨h1, h2, h3⟩] at h
    exact h
theorem c_named {Q : Int64 → sm_M → Prop} {a b : Int} (ha1 : -1073741824 ≤ a) (ha2 : a ≤ 1073741824) (hb1 : -1073741824 ≤ b) (hb2 : b ≤ 1073741824) (hg : Int.gcd a b = 1) (hd : 2 ≤ d) (h : Q (pk (nm a b).1 (nm a b).2) m) : sm_callJ E L mX6_named d 0 0 [.int (iI a), .int (iI b)] m Q := by
  refine vX6_named_0 hd (c_abs (by omega) (by omega) (by omega) ⟨fun h0 => ⟨fun h1 => ?_, fun h1 => ?_⟩, fun h0 => ?_⟩)
  · rw [iI_lit, iI_eq (by omega) (by omega) (by omega) (by omega)] at h0 h1
    have e0 : ¬ a = 0 := by omega
    have e1 : ¬ a.natAbs = 1 := by omega
    rw [nm, if_neg e0, if_neg e1] at h
    refine ⟨fun h2 => ?_, fun h2 => ?_⟩
    · rw [iI_lit, iI_le (by omega) (by omega) (by omega) (by omega)] at h2
      rw [if_pos (show 0 ≤ a by omega)] at h
      refine c_named_36 (by omega) (by omega) (by omega) (by omega) ?_ hd h
      rw [show (a.natAbs : Int) = a by omega]
      exact hg
    · rw [iI_lit, iI_le (by omega) (by omega) (by omega) (by omega)] at h2
      rw [if_neg (show ¬ 0 ≤ a by omega)] at h
      rw [iI_neg]
      refine c_named_36 (by omega) (by omega) (by omega) (by omega) ?_ hd h
      rw [show (a.natAbs : Int) = -a by omega, Int.neg_gcd, Int.gcd_neg]
      exact hg
  · rw [iI_lit, iI_eq (by omega) (by omega) (by omega) (by omega)] at h0 h1
    rw [nm, if_neg (by omega), if_pos (by omega)] at h
    exact c_pair (a := 1) (b := 0) (by omega) h
  · rw [iI_lit, iI_eq (by omega) (by omega) (by omega) (by omega)] at h0
    rw [nm, if_pos (by omega)] at h
    exact c_pair (a := 0) (b := 1) (by omega) h
end NMD
