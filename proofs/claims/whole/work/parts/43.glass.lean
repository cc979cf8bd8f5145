/-! the looking glass of a name -/
section GLA
variable {E : sm_E} {L : sm_S → Prop} {d : Nat} {m : sm_M}
theorem c_glassOf {Q : Int64 → sm_M → Prop} {p q : Int} (hp1 : 0 ≤ p) (hp2 : p ≤ 1000000000) (hq1 : 0 ≤ q) (hq2 : q ≤ 1000000000) (hg : 1 < p → Int.gcd p q = 1) (hd : 3 ≤ d) (h : Q (if p ≤ 1 then pk p q else pk (nm p (p - q)).1 (nm p (p - q)).2) m) : sm_callJ E L mX6_glassOf d 0 0 [.long (pk p q)] m Q := by
  refine vX6_glassOf_0 hd (c_topOf hq1 (by omega) (by omega) ⟨fun hc => ?_, fun hc => ?_⟩)
  · rw [iI_lit, iI_le (by omega) (by omega) (by omega) (by omega)] at hc
    have q1 : p ≤ 1 := hc
    rw [if_pos q1] at h
    exact h
  · rw [iI_lit, iI_le (by omega) (by omega) (by omega) (by omega)] at hc
    have q1 : ¬ p ≤ 1 := hc
    rw [if_neg q1] at h
    refine c_bottomOf (by omega) ?_
    rw [iI_sub]
    refine c_named (by omega) (by omega) (by omega) (by omega) ?_ (by omega) h
    have h1 : p - q = -q + 1 * p := by omega
    rw [h1, Int.gcd_add_mul_right_right, Int.gcd_neg]
    exact hg (by omega)
end GLA
