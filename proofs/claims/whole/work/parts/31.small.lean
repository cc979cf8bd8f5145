/-! small methods -/
theorem c_abs {E : sm_E} {L : sm_S → Prop} {d : Nat} {m : sm_M} {Q : Int32 → sm_M → Prop} {z : Int} (h1 : -2147483647 ≤ z) (h2 : z ≤ 2147483647) (hd : 1 ≤ d) (h : Q (iI (z.natAbs : Int)) m) : sm_callI E L mJ9_abs_0f7a4 d 0 0 [.int (iI z)] m Q := by
  refine vJ9_abs_0f7a4_0 hd ⟨fun hc => ?_, fun hc => ?_⟩
  · simp (disch := omega) only [iI_lit, jI_lit, iI_add, iI_sub, iI_mul, iI_neg, jI_add, jI_sub, jI_mul, jI_neg, nI_i, lN_j, iI_le, iI_lt, iI_eq, jI_le, jI_lt, jI_eq, iI_in, iI_cl, iI_j, jI_i, wI_1, wI_2, wJ_1, wJ_2, wJ_3, wIs_1, wIs_2, wJs_1, wJs_2, wJs_3] at hc
    rw [show z = (z.natAbs : Int) by omega]
    exact h
  · simp (disch := omega) only [iI_lit, jI_lit, iI_add, iI_sub, iI_mul, iI_neg, jI_add, jI_sub, jI_mul, jI_neg, nI_i, lN_j, iI_le, iI_lt, iI_eq, jI_le, jI_lt, jI_eq, iI_in, iI_cl, iI_j, jI_i, wI_1, wI_2, wJ_1, wJ_2, wJ_3, wIs_1, wIs_2, wJs_1, wJs_2, wJs_3] at hc
    rw [iI_neg, show -z = (z.natAbs : Int) by omega]
    exact h
theorem c_isSlot {E : sm_E} {L : sm_S → Prop} {d : Nat} {m : sm_M} {Q : Int32 → sm_M → Prop} {z : Int} (h1 : -2147483648 ≤ z) (h2 : z ≤ 2147483647) (hd : 1 ≤ d) (h : Q (if 0 ≤ z ∧ z < 6 then 1 else 0) m) : sm_callI E L mX11_isSlot d 0 0 [.int (iI z)] m Q := by
  refine vX11_isSlot_0 hd ?_
  simp (disch := omega) only [iI_lit, jI_lit, iI_add, iI_sub, iI_mul, iI_neg, jI_add, jI_sub, jI_mul, jI_neg, nI_i, lN_j, iI_le, iI_lt, iI_eq, jI_le, jI_lt, jI_eq, iI_in, iI_cl, iI_j, jI_i, wI_1, wI_2, wJ_1, wJ_2, wJ_3, wIs_1, wIs_2, wJs_1, wJs_2, wJs_3]
  refine ⟨fun hc => ?_, fun hc => ⟨fun hc2 => ?_, fun hc2 => ?_⟩⟩
  · rw [if_neg (by omega)] at h; exact h
  · rw [if_neg (by omega)] at h; exact h
  · rw [if_pos (by omega)] at h; exact h
