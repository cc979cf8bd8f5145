/-! the class's elimination: two rows change places -/
section CRL
variable {c : Nat}
theorem wR28 {m : sm_M} {s r i : Nat} {x y : Option Nat} : (sm_wR (sm_wR m 28 s x) 28 r y).2.2.1 28 i = if i = r then y else if i = s then x else m.2.2.1 28 i := by
  by_cases h1 : i = r
  · subst h1; simp [sm_wR, sm_u]
  · by_cases h2 : i = s
    · subst h2; simp [sm_wR, sm_u, h1]
    · simp [sm_wR, sm_u, h1, h2]
theorem GV.sw {m : sm_M} {s r j5 j7 : Nat} {G : Nat → Nat → Int} (hG : GV m c G) (hc : c ≤ 24) (hi : inj28 m) (hs : s < c) (hr : r < c) (h5 : j5 < 24) (h7 : j7 < 24) (hrs : m.2.2.1 28 s = some (29 + j5)) (hrr : m.2.2.1 28 r = some (29 + j7)) : GV (sm_wR (sm_wR m 28 s (some (29 + j7))) 28 r (some (29 + j5))) c (swp G r s) ∧ inj28 (sm_wR (sm_wR m 28 s (some (29 + j7))) 28 r (some (29 + j5))) := by
  constructor
  · intro i j hic hj hir k hk
    rw [wR28] at hir
    show m.1 (29 + j) k = _
    unfold swp
    by_cases h1 : i = r
    · rw [if_pos h1] at hir ⊢
      injection hir with e
      rw [← e]
      exact hG s j5 hs h5 hrs k hk
    · rw [if_neg h1] at hir ⊢
      by_cases h2 : i = s
      · rw [if_pos h2] at hir ⊢
        injection hir with e
        rw [← e]
        exact hG r j7 hr h7 hrr k hk
      · rw [if_neg h2] at hir ⊢
        exact hG i j hic hj hir k hk
  · intro i j hi24 hj24 e
    rw [wR28, wR28] at e
    by_cases a1 : i = r
    · by_cases b1 : j = r
      · omega
      · rw [if_pos a1, if_neg b1] at e
        by_cases b2 : j = s
        · rw [if_pos b2] at e
          have := hi s r (by omega) (by omega) (by rw [hrs, hrr]; exact e)
          omega
        · rw [if_neg b2] at e
          have := hi s j (by omega) hj24 (by rw [hrs]; exact e)
          omega
    · rw [if_neg a1] at e
      by_cases a2 : i = s
      · rw [if_pos a2] at e
        by_cases b1 : j = r
        · rw [if_pos b1] at e
          have := hi r s (by omega) (by omega) (by rw [hrs, hrr]; exact e)
          omega
        · rw [if_neg b1] at e
          by_cases b2 : j = s
          · omega
          · rw [if_neg b2] at e
            have := hi r j (by omega) hj24 (by rw [hrr]; exact e)
            omega
      · rw [if_neg a2] at e
        by_cases b1 : j = r
        · rw [if_pos b1] at e
          have := hi i s hi24 (by omega) (by rw [hrs]; exact e)
          omega
        · rw [if_neg b1] at e
          by_cases b2 : j = s
          · rw [if_pos b2] at e
            have := hi i r hi24 (by omega) (by rw [hrr]; exact e)
            omega
          · rw [if_neg b2] at e
            exact hi i j hi24 hj24 e
end CRL
