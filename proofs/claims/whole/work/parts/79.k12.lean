/-! tangle: the call -/
section K12
variable {E : sm_E} {L : sm_S → Prop} {d d1 d2 : Nat} {m : sm_M} {c : Nat}
def rtP (a k : Nat) : Prop := rkP a k ∨ (a = 109 ∧ (k = 32 ∨ k = 11))
theorem rt_sl {i a k : Nat} (h : rtP a k) : slTP i a k := by
  rcases h with h | h
  · rcases h with h | h
    · exact wk_sl h
    · exact Or.inl (Or.inr (Or.inl (Or.inl ⟨h.1, by omega, by omega, by omega, by omega, by omega⟩)))
  · exact t32_sl h
theorem rd_sl {i a k : Nat} (h : rdP a k) : slTP i a k := Or.inl (Or.inl (by unfold rdP at h; unfold scC; omega))
theorem tg14_sl {i a k : Nat} (h : tgP 14 a k) : slTP i a k := Or.inl (Or.inl (by unfold tgP at h; unfold scC; omega))
theorem me14_sl {i a k : Nat} (h : meP 14 a k) : slTP i a k := Or.inl (Or.inl (meP_sc (Or.inr rfl) h))
/-- the reference -/
theorem c12_tangleC {Q : Int32 → sm_M → Prop} {b : Nat → Int} {N i j n' : Nat} {t t' : Nat → Int} {ok : Bool} (hly : ∀ S, L S → ly S) (hd : 61 ≤ d2) (hi : i < 6) (hN : N ≤ 100) (hbb : ∀ k, k < N → 0 ≤ b k ∧ b k ≤ 255) (h : RP b N 3 0 0 t 0 j t' n' ok) (m1 : sm_M) (h11 : m1.1 109 11 = iI (N : Nat)) (h116 : ∀ k, k < N → m1.1 116 k = iI (b k))
    (bad : (ok = false ∨ j ≠ N) → ∀ m2, fr rtP m1 m2 → m2.1 109 11 = iI 0 → Q (-10 - iI (j : Nat)) m2)
    (good : ok = true → j = N → ∀ m2, fr rtP m1 m2 → m2.1 109 11 = iI 0 → wk m2 t' n' → sm_callI E L mX12_isTooMuch 3 0 0 [.ref (sm_B E + 109)] m2 (fun r_11 m_10 => (r_11 = 0 → sm_callI E L mX12_comesTo 4 0 0 [.ref (sm_B E + 109), .int (iI (i : Nat))] m_10 (fun r_13 m_12 => Q r_13 m_12)) ∧ (¬ r_11 = 0 → sm_callI E L mX12_finds 1 0 0 [.ref (sm_B E + 109), .int 4] m_10 (fun r_15 m_14 => Q r_15 m_14)))) : sm_callI E L mX12_tangle d2 0 0 [.ref (sm_B E + 109), .int (iI (i : Nat))] m1 Q := by
  have hp := h.pos (Nat.zero_le _)
  refine vX12_tangle_0 hly hd (c12_isSlot (by omega) (by omega) (by omega) ?_)
  rw [if_pos (by omega)]
  refine ⟨fun _ => ?_, fun z => absurd z (by decide)⟩
  intro m3 e3 m4 e4 m5 e5 m6 e6 m7 e7 m8 e8
  rw [h11] at e3
  have f8 : fr rtP m1 m8 := by
    subst e3 e4 e5 e6 e7 e8
    exact (((((fr.rf.wI (Or.inr ⟨rfl, Or.inl rfl⟩)).wI (Or.inr ⟨rfl, Or.inr rfl⟩)).wI (Or.inl (Or.inr ⟨rfl, Or.inl rfl⟩))).wI (Or.inl (Or.inr ⟨rfl, Or.inr (Or.inl rfl)⟩))).wI (Or.inl (Or.inr ⟨rfl, Or.inr (Or.inr rfl)⟩))).wI (Or.inl (Or.inl (Or.inl ⟨rfl, rfl⟩)))
  have hb : bas2 m8 b N ∧ m8.1 109 11 = iI 0 ∧ rk m8 m8 t 0 0 0 := by
    refine ⟨⟨hN, ?_, fun k hk => ⟨(hbb k hk).1, (hbb k hk).2, (f8.i (by unfold rtP rkP wkP; omega)).trans (h116 k hk)⟩⟩, ?_, fr.rf, ⟨?_, fun k hk => absurd hk (Nat.not_lt_zero _)⟩, ?_, ?_, ?_⟩
    · subst e3 e4 e5 e6 e7 e8
      rw [wI_ne (by omega), wI_ne (by omega), wI_ne (by omega), wI_ne (by omega), wI_ne (by omega), wI_eq rfl rfl]
    · subst e3 e4 e5 e6 e7 e8
      rw [wI_ne (by omega), wI_ne (by omega), wI_ne (by omega), wI_ne (by omega), wI_eq rfl rfl]
      rfl
    · subst e3 e4 e5 e6 e7 e8
      rw [wI_eq rfl rfl]
      rfl
    · subst e3 e4 e5 e6 e7 e8
      rw [wI_ne (by omega), wI_ne (by omega), wI_ne (by omega), wI_eq rfl rfl]
      rfl
    · subst e3 e4 e5 e6 e7 e8
      rw [wI_ne (by omega), wI_ne (by omega), wI_eq rfl rfl]
      rfl
    · subst e3 e4 e5 e6 e7 e8
      rw [wI_ne (by omega), wI_eq rfl rfl]
      rfl
  obtain ⟨hb, h11', hr⟩ := hb
  clear e3 e4 e5 e6 e7 e8
  have q32 : ∀ m9, fr rkP m8 m9 → m9.1 109 32 = iI (N : Nat) ∧ m9.1 109 11 = iI 0 ∧ fr rtP m1 m9 := fun m9 f9 => ⟨(f9.i (by unfold rkP wkP; omega)).trans hb.2.1, (f9.i (by unfold rkP wkP; omega)).trans h11', f8.tr (f9.mono (fun a k q => Or.inl q))⟩
  refine (r_all hly hb h 60 m8 _ (Nat.zero_le _) (by omega) (by omega) hr (fun hok m9 hr9 => ?_) (fun hok m9 hr9 => ?_)).2.2.2.1 rfl (by omega)
  · obtain ⟨q1, q2, q3⟩ := q32 m9 hr9.1
    refine ⟨fun z => absurd hr9.2.2.2.2 z, fun _ => ?_⟩
    rw [q1, hr9.2.2.1]
    by_cases hj : j = N
    · exact ⟨fun _ => good hok hj m9 q3 q2 hr9.2.1, fun z => absurd (by rw [hj]; exact Int32.le_refl _) z⟩
    · refine ⟨fun z => ?_, fun _ => bad (Or.inr hj) m9 q3 q2⟩
      simp (disch := omega) only [forall_eq, true_and, and_true, false_and, and_false, forall_const, true_implies, implies_true, not_true_eq_false, not_false_eq_true, false_implies, if_true, if_false, ↓reduceIte, Int.toNat_natCast, Int.reduceEq, Int.reduceNe, Int.reduceLT, Int.reduceLE, Int.reduceToNat, Int.reduceAdd, Int.reduceSub, Int.reduceMul, Int.reduceNeg, Nat.reduceAdd, Nat.reduceMul, Nat.reduceSub, iI_lit, jI_lit, iI_add, iI_sub, iI_mul, iI_neg, jI_add, jI_sub, jI_mul, jI_neg, nI_i, lN_j, iI_le, iI_lt, iI_eq, jI_le, jI_lt, jI_eq, iI_in, iI_cl, iI_j, jI_i, cN, inN, wI_eq, wI_ne, wJ_1, wJ_eq, wJ_ne, wI_2, wJ_3, iI_div, iI_rem, jI_div, jI_rem, true_or, or_true, false_or, or_false, eq_self, Nat.add_zero] at z
      omega
  · obtain ⟨q1, q2, q3⟩ := q32 m9 hr9.1
    refine ⟨fun _ => ?_, fun z => ?_⟩
    · rw [hr9.2.1]
      exact bad (Or.inl hok) m9 q3 q2
    · rw [hr9.2.2] at z
      exact absurd z (by decide)
end K12
