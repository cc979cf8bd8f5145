/-! Arrays.fill -/
section FIL
variable {E : sm_E} {L : sm_S → Prop} {d : Nat}
/-- the whole row at a -/
def rowP (a : Nat) : Nat → Nat → Prop := fun b _ => b = a
theorem c_fillI_loop {Q : sm_M → Prop} {vs : List Value} {a n : Nat} {v : Int32} (hT : ∀ S, L S → sm_K S a = 11 ∧ sm_N S a = n) (hn : n ≤ 100000) (hd : 1 ≤ d) (m0 : sm_M) (h : ∀ m', fr (rowP a) m0 m' → (∀ k, k < n → m'.1 a k = v) → Q m') :
    ∀ (j i : Nat) (m : sm_M), i + j = n → fr (rowP a) m0 m → (∀ k, k < i → m.1 a k = v) → gJ7_fill_53178_5 E L d vs a v (iI (i : Nat)) (nI n) m Q := by
  intro j
  induction j with
  | zero =>
    intro i m hij hf hk
    refine vJ7_fill_53178_5 hd hT ⟨fun _ => h m hf (by rw [show n = i by omega]; exact hk), fun hc => ?_⟩
    rw [nI_i, iI_le (by omega) (by omega) (by omega) (by omega)] at hc
    omega
  | succ j ih =>
    intro i m hij hf hk
    have htn : (iI (i : Nat)).toNatClampNeg = i := by rw [iI_cl (by omega) (by omega)]; omega
    refine vJ7_fill_53178_5 hd hT ⟨fun hc => ?_, fun _ => ⟨by rw [iI_in (by omega) (by omega)]; omega, fun m1 e1 x2 e2 => ?_⟩⟩
    · rw [nI_i, iI_le (by omega) (by omega) (by omega) (by omega)] at hc
      omega
    · rw [htn] at e1
      rw [iI_lit, iI_add] at e2
      subst e1
      subst e2
      refine ih (i + 1) _ (by omega) (hf.wI rfl) (fun k hk2 => ?_)
      rw [wI_1]
      by_cases hki : k = i
      · rw [if_pos ⟨rfl, hki⟩]
      · rw [if_neg (fun q => hki q.2)]
        exact hk k (by omega)
theorem c_fillI {Q : sm_M → Prop} {a n : Nat} {v : Int32} {m : sm_M} (hT : ∀ S, L S → sm_K S a = 11 ∧ sm_N S a = n) (hn : n ≤ 100000) (hd : 1 ≤ d) (h : ∀ m', fr (rowP a) m m' → (∀ k, k < n → m'.1 a k = v) → Q m') : sm_callV E L mJ7_fill_53178 d 0 0 [.ref (sm_B E + a), .int v] m Q :=
  vJ7_fill_53178_0 hd hT (fun x3 e3 => by
    subst e3
    exact c_fillI_loop hT hn hd m h n 0 m (by omega) fr.rf (fun k hk => absurd hk (Nat.not_lt_zero _)))
theorem c_fillJ_loop {Q : sm_M → Prop} {vs : List Value} {a n : Nat} {v : Int64} (hT : ∀ S, L S → sm_K S a = 12 ∧ sm_N S a = n) (hn : n ≤ 100000) (hd : 1 ≤ d) (m0 : sm_M) (h : ∀ m', fr (rowP a) m0 m' → (∀ k, k < n → m'.2.1 a k = v) → Q m') :
    ∀ (j i : Nat) (m : sm_M), i + j = n → fr (rowP a) m0 m → (∀ k, k < i → m.2.1 a k = v) → gJ7_fill_d0a16_6 E L d vs a v (iI (i : Nat)) (nI n) m Q := by
  intro j
  induction j with
  | zero =>
    intro i m hij hf hk
    refine vJ7_fill_d0a16_6 hd hT ⟨fun _ => h m hf (by rw [show n = i by omega]; exact hk), fun hc => ?_⟩
    rw [nI_i, iI_le (by omega) (by omega) (by omega) (by omega)] at hc
    omega
  | succ j ih =>
    intro i m hij hf hk
    have htn : (iI (i : Nat)).toNatClampNeg = i := by rw [iI_cl (by omega) (by omega)]; omega
    refine vJ7_fill_d0a16_6 hd hT ⟨fun hc => ?_, fun _ => ⟨by rw [iI_in (by omega) (by omega)]; omega, fun m1 e1 x2 e2 => ?_⟩⟩
    · rw [nI_i, iI_le (by omega) (by omega) (by omega) (by omega)] at hc
      omega
    · rw [htn] at e1
      rw [iI_lit, iI_add] at e2
      subst e1
      subst e2
      refine ih (i + 1) _ (by omega) (hf.wJ rfl) (fun k hk2 => ?_)
      rw [wJ_2]
      by_cases hki : k = i
      · rw [if_pos ⟨rfl, hki⟩]
      · rw [if_neg (fun q => hki q.2)]
        exact hk k (by omega)
theorem c_fillJ {Q : sm_M → Prop} {a n : Nat} {v : Int64} {m : sm_M} (hT : ∀ S, L S → sm_K S a = 12 ∧ sm_N S a = n) (hn : n ≤ 100000) (hd : 1 ≤ d) (h : ∀ m', fr (rowP a) m m' → (∀ k, k < n → m'.2.1 a k = v) → Q m') : sm_callV E L mJ7_fill_d0a16 d 0 0 [.ref (sm_B E + a), .long v] m Q :=
  vJ7_fill_d0a16_0 hd hT (fun x3 e3 => by
    subst e3
    exact c_fillJ_loop hT hn hd m h n 0 m (by omega) fr.rf (fun k hk => absurd hk (Nat.not_lt_zero _)))
end FIL
