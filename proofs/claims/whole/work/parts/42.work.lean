/-! the reference's rows of tokens: what it works on, what it holds -/
/-- the reference's number of a token -/
def tc (z : Int) : Int := if z ≤ 10 then z else z + 9
theorem tc_bd {z : Int} (h1 : -100 ≤ z) (h2 : z ≤ 100) : -100 ≤ tc z ∧ tc z ≤ 109 := by
  unfold tc
  split <;> omega
def wk (m : sm_M) (t : Nat → Int) (n : Nat) : Prop := m.1 109 6 = iI (n : Nat) ∧ ∀ k, k < n → m.1 115 k = iI (tc (t k))
def hl (m : sm_M) (i : Nat) (t : Nat → Int) (n : Nat) : Prop := m.1 112 i = iI (n : Nat) ∧ ∀ k, k < n → m.1 111 (60 * i + k) = iI (tc (t k))
def wkP : Nat → Nat → Prop := fun b k => (b = 109 ∧ k = 6) ∨ b = 115
theorem wk.congr {m : sm_M} {t u : Nat → Int} {n : Nat} (h : wk m t n) (hu : ∀ k, k < n → t k = u k) : wk m u n := ⟨h.1, fun k hk => by rw [← hu k hk]; exact h.2 k hk⟩
theorem hl.fr {P : Nat → Nat → Prop} {m m' : sm_M} {i n : Nat} {t : Nat → Int} (h : hl m i t n) (hf : fr P m m') (h1 : ¬ P 112 i) (h2 : ∀ k, ¬ P 111 k) : hl m' i t n := ⟨(hf.i h1).trans h.1, fun k hk => (hf.i (h2 _)).trans (h.2 k hk)⟩
section WRK
variable {E : sm_E} {L : sm_S → Prop} {d : Nat}
theorem c12_puts {Q : sm_M → Prop} {m : sm_M} {t : Nat → Int} {n : Nat} {z : Int} (hly : ∀ S, L S → ly S) (hw : wk m t n) (hn : n < 200) (hd : 1 ≤ d) (h : ∀ m', fr wkP m m' → wk m' (tup t n z) (n + 1) → Q m') : sm_callV E L mX12_puts d 0 0 [.ref (sm_B E + 109), .int (iI (tc z))] m Q := by
  obtain ⟨w1, w2⟩ := hw
  have htn : (iI (n : Nat)).toNatClampNeg = n := by rw [iI_cl (by omega) (by omega)]; omega
  refine vX12_puts_0 hly hd ⟨by rw [w1, iI_in (by omega) (by omega)]; omega, fun m1 e1 m3 e3 => ?_⟩
  rw [w1, htn] at e1
  subst e1
  have v1 : (sm_wI m 115 n (iI (tc z))).1 109 6 = iI (n : Nat) := by rw [wI_1, if_neg (by omega)]; exact w1
  rw [v1, iI_lit, iI_add] at e3
  subst e3
  refine h _ ((fr.rf.wI (Or.inr rfl)).wI (Or.inl ⟨rfl, rfl⟩)) ⟨?_, fun k hk => ?_⟩
  · rw [wI_1, if_pos ⟨rfl, rfl⟩]
    rfl
  · rw [wI_1, if_neg (by omega), wI_1]
    by_cases hkn : k = n
    · subst hkn
      rw [if_pos ⟨rfl, rfl⟩, tup_at]
    · rw [if_neg (by omega), tup_lt (by omega)]
      exact w2 k (by omega)
theorem c12_putsSlot_loop {Q : sm_M → Prop} {vs : List Value} {i n k : Nat} {t u : Nat → Int} (hly : ∀ S, L S → ly S) (hi : i < 6) (hk : k ≤ 60) (hnk : n + k ≤ 200) (hd : 2 ≤ d) (m0 : sm_M) (h : ∀ m', fr wkP m0 m' → wk m' (tcat t n u) (n + k) → Q m') :
    ∀ (r j : Nat) (m : sm_M), j + r = k → fr wkP m0 m → wk m (tcat t n u) (n + j) → hl m i u k → gX12_putsSlot_2 E L d vs (iI (i : Nat)) (iI (j : Nat)) m Q := by
  have hti : (iI (i : Nat)).toNatClampNeg = i := by rw [iI_cl (by omega) (by omega)]; omega
  have hin : vp_in (iI (i : Nat)) 6 := by rw [iI_in (by omega) (by omega)]; omega
  intro r
  induction r with
  | zero =>
    intro j m hjr hf hw hh
    refine vX12_putsSlot_2 hly hd ⟨hin, fun _ => ?_, fun hc => ?_⟩
    · rw [show j = k by omega] at hw
      exact h m hf hw
    · rw [hti, hh.1, iI_le (by omega) (by omega) (by omega) (by omega)] at hc
      omega
  | succ r ih =>
    intro j m hjr hf hw hh
    have hx : (60 : Int32) * iI (i : Nat) + iI (j : Nat) = iI ((60 * i + j : Nat) : Int) := by
      rw [iI_lit, iI_mul, iI_add]
      congr 1
    have htx : (iI ((60 * i + j : Nat) : Int)).toNatClampNeg = 60 * i + j := by rw [iI_cl (by omega) (by omega)]; omega
    refine vX12_putsSlot_2 hly hd ⟨hin, fun hc => ?_, fun _ => ⟨by rw [hx, iI_in (by omega) (by omega)]; omega, ?_⟩⟩
    · rw [hti, hh.1, iI_le (by omega) (by omega) (by omega) (by omega)] at hc
      omega
    · rw [hx, htx, hh.2 j (by omega)]
      refine c12_puts hly hw (by omega) (by omega) (fun m' f' w' x2 e2 => ?_)
      rw [iI_lit, iI_add] at e2
      subst e2
      refine ih (j + 1) m' (by omega) (hf.tr f') ?_ (hh.fr f' (by unfold wkP; omega) (fun q => by unfold wkP; omega))
      refine wk.congr w' (fun q hq => ?_)
      by_cases hq1 : q = n + j
      · subst hq1
        rw [tup_at, tcat, if_neg (by omega)]
        congr 1
        omega
      · rw [tup_lt (by omega)]
theorem c12_putsSlot {Q : sm_M → Prop} {m : sm_M} {i n k : Nat} {t u : Nat → Int} (hly : ∀ S, L S → ly S) (hi : i < 6) (hk : k ≤ 60) (hnk : n + k ≤ 200) (hd : 2 ≤ d) (hw : wk m t n) (hh : hl m i u k) (h : ∀ m', fr wkP m m' → wk m' (tcat t n u) (n + k) → Q m') : sm_callV E L mX12_putsSlot d 0 0 [.ref (sm_B E + 109), .int (iI (i : Nat))] m Q :=
  vX12_putsSlot_0 hd (c12_putsSlot_loop hly hi hk hnk hd m h k 0 m (by omega) fr.rf (wk.congr hw (fun q hq => by rw [tcat, if_pos (show q < n from hq)])) hh)
end WRK
