/-! moves: the call -/
theorem mvR_le (b : Nat → Int) (n : Nat) (f i : Nat) : (mvR b n f i).2.length ≤ n - i := (mvR_bd b n f i).2.2
/-- where slots and the tape's lengths may be written -/
def slTP (i a k : Nat) : Prop := sltP i a k ∨ (a = 10 ∧ k = 4) ∨ (a = 109 ∧ k = 11) ∨ a = 76 ∨ a = 110
/-- the tape is empty then, and a slot may hold something else -/
theorem Inv.tape {c i n : Nat} {m m' : sm_M} {t : Nat → Int} (h : Inv c m) (hi : i < 6) (hf : frw (slTP i) m m') (h4 : m'.1 10 4 = iI 0) (h11 : m'.1 109 11 = iI 0) (her : ER m') (hv : vT t n) (hg : tgm m' (77 + 4 * i) t n) (hh : hl m' i t n) : Inv c m' := by
  obtain ⟨h0, ⟨a1, a2, a3, a4, a5, a6, a7⟩, h9⟩ := h
  refine ⟨h0, ⟨fun j hj => ?_, fun h0 => ?_, a3.frw hf ?_, ⟨0, fun _ => 0, by omega, h4, h11, fun k hk => absurd hk (Nat.not_lt_zero _)⟩, a5.frw hf ?_, a6.frw hf ?_, a7.frw hf ?_⟩, her⟩
  · by_cases hij : j = i
    · subst hij
      exact ⟨t, n, hv, hg, hh⟩
    · obtain ⟨u, k, g1, g2, g3⟩ := a1 j hj
      have hk6 := g1.2.2.2.2
      refine ⟨u, k, g1, g2.frw hf ?_ ?_, g3.frw hf ?_ ?_⟩
      · intro q; unfold slTP sltP scC scM; omega
      · intro q; unfold slTP sltP scC scM; omega
      · unfold slTP sltP scC scM; omega
      · intro q hq; unfold slTP sltP scC scM; omega
  · rw [hf.i (by unfold slTP sltP scC scM; omega)] at h0
    obtain ⟨q1, q2⟩ := a2 h0
    refine ⟨?_, fun j hj => ?_⟩
    · rw [hf.i (by unfold slTP sltP scC scM; omega), hf.i (by unfold slTP sltP scC scM; omega)]
      exact q1
    · obtain ⟨u, k, g1, g2, g3⟩ := q2 j hj
      refine ⟨u, k, g1, g2.frw hf ?_ ?_, g3.frw hf ?_ ?_⟩
      · intro q; unfold slTP sltP scC scM; omega
      · intro q; unfold slTP sltP scC scM; omega
      · unfold slTP sltP scC scM; omega
      · intro q hq; unfold slTP sltP scC scM; omega
  · unfold slTP sltP scC scM; omega
  · refine ⟨by unfold slTP sltP scC scM; omega, by unfold slTP sltP scC scM; omega, by unfold slTP sltP scC scM; omega, fun k => ?_⟩; unfold slTP sltP scC scM; omega
  · intro s hs; refine ⟨by unfold slTP sltP scC scM; omega, by unfold slTP sltP scC scM; omega, by unfold slTP sltP scC scM; omega, by unfold slTP sltP scC scM; omega, fun k => ?_⟩; unfold slTP sltP scC scM; omega
  · intro a k h1; unfold slTP sltP scC scM; omega
theorem rm_sl {i a k : Nat} (h : rmP a k) : slTP i a k := Or.inl (Or.inl (by unfold rmP at h; unfold scC; omega))
theorem tm3_sl {i a k : Nat} (h : tmP 3 a k) : slTP i a k := Or.inl (Or.inl (Or.inl (by unfold tmP at h; omega)))
theorem tg3_sl {i a k : Nat} (h : tgP 3 a k) : slTP i a k := Or.inl (Or.inl (Or.inl (by unfold tgP at h; omega)))
theorem me3_sl {i a k : Nat} (h : meP 3 a k) : slTP i a k := Or.inl (Or.inl (meP_sc (Or.inl rfl) h))
theorem tmj_sl {i a k : Nat} (h : tmP (77 + 4 * i) a k) : slTP i a k := Or.inl (Or.inr (Or.inr (by unfold tmP at h; omega)))
theorem wk_sl {i a k : Nat} (h : wkP a k) : slTP i a k := Or.inl (Or.inr (Or.inl (wkP_sc h)))
theorem mm_sl {i a k : Nat} (h : mmP a k) : slTP i a k := Or.inl (Or.inr (Or.inl (mmP_sc h)))
theorem ct_sl {i a k : Nat} (h : ctP i a k) : slTP i a k := Or.inl (ctP_slt h)
theorem t32_sl {i a k : Nat} (h : a = 109 ∧ (k = 32 ∨ k = 11)) : slTP i a k := by
  obtain ⟨rfl, h | h⟩ := h
  · subst h
    exact Or.inl (Or.inr (Or.inl (Or.inl ⟨rfl, by decide, by decide, by decide, by decide, by decide⟩)))
  · subst h
    exact Or.inr (Or.inr (Or.inl ⟨rfl, rfl⟩))
/-- where the class alone writes, but for its errors; where the reference alone -/
def clC (a _k : Nat) : Prop := a < 101 ∧ a ≠ 76
def clM (a _k : Nat) : Prop := 109 ≤ a ∧ a ≠ 110 ∧ a ≠ 116
theorem hl_clC {m m' : sm_M} {i n : Nat} {t : Nat → Int} (h : hl m i t n) (hf : fr clC m m') : hl m' i t n := h.fr hf (by unfold clC; omega) (fun k => by unfold clC; omega)
section K9
variable {E : sm_E} {L : sm_S → Prop} {d d1 d2 : Nat} {m : sm_M} {c : Nat}
theorem c11_moves_loop {Q : Int32 → sm_M → Prop} {vs : List Value} {j : Nat} {l : List Int} (hly : ∀ S, L S → ly S) (hd : 9 ≤ d1) (hj : j < 6) (hl : l.length ≤ 100) (hlb : ∀ x, x ∈ l → 0 ≤ x ∧ x ≤ 5) (m0 : sm_M) (hfd : fnd m0 l) : ∀ (r i : Nat) (t : Nat → Int) (n : Nat) (m : sm_M), i + r = l.length → fr (tgP 3) m0 m → vT t n → tg m 3 t n → (∀ t' n', apM (l.drop i) t n = some (t', n') → ∀ m', fr (fun a k => tgP 3 a k ∨ meP 3 a k ∨ tmP (77 + 4 * j) a k) m0 m' → vT t' n' → tgm m' (77 + 4 * j) t' n' → Q (iI (l.length : Nat)) m') → (apM (l.drop i) t n = none → ∀ m', fr (tgP 3) m0 m' → Q (iI (-1000000000 - (4 : Nat))) (sm_wI m' 76 4 (m'.1 76 4 + 1))) → gX11_moves_53 E L d1 vs (iI (j : Nat)) (iI (i : Nat)) m Q := by
  have hT : sm_tan L 3 60 := ly_t hly 3 rfl rfl (j := 25) rfl
  intro r
  induction r with
  | zero =>
    intro i t n m hi hf hv hg hs hn
    have hil : i = l.length := by omega
    have c5 : m.1 10 5 = iI (l.length : Nat) := (hf.i (by unfold tgP; omega)).trans hfd.1
    rw [hil, List.drop_length] at hs
    refine vX11_moves_53 hly hd ?_
    rw [c5, hil]
    simp (disch := omega) only [forall_eq, true_and, and_true, false_and, and_false, forall_const, true_implies, implies_true, not_true_eq_false, not_false_eq_true, false_implies, if_true, if_false, ↓reduceIte, Int.toNat_natCast, Int.reduceEq, Int.reduceNe, Int.reduceLT, Int.reduceLE, Int.reduceToNat, Int.reduceAdd, Int.reduceSub, Int.reduceMul, Int.reduceNeg, Nat.reduceAdd, Nat.reduceMul, Nat.reduceSub, iI_lit, jI_lit, iI_add, iI_sub, iI_mul, iI_neg, jI_add, jI_sub, jI_mul, jI_neg, nI_i, lN_j, iI_le, iI_lt, iI_eq, jI_le, jI_lt, jI_eq, iI_in, iI_cl, iI_j, jI_i, cN, inN, wI_eq, wI_ne, wJ_1, wJ_eq, wJ_ne, wI_2, wJ_3, iI_div, iI_rem, jI_div, jI_rem, true_or, or_true, false_or, or_false, eq_self, Nat.add_zero]
    refine ⟨fun _ => c_settle hly (by omega) hT (Or.inl rfl) hv.2.2.2.2 (by omega) hj hv hg (fun m2 f2 g2 => ?_), fun z => by omega⟩
    have c5' : m2.1 10 5 = iI (l.length : Nat) := (f2.i (by unfold meP gaP tmP; omega)).trans c5
    rw [c5']
    exact hs t n rfl m2 ((hf.mono (fun a k h => Or.inl h)).tr (f2.mono (fun a k h => Or.inr h))) hv g2
  | succ r ih =>
    intro i t n m hi hf hv hg hs hn
    have c5 : m.1 10 5 = iI (l.length : Nat) := (hf.i (by unfold tgP; omega)).trans hfd.1
    have e5 : ((i : Nat) : Int) + 1 = ((i + 1 : Nat) : Int) := by omega
    have hx : l.drop i = l.getD i 0 :: l.drop (i + 1) := by
      rw [List.drop_eq_getElem_cons (show i < l.length by omega)]
      simp [List.getD, show i < l.length by omega]
    have c13 : m.1 13 i = iI (l.getD i 0) := (hf.i (by unfold tgP; omega)).trans (hfd.2 i (by omega))
    have hxb : 0 ≤ l.getD i 0 ∧ l.getD i 0 ≤ 5 := by
      refine hlb _ ?_
      have : l.getD i 0 = l[i]'(by omega) := by simp [List.getD, show i < l.length by omega]
      rw [this]
      exact List.getElem_mem _
    rw [hx, apM] at hs hn
    refine vX11_moves_53 hly hd ?_
    rw [c5]
    simp (disch := omega) only [forall_eq, true_and, and_true, false_and, and_false, forall_const, true_implies, implies_true, not_true_eq_false, not_false_eq_true, false_implies, if_true, if_false, ↓reduceIte, Int.toNat_natCast, Int.reduceEq, Int.reduceNe, Int.reduceLT, Int.reduceLE, Int.reduceToNat, Int.reduceAdd, Int.reduceSub, Int.reduceMul, Int.reduceNeg, Nat.reduceAdd, Nat.reduceMul, Nat.reduceSub, iI_lit, jI_lit, iI_add, iI_sub, iI_mul, iI_neg, jI_add, jI_sub, jI_mul, jI_neg, nI_i, lN_j, iI_le, iI_lt, iI_eq, jI_le, jI_lt, jI_eq, iI_in, iI_cl, iI_j, jI_i, cN, inN, wI_eq, wI_ne, wJ_1, wJ_eq, wJ_ne, wI_2, wJ_3, iI_div, iI_rem, jI_div, jI_rem, true_or, or_true, false_or, or_false, eq_self, Nat.add_zero]
    refine ⟨fun z => by omega, fun _ => vX9_readMove_0 hly (by omega) ?_⟩
    rw [c5]
    simp (disch := omega) only [forall_eq, true_and, and_true, false_and, and_false, forall_const, true_implies, implies_true, not_true_eq_false, not_false_eq_true, false_implies, if_true, if_false, ↓reduceIte, Int.toNat_natCast, Int.reduceEq, Int.reduceNe, Int.reduceLT, Int.reduceLE, Int.reduceToNat, Int.reduceAdd, Int.reduceSub, Int.reduceMul, Int.reduceNeg, Nat.reduceAdd, Nat.reduceMul, Nat.reduceSub, iI_lit, jI_lit, iI_add, iI_sub, iI_mul, iI_neg, jI_add, jI_sub, jI_mul, jI_neg, nI_i, lN_j, iI_le, iI_lt, iI_eq, jI_le, jI_lt, jI_eq, iI_in, iI_cl, iI_j, jI_i, cN, inN, wI_eq, wI_ne, wJ_1, wJ_eq, wJ_ne, wI_2, wJ_3, iI_div, iI_rem, jI_div, jI_rem, true_or, or_true, false_or, or_false, eq_self, Nat.add_zero, c13]
    refine ⟨fun z => by omega, fun _ => ⟨fun z => by omega, fun _ => ⟨by omega, ?_⟩⟩⟩
    refine c_advance hT (by omega) hg hv.2.2 hxb.1 hxb.2 (fun hft m2 f2 g2 => ?_) (fun hft => ?_)
    · rw [if_pos (show lvs _ _ ≤ 24 ∧ crs _ _ ≤ 24 ∧ _ ≤ 60 from hft)] at hs hn
      simp (disch := omega) only [forall_eq, true_and, and_true, false_and, and_false, forall_const, true_implies, implies_true, not_true_eq_false, not_false_eq_true, false_implies, if_true, if_false, ↓reduceIte, Int.toNat_natCast, Int.reduceEq, Int.reduceNe, Int.reduceLT, Int.reduceLE, Int.reduceToNat, Int.reduceAdd, Int.reduceSub, Int.reduceMul, Int.reduceNeg, Nat.reduceAdd, Nat.reduceMul, Nat.reduceSub, iI_lit, jI_lit, iI_add, iI_sub, iI_mul, iI_neg, jI_add, jI_sub, jI_mul, jI_neg, nI_i, lN_j, iI_le, iI_lt, iI_eq, jI_le, jI_lt, jI_eq, iI_in, iI_cl, iI_j, jI_i, cN, inN, wI_eq, wI_ne, wJ_1, wJ_eq, wJ_ne, wI_2, wJ_3, iI_div, iI_rem, jI_div, jI_rem, true_or, or_true, false_or, or_false, eq_self, Nat.add_zero, e5]
      exact ih (i + 1) _ _ m2 (by omega) (hf.tr f2) (mv_v hv hft) g2 hs hn
    · rw [if_neg (show ¬ (lvs _ _ ≤ 24 ∧ crs _ _ ≤ 24 ∧ _ ≤ 60) from hft)] at hn
      simp (disch := omega) only [forall_eq, true_and, and_true, false_and, and_false, forall_const, true_implies, implies_true, not_true_eq_false, not_false_eq_true, false_implies, if_true, if_false, ↓reduceIte, Int.toNat_natCast, Int.reduceEq, Int.reduceNe, Int.reduceLT, Int.reduceLE, Int.reduceToNat, Int.reduceAdd, Int.reduceSub, Int.reduceMul, Int.reduceNeg, Nat.reduceAdd, Nat.reduceMul, Nat.reduceSub, iI_lit, jI_lit, iI_add, iI_sub, iI_mul, iI_neg, jI_add, jI_sub, jI_mul, jI_neg, nI_i, lN_j, iI_le, iI_lt, iI_eq, jI_le, jI_lt, jI_eq, iI_in, iI_cl, iI_j, jI_i, cN, inN, wI_eq, wI_ne, wJ_1, wJ_eq, wJ_ne, wI_2, wJ_3, iI_div, iI_rem, jI_div, jI_rem, true_or, or_true, false_or, or_false, eq_self, Nat.add_zero]
      exact c_error (e := 4) hly (by decide) (by omega) (hn rfl m hf)
/-- the reference comes to the end of a word -/
theorem c12_moves_scan {Q : Int32 → sm_M → Prop} {vs : List Value} {b : Nat → Int} {n f J : Nat} {j rd ct : Int} (hly : ∀ S, L S → ly S) (hd : 5 ≤ d2) (hn : n ≤ 100) (h32 : m.1 109 32 = iI (n : Nat)) (hbb : ∀ k, k < n → 0 ≤ b k ∧ b k ≤ 255) (hb : ∀ k, k < n → m.1 116 k = iI (b k)) (hfn : f < n) (hJ : J = nxw b n (n - f) f) (h : gX12_moves_106 E L d2 vs (iI j) (iI rd) (iI ct) (iI (f : Nat)) (iI (J : Nat)) (iI (if J = f then -1 else wat b f J)) m Q) : gX12_moves_61 E L d2 vs (iI j) (iI rd) (iI ct) (iI (f : Nat)) (iI (f : Nat)) m Q := by
  have J1 := nxw_ge b n (n - f) f
  have J2 := nxw_le b n (n - f) f (by omega) (by omega)
  rw [← hJ] at J1 J2
  have scan : ∀ (r i : Nat), i + r = J → f ≤ i → nxw b n (n - i) i = J → gX12_moves_61 E L d2 vs (iI j) (iI rd) (iI ct) (iI (f : Nat)) (iI (i : Nat)) m Q := by
    intro r
    induction r with
    | zero =>
      intro i hi hfi hx
      have : i = J := by omega
      subst this
      have end' : (¬ iI (i : Nat) = iI (f : Nat) → sm_callI E L mX12_moveAt 2 0 0 [.ref (sm_B E + 109), .int (iI (f : Nat)), .int (iI (i : Nat))] m (fun r_2 m_1 => gX12_moves_106 E L d2 vs (iI j) (iI rd) (iI ct) (iI (f : Nat)) (iI (i : Nat)) r_2 m_1 Q)) ∧ (iI (i : Nat) = iI (f : Nat) → gX12_moves_106 E L d2 vs (iI j) (iI rd) (iI ct) (iI (f : Nat)) (iI (i : Nat)) (-1) m Q) := by
        refine ⟨fun z => c12_moveAt hly (by omega) (by have : i ≠ f := (fun e => z (by rw [e])); omega) J2 hn h32 hbb hb ?_, fun z => ?_⟩
        · rw [if_neg (fun e => z (by rw [e]))] at h
          exact h
        · rw [iI_eq (by omega) (by omega) (by omega) (by omega)] at z
          rw [if_pos (by omega)] at h
          exact h
      refine vX12_moves_61 hly hd ?_
      rw [h32]
      refine ⟨fun _ => end', fun z => ?_⟩
      simp (disch := omega) only [forall_eq, true_and, and_true, false_and, and_false, forall_const, true_implies, implies_true, not_true_eq_false, not_false_eq_true, false_implies, if_true, if_false, ↓reduceIte, Int.toNat_natCast, Int.reduceEq, Int.reduceNe, Int.reduceLT, Int.reduceLE, Int.reduceToNat, Int.reduceAdd, Int.reduceSub, Int.reduceMul, Int.reduceNeg, Nat.reduceAdd, Nat.reduceMul, Nat.reduceSub, iI_lit, jI_lit, iI_add, iI_sub, iI_mul, iI_neg, jI_add, jI_sub, jI_mul, jI_neg, nI_i, lN_j, iI_le, iI_lt, iI_eq, jI_le, jI_lt, jI_eq, iI_in, iI_cl, iI_j, jI_i, cN, inN, wI_eq, wI_ne, wJ_1, wJ_eq, wJ_ne, wI_2, wJ_3, iI_div, iI_rem, jI_div, jI_rem, true_or, or_true, false_or, or_false, eq_self, Nat.add_zero] at z
      refine c12_byteAt hly (by omega) hn (by omega) h32 hb ?_
      rw [if_pos (by omega), nxw_stop hx (by omega)]
      exact ⟨fun _ => end', fun z => absurd (by decide) z⟩
    | succ r ihr =>
      intro i hi hfi hx
      have hin : i < n := by omega
      have hb32 : b i ≠ 32 := fun e => by
        rw [nxw_at (Or.inr e)] at hx
        omega
      have hbi := hbb i hin
      have e8 : ((i : Nat) : Int) + 1 = ((i + 1 : Nat) : Int) := by omega
      have h9 := ihr (i + 1) (by omega) (by omega) (by rw [← nxw_step hin hb32]; exact hx)
      refine vX12_moves_61 hly hd ?_
      rw [h32]
      refine ⟨fun z => ?_, fun _ => c12_byteAt hly (by omega) hn (by omega) h32 hb ?_⟩
      · simp (disch := omega) only [forall_eq, true_and, and_true, false_and, and_false, forall_const, true_implies, implies_true, not_true_eq_false, not_false_eq_true, false_implies, if_true, if_false, ↓reduceIte, Int.toNat_natCast, Int.reduceEq, Int.reduceNe, Int.reduceLT, Int.reduceLE, Int.reduceToNat, Int.reduceAdd, Int.reduceSub, Int.reduceMul, Int.reduceNeg, Nat.reduceAdd, Nat.reduceMul, Nat.reduceSub, iI_lit, jI_lit, iI_add, iI_sub, iI_mul, iI_neg, jI_add, jI_sub, jI_mul, jI_neg, nI_i, lN_j, iI_le, iI_lt, iI_eq, jI_le, jI_lt, jI_eq, iI_in, iI_cl, iI_j, jI_i, cN, inN, wI_eq, wI_ne, wJ_1, wJ_eq, wJ_ne, wI_2, wJ_3, iI_div, iI_rem, jI_div, jI_rem, true_or, or_true, false_or, or_false, eq_self, Nat.add_zero] at z
        omega
      · rw [if_pos hin]
        simp (disch := omega) only [forall_eq, true_and, and_true, false_and, and_false, forall_const, true_implies, implies_true, not_true_eq_false, not_false_eq_true, false_implies, if_true, if_false, ↓reduceIte, Int.toNat_natCast, Int.reduceEq, Int.reduceNe, Int.reduceLT, Int.reduceLE, Int.reduceToNat, Int.reduceAdd, Int.reduceSub, Int.reduceMul, Int.reduceNeg, Nat.reduceAdd, Nat.reduceMul, Nat.reduceSub, iI_lit, jI_lit, iI_add, iI_sub, iI_mul, iI_neg, jI_add, jI_sub, jI_mul, jI_neg, nI_i, lN_j, iI_le, iI_lt, iI_eq, jI_le, jI_lt, jI_eq, iI_in, iI_cl, iI_j, jI_i, cN, inN, wI_eq, wI_ne, wJ_1, wJ_eq, wJ_ne, wI_2, wJ_3, iI_div, iI_rem, jI_div, jI_rem, true_or, or_true, false_or, or_false, eq_self, Nat.add_zero, e8]
        exact ⟨fun z => absurd z hb32, fun _ => h9⟩
  exact scan (J - f) f (by omega) (by omega) hJ.symm
theorem c12_moves_r0 {Q : Int32 → sm_M → Prop} {vs : List Value} {b : Nat → Int} {n : Nat} {j : Int} (hly : ∀ S, L S → ly S) (hd : 5 ≤ d2) (hn : n ≤ 100) (h32 : m.1 109 32 = iI (n : Nat)) (hbb : ∀ k, k < n → 0 ≤ b k ∧ b k ≤ 255) (hb : ∀ k, k < n → m.1 116 k = iI (b k)) : ∀ (fuel f ct : Nat), n + 1 ≤ f + fuel → f ≤ n + 1 → ct ≤ f → (0 ≤ (mvR b n fuel f).1 → Q (iI (-10 - (mvR b n fuel f).1)) m) → ((mvR b n fuel f).1 = -1 → gX12_moves_28 E L d2 vs (iI j) (iI 1) m Q) → gX12_moves_48 E L d2 vs (iI j) (iI 0) (iI (ct : Nat)) (iI (f : Nat)) m Q := by
  intro fuel
  induction fuel with
  | zero =>
    intro f ct h1 h2 h3 hq1 hq0
    refine vX12_moves_48 hly hd ?_
    rw [h32]
    simp (disch := omega) only [forall_eq, true_and, and_true, false_and, and_false, forall_const, true_implies, implies_true, not_true_eq_false, not_false_eq_true, false_implies, if_true, if_false, ↓reduceIte, Int.toNat_natCast, Int.reduceEq, Int.reduceNe, Int.reduceLT, Int.reduceLE, Int.reduceToNat, Int.reduceAdd, Int.reduceSub, Int.reduceMul, Int.reduceNeg, Nat.reduceAdd, Nat.reduceMul, Nat.reduceSub, iI_lit, jI_lit, iI_add, iI_sub, iI_mul, iI_neg, jI_add, jI_sub, jI_mul, jI_neg, nI_i, lN_j, iI_le, iI_lt, iI_eq, jI_le, jI_lt, jI_eq, iI_in, iI_cl, iI_j, jI_i, cN, inN, wI_eq, wI_ne, wJ_1, wJ_eq, wJ_ne, wI_2, wJ_3, iI_div, iI_rem, jI_div, jI_rem, true_or, or_true, false_or, or_false, eq_self, Nat.add_zero]
    exact ⟨fun _ => hq0 rfl, fun z => by omega⟩
  | succ fuel ih =>
    intro f ct h1 h2 h3 hq1 hq0
    refine vX12_moves_48 hly hd ?_
    rw [h32]
    simp (disch := omega) only [forall_eq, true_and, and_true, false_and, and_false, forall_const, true_implies, implies_true, not_true_eq_false, not_false_eq_true, false_implies, if_true, if_false, ↓reduceIte, Int.toNat_natCast, Int.reduceEq, Int.reduceNe, Int.reduceLT, Int.reduceLE, Int.reduceToNat, Int.reduceAdd, Int.reduceSub, Int.reduceMul, Int.reduceNeg, Nat.reduceAdd, Nat.reduceMul, Nat.reduceSub, iI_lit, jI_lit, iI_add, iI_sub, iI_mul, iI_neg, jI_add, jI_sub, jI_mul, jI_neg, nI_i, lN_j, iI_le, iI_lt, iI_eq, jI_le, jI_lt, jI_eq, iI_in, iI_cl, iI_j, jI_i, cN, inN, wI_eq, wI_ne, wJ_1, wJ_eq, wJ_ne, wI_2, wJ_3, iI_div, iI_rem, jI_div, jI_rem, true_or, or_true, false_or, or_false, eq_self, Nat.add_zero]
    refine ⟨fun z => hq0 (by rw [mvR, if_pos (by omega)]), fun z => ?_⟩
    obtain ⟨J, hJ⟩ : ∃ J, J = nxw b n (n - f) f := ⟨_, rfl⟩
    have J1 := nxw_ge b n (n - f) f
    have J2 := nxw_le b n (n - f) f (by omega) (by omega)
    have wb := wat_bd b f J
    rw [mvR, if_neg (by omega), ← hJ] at hq1 hq0
    rw [← hJ] at J1 J2
    have e6 : ((J : Nat) : Int) + 1 = ((J + 1 : Nat) : Int) := by omega
    have e7 : ((ct : Nat) : Int) + 1 = ((ct + 1 : Nat) : Int) := by omega
    refine c12_moves_scan hly hd hn h32 hbb hb (by omega) hJ (vX12_moves_106 hd ?_)
    by_cases hJf : J = f
    · rw [if_pos hJf] at hq1 hq0 ⊢
      subst hJf
      have h9 := ih (J + 1) ct (by omega) (by omega) (by omega) hq1 hq0
      simp (disch := omega) only [forall_eq, true_and, and_true, false_and, and_false, forall_const, true_implies, implies_true, not_true_eq_false, not_false_eq_true, false_implies, if_true, if_false, ↓reduceIte, Int.toNat_natCast, Int.reduceEq, Int.reduceNe, Int.reduceLT, Int.reduceLE, Int.reduceToNat, Int.reduceAdd, Int.reduceSub, Int.reduceMul, Int.reduceNeg, Nat.reduceAdd, Nat.reduceMul, Nat.reduceSub, iI_lit, jI_lit, iI_add, iI_sub, iI_mul, iI_neg, jI_add, jI_sub, jI_mul, jI_neg, nI_i, lN_j, iI_le, iI_lt, iI_eq, jI_le, jI_lt, jI_eq, iI_in, iI_cl, iI_j, jI_i, cN, inN, wI_eq, wI_ne, wJ_1, wJ_eq, wJ_ne, wI_2, wJ_3, iI_div, iI_rem, jI_div, jI_rem, true_or, or_true, false_or, or_false, eq_self, Nat.add_zero]
      refine ⟨fun _ => vX12_moves_134 hly hd ?_, fun z => by omega⟩
      simp (disch := omega) only [forall_eq, true_and, and_true, false_and, and_false, forall_const, true_implies, implies_true, not_true_eq_false, not_false_eq_true, false_implies, if_true, if_false, ↓reduceIte, Int.toNat_natCast, Int.reduceEq, Int.reduceNe, Int.reduceLT, Int.reduceLE, Int.reduceToNat, Int.reduceAdd, Int.reduceSub, Int.reduceMul, Int.reduceNeg, Nat.reduceAdd, Nat.reduceMul, Nat.reduceSub, iI_lit, jI_lit, iI_add, iI_sub, iI_mul, iI_neg, jI_add, jI_sub, jI_mul, jI_neg, nI_i, lN_j, iI_le, iI_lt, iI_eq, jI_le, jI_lt, jI_eq, iI_in, iI_cl, iI_j, jI_i, cN, inN, wI_eq, wI_ne, wJ_1, wJ_eq, wJ_ne, wI_2, wJ_3, iI_div, iI_rem, jI_div, jI_rem, true_or, or_true, false_or, or_false, eq_self, Nat.add_zero, e6]
      exact h9
    · rw [if_neg hJf] at hq1 hq0 ⊢
      by_cases hw : wat b f J < 0
      · rw [if_pos hw] at hq1
        simp (disch := omega) only [forall_eq, true_and, and_true, false_and, and_false, forall_const, true_implies, implies_true, not_true_eq_false, not_false_eq_true, false_implies, if_true, if_false, ↓reduceIte, Int.toNat_natCast, Int.reduceEq, Int.reduceNe, Int.reduceLT, Int.reduceLE, Int.reduceToNat, Int.reduceAdd, Int.reduceSub, Int.reduceMul, Int.reduceNeg, Nat.reduceAdd, Nat.reduceMul, Nat.reduceSub, iI_lit, jI_lit, iI_add, iI_sub, iI_mul, iI_neg, jI_add, jI_sub, jI_mul, jI_neg, nI_i, lN_j, iI_le, iI_lt, iI_eq, jI_le, jI_lt, jI_eq, iI_in, iI_cl, iI_j, jI_i, cN, inN, wI_eq, wI_ne, wJ_1, wJ_eq, wJ_ne, wI_2, wJ_3, iI_div, iI_rem, jI_div, jI_rem, true_or, or_true, false_or, or_false, eq_self, Nat.add_zero]
        exact ⟨fun z => by omega, fun _ => ⟨fun z => by omega, fun _ => hq1 (by simp)⟩⟩
      · rw [if_neg hw] at hq1 hq0
        have h9 := ih (J + 1) (ct + 1) (by omega) (by omega) (by omega) hq1 hq0
        simp (disch := omega) only [forall_eq, true_and, and_true, false_and, and_false, forall_const, true_implies, implies_true, not_true_eq_false, not_false_eq_true, false_implies, if_true, if_false, ↓reduceIte, Int.toNat_natCast, Int.reduceEq, Int.reduceNe, Int.reduceLT, Int.reduceLE, Int.reduceToNat, Int.reduceAdd, Int.reduceSub, Int.reduceMul, Int.reduceNeg, Nat.reduceAdd, Nat.reduceMul, Nat.reduceSub, iI_lit, jI_lit, iI_add, iI_sub, iI_mul, iI_neg, jI_add, jI_sub, jI_mul, jI_neg, nI_i, lN_j, iI_le, iI_lt, iI_eq, jI_le, jI_lt, jI_eq, iI_in, iI_cl, iI_j, jI_i, cN, inN, wI_eq, wI_ne, wJ_1, wJ_eq, wJ_ne, wI_2, wJ_3, iI_div, iI_rem, jI_div, jI_rem, true_or, or_true, false_or, or_false, eq_self, Nat.add_zero, e7]
        refine ⟨fun z => by omega, fun _ => ⟨fun _ => ⟨fun z => absurd z hw, fun _ => vX12_moves_134 hly hd ?_⟩, fun z => by omega⟩⟩
        simp (disch := omega) only [forall_eq, true_and, and_true, false_and, and_false, forall_const, true_implies, implies_true, not_true_eq_false, not_false_eq_true, false_implies, if_true, if_false, ↓reduceIte, Int.toNat_natCast, Int.reduceEq, Int.reduceNe, Int.reduceLT, Int.reduceLE, Int.reduceToNat, Int.reduceAdd, Int.reduceSub, Int.reduceMul, Int.reduceNeg, Nat.reduceAdd, Nat.reduceMul, Nat.reduceSub, iI_lit, jI_lit, iI_add, iI_sub, iI_mul, iI_neg, jI_add, jI_sub, jI_mul, jI_neg, nI_i, lN_j, iI_le, iI_lt, iI_eq, jI_le, jI_lt, jI_eq, iI_in, iI_cl, iI_j, jI_i, cN, inN, wI_eq, wI_ne, wJ_1, wJ_eq, wJ_ne, wI_2, wJ_3, iI_div, iI_rem, jI_div, jI_rem, true_or, or_true, false_or, or_false, eq_self, Nat.add_zero, e6]
        exact ⟨fun z => absurd z hw, fun _ => h9⟩
theorem c12_moves_r1 {Q : Int32 → sm_M → Prop} {vs : List Value} {b : Nat → Int} {n j : Nat} (hly : ∀ S, L S → ly S) (hd : 5 ≤ d2) (hj : j < 6) (hn : n ≤ 100) (hbb : ∀ k, k < n → 0 ≤ b k ∧ b k ≤ 255) (m0 : sm_M) (h32 : m0.1 109 32 = iI (n : Nat)) (hb : ∀ k, k < n → m0.1 116 k = iI (b k)) : ∀ (fuel f ct : Nat) (t : Nat → Int) (l : Nat) (m : sm_M), n + 1 ≤ f + fuel → f ≤ n + 1 → ct ≤ f → fr (fun a k => wkP a k ∨ mmP a k) m0 m → wk m t l → vT t l → (mvR b n fuel f).1 = -1 → (∀ t' l', apM (mvR b n fuel f).2 t l = some (t', l') → ∀ m', fr (fun a k => wkP a k ∨ ctP j a k) m0 m' → vT t' l' → hl m' j t' l' → Q (iI ((ct + (mvR b n fuel f).2.length : Nat) : Int)) m') → (apM (mvR b n fuel f).2 t l = none → ∀ m', fr (fun a k => wkP a k ∨ mmP a k) m0 m' → Q (iI (-1000000000 - (4 : Nat))) (sm_wI m' 110 4 (m'.1 110 4 + 1))) → gX12_moves_48 E L d2 vs (iI (j : Nat)) (iI 1) (iI (ct : Nat)) (iI (f : Nat)) m Q := by
  have up : ∀ {x y : sm_M}, fr (fun a k => wkP a k ∨ mmP a k) x y → fr (fun a k => wkP a k ∨ ctP j a k) x y := fun f => f.mono (fun a k h => h.elim Or.inl (fun h => Or.inr (Or.inl h)))
  intro fuel
  induction fuel with
  | zero =>
    intro f ct t l m h1 h2 h3 hf hw hv hR hs hno
    have m32 : m.1 109 32 = iI (n : Nat) := (hf.i (by unfold wkP mmP; omega)).trans h32
    refine vX12_moves_48 hly hd ?_
    rw [m32]
    simp (disch := omega) only [forall_eq, true_and, and_true, false_and, and_false, forall_const, true_implies, implies_true, not_true_eq_false, not_false_eq_true, false_implies, if_true, if_false, ↓reduceIte, Int.toNat_natCast, Int.reduceEq, Int.reduceNe, Int.reduceLT, Int.reduceLE, Int.reduceToNat, Int.reduceAdd, Int.reduceSub, Int.reduceMul, Int.reduceNeg, Nat.reduceAdd, Nat.reduceMul, Nat.reduceSub, iI_lit, jI_lit, iI_add, iI_sub, iI_mul, iI_neg, jI_add, jI_sub, jI_mul, jI_neg, nI_i, lN_j, iI_le, iI_lt, iI_eq, jI_le, jI_lt, jI_eq, iI_in, iI_cl, iI_j, jI_i, cN, inN, wI_eq, wI_ne, wJ_1, wJ_eq, wJ_ne, wI_2, wJ_3, iI_div, iI_rem, jI_div, jI_rem, true_or, or_true, false_or, or_false, eq_self, Nat.add_zero]
    refine ⟨fun _ => c12_comesTo hly (by omega) hw hj hv (fun m2 f2 g2 _ => ?_), fun z => by omega⟩
    exact hs t l rfl m2 ((up hf).tr (f2.mono (fun a k h => Or.inr h))) hv g2
  | succ fuel ih =>
    intro f ct t l m h1 h2 h3 hf hw hv hR hs hno
    have m32 : m.1 109 32 = iI (n : Nat) := (hf.i (by unfold wkP mmP; omega)).trans h32
    have mb : ∀ k, k < n → m.1 116 k = iI (b k) := fun k hk => (hf.i (by unfold wkP mmP; omega)).trans (hb k hk)
    refine vX12_moves_48 hly hd ?_
    rw [m32]
    simp (disch := omega) only [forall_eq, true_and, and_true, false_and, and_false, forall_const, true_implies, implies_true, not_true_eq_false, not_false_eq_true, false_implies, if_true, if_false, ↓reduceIte, Int.toNat_natCast, Int.reduceEq, Int.reduceNe, Int.reduceLT, Int.reduceLE, Int.reduceToNat, Int.reduceAdd, Int.reduceSub, Int.reduceMul, Int.reduceNeg, Nat.reduceAdd, Nat.reduceMul, Nat.reduceSub, iI_lit, jI_lit, iI_add, iI_sub, iI_mul, iI_neg, jI_add, jI_sub, jI_mul, jI_neg, nI_i, lN_j, iI_le, iI_lt, iI_eq, jI_le, jI_lt, jI_eq, iI_in, iI_cl, iI_j, jI_i, cN, inN, wI_eq, wI_ne, wJ_1, wJ_eq, wJ_ne, wI_2, wJ_3, iI_div, iI_rem, jI_div, jI_rem, true_or, or_true, false_or, or_false, eq_self, Nat.add_zero]
    refine ⟨fun z => ?_, fun z => ?_⟩
    · have e0 : mvR b n (fuel + 1) f = (-1, []) := by rw [mvR, if_pos (by omega)]
      rw [e0] at hs
      exact c12_comesTo hly (by omega) hw hj hv (fun m2 f2 g2 _ => hs t l rfl m2 ((up hf).tr (f2.mono (fun a k h => Or.inr h))) hv g2)
    · obtain ⟨J, hJ⟩ : ∃ J, J = nxw b n (n - f) f := ⟨_, rfl⟩
      have J1 := nxw_ge b n (n - f) f
      have J2 := nxw_le b n (n - f) f (by omega) (by omega)
      have wb := wat_bd b f J
      rw [mvR, if_neg (by omega), ← hJ] at hR hs hno
      rw [← hJ] at J1 J2
      have e6 : ((J : Nat) : Int) + 1 = ((J + 1 : Nat) : Int) := by omega
      have e7 : ((ct : Nat) : Int) + 1 = ((ct + 1 : Nat) : Int) := by omega
      refine c12_moves_scan hly hd hn m32 hbb mb (by omega) hJ (vX12_moves_106 hd ?_)
      by_cases hJf : J = f
      · rw [if_pos hJf] at hR hs hno ⊢
        subst hJf
        have h9 := ih (J + 1) ct t l m (by omega) (by omega) (by omega) hf hw hv hR hs hno
        simp (disch := omega) only [forall_eq, true_and, and_true, false_and, and_false, forall_const, true_implies, implies_true, not_true_eq_false, not_false_eq_true, false_implies, if_true, if_false, ↓reduceIte, Int.toNat_natCast, Int.reduceEq, Int.reduceNe, Int.reduceLT, Int.reduceLE, Int.reduceToNat, Int.reduceAdd, Int.reduceSub, Int.reduceMul, Int.reduceNeg, Nat.reduceAdd, Nat.reduceMul, Nat.reduceSub, iI_lit, jI_lit, iI_add, iI_sub, iI_mul, iI_neg, jI_add, jI_sub, jI_mul, jI_neg, nI_i, lN_j, iI_le, iI_lt, iI_eq, jI_le, jI_lt, jI_eq, iI_in, iI_cl, iI_j, jI_i, cN, inN, wI_eq, wI_ne, wJ_1, wJ_eq, wJ_ne, wI_2, wJ_3, iI_div, iI_rem, jI_div, jI_rem, true_or, or_true, false_or, or_false, eq_self, Nat.add_zero]
        refine ⟨fun _ => vX12_moves_134 hly hd ?_, fun z => by omega⟩
        simp (disch := omega) only [forall_eq, true_and, and_true, false_and, and_false, forall_const, true_implies, implies_true, not_true_eq_false, not_false_eq_true, false_implies, if_true, if_false, ↓reduceIte, Int.toNat_natCast, Int.reduceEq, Int.reduceNe, Int.reduceLT, Int.reduceLE, Int.reduceToNat, Int.reduceAdd, Int.reduceSub, Int.reduceMul, Int.reduceNeg, Nat.reduceAdd, Nat.reduceMul, Nat.reduceSub, iI_lit, jI_lit, iI_add, iI_sub, iI_mul, iI_neg, jI_add, jI_sub, jI_mul, jI_neg, nI_i, lN_j, iI_le, iI_lt, iI_eq, jI_le, jI_lt, jI_eq, iI_in, iI_cl, iI_j, jI_i, cN, inN, wI_eq, wI_ne, wJ_1, wJ_eq, wJ_ne, wI_2, wJ_3, iI_div, iI_rem, jI_div, jI_rem, true_or, or_true, false_or, or_false, eq_self, Nat.add_zero, e6]
        exact h9
      · rw [if_neg hJf] at hR hs hno ⊢
        by_cases hwn : wat b f J < 0
        · rw [if_pos hwn] at hR
          have : (f : Int) = -1 := hR
          omega
        · rw [if_neg hwn] at hR hs hno
          have l6 := hv.2.2.2.2
          have hmn : mvn l (wat b f J) ≤ l + 2 := by unfold mvn; split <;> omega
          have g134 : gX12_moves_134 E L d2 vs (iI (j : Nat)) (iI 1) (iI ((ct + 1 : Nat) : Int)) (iI (J : Nat)) (iI (wat b f J)) m Q := by
            refine vX12_moves_134 hly hd ?_
            simp (disch := omega) only [forall_eq, true_and, and_true, false_and, and_false, forall_const, true_implies, implies_true, not_true_eq_false, not_false_eq_true, false_implies, if_true, if_false, ↓reduceIte, Int.toNat_natCast, Int.reduceEq, Int.reduceNe, Int.reduceLT, Int.reduceLE, Int.reduceToNat, Int.reduceAdd, Int.reduceSub, Int.reduceMul, Int.reduceNeg, Nat.reduceAdd, Nat.reduceMul, Nat.reduceSub, iI_lit, jI_lit, iI_add, iI_sub, iI_mul, iI_neg, jI_add, jI_sub, jI_mul, jI_neg, nI_i, lN_j, iI_le, iI_lt, iI_eq, jI_le, jI_lt, jI_eq, iI_in, iI_cl, iI_j, jI_i, cN, inN, wI_eq, wI_ne, wJ_1, wJ_eq, wJ_ne, wI_2, wJ_3, iI_div, iI_rem, jI_div, jI_rem, true_or, or_true, false_or, or_false, eq_self, Nat.add_zero]
            refine ⟨fun z => absurd z hwn, fun _ => c12_putsMove hly (by omega) hw (by omega) (by omega) (by omega) (fun m3 f3 w3 => ?_)⟩
            have f03 : fr (fun a k => wkP a k ∨ mmP a k) m0 m3 := hf.tr (f3.mono (fun a k h => Or.inl h))
            refine c12_isTooMuch hly (by omega) w3 (by omega) (mv_ok hv.1 hv.2.1).1 (by rw [(mv_ok hv.1 hv.2.1).2]; decide) (fun hft m4 f4 => ?_) (fun hft m4 f4 => ?_)
            · simp (disch := omega) only [forall_eq, true_and, and_true, false_and, and_false, forall_const, true_implies, implies_true, not_true_eq_false, not_false_eq_true, false_implies, if_true, if_false, ↓reduceIte, Int.toNat_natCast, Int.reduceEq, Int.reduceNe, Int.reduceLT, Int.reduceLE, Int.reduceToNat, Int.reduceAdd, Int.reduceSub, Int.reduceMul, Int.reduceNeg, Nat.reduceAdd, Nat.reduceMul, Nat.reduceSub, iI_lit, jI_lit, iI_add, iI_sub, iI_mul, iI_neg, jI_add, jI_sub, jI_mul, jI_neg, nI_i, lN_j, iI_le, iI_lt, iI_eq, jI_le, jI_lt, jI_eq, iI_in, iI_cl, iI_j, jI_i, cN, inN, wI_eq, wI_ne, wJ_1, wJ_eq, wJ_ne, wI_2, wJ_3, iI_div, iI_rem, jI_div, jI_rem, true_or, or_true, false_or, or_false, eq_self, Nat.add_zero, e6]
              refine ih (J + 1) (ct + 1) _ _ m4 (by omega) (by omega) (by omega) (f03.tr (f4.mono (fun a k h => Or.inr h))) (w3.fr f4 (by unfold mmP; omega) (fun k => by unfold mmP; omega)) (mv_v hv hft) hR (fun t' l' e m' f' v' g' => ?_) (fun e m' f' => hno ?_ m' f')
              · have h9 := hs t' l' (by rw [apM, if_pos (show lvs _ _ ≤ 24 ∧ crs _ _ ≤ 24 ∧ _ ≤ 60 from hft)]; exact e) m' f' v' g'
                rw [List.length_cons] at h9
                rw [show ct + 1 + (mvR b n fuel (J + 1)).2.length = ct + ((mvR b n fuel (J + 1)).2.length + 1) by omega]
                exact h9
              · rw [apM, if_pos (show lvs _ _ ≤ 24 ∧ crs _ _ ≤ 24 ∧ _ ≤ 60 from hft)]
                exact e
            · simp (disch := omega) only [forall_eq, true_and, and_true, false_and, and_false, forall_const, true_implies, implies_true, not_true_eq_false, not_false_eq_true, false_implies, if_true, if_false, ↓reduceIte, Int.toNat_natCast, Int.reduceEq, Int.reduceNe, Int.reduceLT, Int.reduceLE, Int.reduceToNat, Int.reduceAdd, Int.reduceSub, Int.reduceMul, Int.reduceNeg, Nat.reduceAdd, Nat.reduceMul, Nat.reduceSub, iI_lit, jI_lit, iI_add, iI_sub, iI_mul, iI_neg, jI_add, jI_sub, jI_mul, jI_neg, nI_i, lN_j, iI_le, iI_lt, iI_eq, jI_le, jI_lt, jI_eq, iI_in, iI_cl, iI_j, jI_i, cN, inN, wI_eq, wI_ne, wJ_1, wJ_eq, wJ_ne, wI_2, wJ_3, iI_div, iI_rem, jI_div, jI_rem, true_or, or_true, false_or, or_false, eq_self, Nat.add_zero]
              refine c12_finds (e := 4) hly (by decide) (by omega) (hno ?_ m4 (f03.tr (f4.mono (fun a k h => Or.inr h))))
              rw [apM, if_neg (show ¬ (lvs _ _ ≤ 24 ∧ crs _ _ ≤ 24 ∧ _ ≤ 60) from hft)]
          simp (disch := omega) only [forall_eq, true_and, and_true, false_and, and_false, forall_const, true_implies, implies_true, not_true_eq_false, not_false_eq_true, false_implies, if_true, if_false, ↓reduceIte, Int.toNat_natCast, Int.reduceEq, Int.reduceNe, Int.reduceLT, Int.reduceLE, Int.reduceToNat, Int.reduceAdd, Int.reduceSub, Int.reduceMul, Int.reduceNeg, Nat.reduceAdd, Nat.reduceMul, Nat.reduceSub, iI_lit, jI_lit, iI_add, iI_sub, iI_mul, iI_neg, jI_add, jI_sub, jI_mul, jI_neg, nI_i, lN_j, iI_le, iI_lt, iI_eq, jI_le, jI_lt, jI_eq, iI_in, iI_cl, iI_j, jI_i, cN, inN, wI_eq, wI_ne, wJ_1, wJ_eq, wJ_ne, wI_2, wJ_3, iI_div, iI_rem, jI_div, jI_rem, true_or, or_true, false_or, or_false, eq_self, Nat.add_zero, e7]
          exact ⟨fun z => by omega, fun _ => ⟨fun _ => ⟨fun z => absurd z hwn, fun _ => g134⟩, fun z => by omega⟩⟩
theorem c12_movesC {b : Nat → Int} {n j l : Nat} {t : Nat → Int} (hly : ∀ S, L S → ly S) (hd2 : 5 ≤ d2) (hj : j < 6) (hv : vT t l) (t1 : n ≤ 100) (hbb : ∀ k, k < n → 0 ≤ b k ∧ b k ≤ 255) : ∀ (m1 : sm_M) (Q : Int32 → sm_M → Prop), hl m1 j t l → m1.1 109 11 = iI (n : Nat) → (∀ k, k < n → m1.1 116 k = iI (b k)) → (0 ≤ (mvR b n (n + 1) 0).1 → ∀ m', fr (fun a k => wkP a k ∨ (a = 109 ∧ (k = 32 ∨ k = 11))) m1 m' → m'.1 109 11 = iI 0 → Q (iI (-10 - (mvR b n (n + 1) 0).1)) m') → ((mvR b n (n + 1) 0).1 = -1 → apM (mvR b n (n + 1) 0).2 t l = none → ∀ m', fr (fun a k => wkP a k ∨ mmP a k ∨ (a = 109 ∧ (k = 32 ∨ k = 11))) m1 m' → m'.1 109 11 = iI 0 → Q (iI (-1000000000 - (4 : Nat))) (sm_wI m' 110 4 (m'.1 110 4 + 1))) → ((mvR b n (n + 1) 0).1 = -1 → ∀ t' l', apM (mvR b n (n + 1) 0).2 t l = some (t', l') → ∀ m', fr (fun a k => wkP a k ∨ ctP j a k ∨ (a = 109 ∧ (k = 32 ∨ k = 11))) m1 m' → m'.1 109 11 = iI 0 → vT t' l' → hl m' j t' l' → Q (iI ((mvR b n (n + 1) 0).2.length : Nat)) m') → sm_callI E L mX12_moves d2 0 0 [.ref (sm_B E + 109), .int (iI (j : Nat))] m1 Q := by
  have hi : 0 ≤ (j : Int) ∧ (j : Int) < 6 := by omega
  have i1 : -2147483648 ≤ (j : Int) := by omega
  have i2 : (j : Int) ≤ 2147483647 := by omega
  have l6 := hv.2.2.2.2
  intro m1 Q h1 h11 hb hQ1 hQ4 hQ
  refine vX12_moves_0 hly hd2 (c12_isSlot i1 i2 (by omega) ?_)
  rw [h11]
  simp (disch := omega) only [forall_eq, true_and, and_true, false_and, and_false, forall_const, true_implies, implies_true, not_true_eq_false, not_false_eq_true, false_implies, if_true, if_false, ↓reduceIte, Int.toNat_natCast, Int.reduceEq, Int.reduceNe, Int.reduceLT, Int.reduceLE, Int.reduceToNat, Int.reduceAdd, Int.reduceSub, Int.reduceMul, Int.reduceNeg, Nat.reduceAdd, Nat.reduceMul, Nat.reduceSub, iI_lit, jI_lit, iI_add, iI_sub, iI_mul, iI_neg, jI_add, jI_sub, jI_mul, jI_neg, nI_i, lN_j, iI_le, iI_lt, iI_eq, jI_le, jI_lt, jI_eq, iI_in, iI_cl, iI_j, jI_i, cN, inN, wI_eq, wI_ne, wJ_1, wJ_eq, wJ_ne, wI_2, wJ_3, iI_div, iI_rem, jI_div, jI_rem, true_or, or_true, false_or, or_false, eq_self, Nat.add_zero, hi]
  have f0 : fr (fun a k => wkP a k ∨ (a = 109 ∧ (k = 32 ∨ k = 11))) m1 (sm_wI (sm_wI m1 109 32 (iI (n : Nat))) 109 11 (iI 0)) := (fr.rf.wI (Or.inr ⟨rfl, Or.inl rfl⟩)).wI (Or.inr ⟨rfl, Or.inr rfl⟩)
  have h0 : hl (sm_wI (sm_wI m1 109 32 (iI (n : Nat))) 109 11 (iI 0)) j t l := h1.fr ((fr.rf.wI (P := fun a k => a = 109) rfl).wI rfl) (by omega) (fun k => by omega)
  have z32 : (sm_wI (sm_wI m1 109 32 (iI (n : Nat))) 109 11 (iI 0)).1 109 32 = iI (n : Nat) := by rw [wI_ne (by omega), wI_eq rfl rfl]
  have z11 : (sm_wI (sm_wI m1 109 32 (iI (n : Nat))) 109 11 (iI 0)).1 109 11 = iI 0 := wI_eq rfl rfl
  have zb : ∀ k, k < n → (sm_wI (sm_wI m1 109 32 (iI (n : Nat))) 109 11 (iI 0)).1 116 k = iI (b k) := fun k hk => by rw [wI_ne (by omega), wI_ne (by omega)]; exact hb k hk
  generalize sm_wI (sm_wI m1 109 32 (iI (n : Nat))) 109 11 (iI 0) = m2 at f0 h0 z32 z11 zb
  have rnd : ∀ (x : sm_M) (rd : Int), (rd = 0 ∨ rd = 1) → fr wkP m2 x → (∀ y, fr wkP m2 y → wk y t l → gX12_moves_48 E L d2 [.ref (sm_B E + 109), .int (iI (j : Nat))] (iI (j : Nat)) (iI rd) (iI 0) (iI 0) y Q) → gX12_moves_28 E L d2 [.ref (sm_B E + 109), .int (iI (j : Nat))] (iI (j : Nat)) (iI rd) x Q := by
    intro x rd hrd fx hy
    refine vX12_moves_28 hly hd2 ?_
    simp (disch := omega) only [forall_eq, true_and, and_true, false_and, and_false, forall_const, true_implies, implies_true, not_true_eq_false, not_false_eq_true, false_implies, if_true, if_false, ↓reduceIte, Int.toNat_natCast, Int.reduceEq, Int.reduceNe, Int.reduceLT, Int.reduceLE, Int.reduceToNat, Int.reduceAdd, Int.reduceSub, Int.reduceMul, Int.reduceNeg, Nat.reduceAdd, Nat.reduceMul, Nat.reduceSub, iI_lit, jI_lit, iI_add, iI_sub, iI_mul, iI_neg, jI_add, jI_sub, jI_mul, jI_neg, nI_i, lN_j, iI_le, iI_lt, iI_eq, jI_le, jI_lt, jI_eq, iI_in, iI_cl, iI_j, jI_i, cN, inN, wI_eq, wI_ne, wJ_1, wJ_eq, wJ_ne, wI_2, wJ_3, iI_div, iI_rem, jI_div, jI_rem, true_or, or_true, false_or, or_false, eq_self, Nat.add_zero]
    refine ⟨fun z => by omega, fun _ => ?_⟩
    have fw : fr wkP x (sm_wI x 109 6 (iI 0)) := fr.rf.wI (Or.inl ⟨rfl, rfl⟩)
    refine c12_putsSlot (t := fun _ => 0) (n := 0) (u := t) (k := l) hly hj l6 (by omega) (by omega) ⟨wI_eq rfl rfl, fun k hk => absurd hk (Nat.not_lt_zero _)⟩ (h0.fr (fx.tr fw) (by unfold wkP; omega) (fun k => by unfold wkP; omega)) (fun y fy wy => ?_)
    rw [tcat_zero, Nat.zero_add] at wy
    exact hy y ((fx.tr fw).tr fy) wy
  refine rnd m2 0 (Or.inl rfl) fr.rf (fun y fy wy => ?_)
  have y32 : y.1 109 32 = iI (n : Nat) := (fy.i (by unfold wkP; omega)).trans z32
  have y11 : y.1 109 11 = iI 0 := (fy.i (by unfold wkP; omega)).trans z11
  have yb : ∀ k, k < n → y.1 116 k = iI (b k) := fun k hk => (fy.i (by unfold wkP; omega)).trans (zb k hk)
  refine c12_moves_r0 hly hd2 t1 y32 hbb yb (n + 1) 0 0 (by omega) (by omega) (by omega) (fun hR => hQ1 hR y (f0.tr (fy.mono (fun a k h => Or.inl h))) y11) (fun hR => ?_)
  refine rnd y 1 (Or.inr rfl) fy (fun u fu wu => ?_)
  have u32 : u.1 109 32 = iI (n : Nat) := (fu.i (by unfold wkP; omega)).trans z32
  have u11 : u.1 109 11 = iI 0 := (fu.i (by unfold wkP; omega)).trans z11
  have ub : ∀ k, k < n → u.1 116 k = iI (b k) := fun k hk => (fu.i (by unfold wkP; omega)).trans (zb k hk)
  refine c12_moves_r1 hly hd2 hj t1 hbb u u32 ub (n + 1) 0 0 t l u (by omega) (by omega) (by omega) fr.rf wu hv hR (fun t' l' e m' f' v' g' => ?_) (fun e m' f' => ?_)
  · rw [Nat.zero_add]
    refine hQ hR t' l' e m' (((f0.mono (fun a k h => h.elim Or.inl (fun h => Or.inr (Or.inr h)))).tr (fu.mono (fun a k h => Or.inl h))).tr (f'.mono (fun a k h => h.elim Or.inl (fun h => Or.inr (Or.inl h))))) ?_ v' g'
    rw [f'.i (by unfold wkP ctP mmP; omega)]
    exact u11
  · refine hQ4 hR e m' (((f0.mono (fun a k h => h.elim Or.inl (fun h => Or.inr (Or.inr h)))).tr (fu.mono (fun a k h => Or.inl h))).tr (f'.mono (fun a k h => h.elim Or.inl (fun h => Or.inr (Or.inl h))))) ?_
    rw [f'.i (by unfold wkP mmP; omega)]
    exact u11
theorem k_moves {x1 : Int32} (hly : ∀ S, L S → ly S) (hd1 : 9 ≤ d1) (hd2 : 5 ≤ d2) (hI : Inv c m) : sm_callI E L mX11_moves d1 0 0 [.ref (sm_B E + 0), .int x1] m (fun r m1 => sm_callI E L mX12_moves d2 0 0 [.ref (sm_B E + 109), .int x1] m1 (fun r2 m2 => r = r2 ∧ Inv c m2)) := by
  obtain ⟨i, i1, i2, rfl⟩ := iI_ex x1
  by_cases hi : 0 ≤ i ∧ i < 6
  rotate_left
  · refine vX11_moves_0 hly hd1 (c_isSlot i1 i2 (by omega) ?_)
    simp (disch := omega) only [forall_eq, true_and, and_true, false_and, and_false, forall_const, true_implies, implies_true, not_true_eq_false, not_false_eq_true, false_implies, if_true, if_false, ↓reduceIte, Int.toNat_natCast, Int.reduceEq, Int.reduceNe, Int.reduceLT, Int.reduceLE, Int.reduceToNat, Int.reduceAdd, Int.reduceSub, Int.reduceMul, Int.reduceNeg, Nat.reduceAdd, Nat.reduceMul, Nat.reduceSub, iI_lit, jI_lit, iI_add, iI_sub, iI_mul, iI_neg, jI_add, jI_sub, jI_mul, jI_neg, nI_i, lN_j, iI_le, iI_lt, iI_eq, jI_le, jI_lt, jI_eq, iI_in, iI_cl, iI_j, jI_i, cN, inN, wI_eq, wI_ne, wJ_1, wJ_eq, wJ_ne, wI_2, wJ_3, iI_div, iI_rem, jI_div, jI_rem, true_or, or_true, false_or, or_false, eq_self, Nat.add_zero, hi]
    refine c_error (e := 1) hly (by decide) (by omega) (vX12_moves_0 hly hd2 (c12_isSlot i1 i2 (by omega) ?_))
    simp (disch := omega) only [forall_eq, true_and, and_true, false_and, and_false, forall_const, true_implies, implies_true, not_true_eq_false, not_false_eq_true, false_implies, if_true, if_false, ↓reduceIte, Int.toNat_natCast, Int.reduceEq, Int.reduceNe, Int.reduceLT, Int.reduceLE, Int.reduceToNat, Int.reduceAdd, Int.reduceSub, Int.reduceMul, Int.reduceNeg, Nat.reduceAdd, Nat.reduceMul, Nat.reduceSub, iI_lit, jI_lit, iI_add, iI_sub, iI_mul, iI_neg, jI_add, jI_sub, jI_mul, jI_neg, nI_i, lN_j, iI_le, iI_lt, iI_eq, jI_le, jI_lt, jI_eq, iI_in, iI_cl, iI_j, jI_i, cN, inN, wI_eq, wI_ne, wJ_1, wJ_eq, wJ_ne, wI_2, wJ_3, iI_div, iI_rem, jI_div, jI_rem, true_or, or_true, false_or, or_false, eq_self, Nat.add_zero, hi]
    exact c12_finds (e := 1) hly (by decide) (by omega) ⟨rfl, hI.er frw.rf frw.rf⟩
  obtain ⟨j, rfl⟩ : ∃ j : Nat, i = (j : Int) := ⟨i.toNat, by omega⟩
  have hj : j < 6 := by omega
  obtain ⟨t, l, hv, hg, hh⟩ := hI.2.1.1 j hj
  obtain ⟨n, b, t1, t2, t3, t4⟩ := hI.2.1.2.2.2.1
  have hbb : ∀ k, k < n → 0 ≤ b k ∧ b k ≤ 255 := fun k hk => ⟨(t4 k hk).1, (t4 k hk).2.1⟩
  have hT := ly_slotT hly hj
  have hTw : sm_tan L 3 60 := ly_t hly 3 rfl rfl (j := 25) rfl
  have l6 := hv.2.2.2.2
  obtain ⟨R1, R2, R3⟩ := mvR_bd b n (n + 1) 0
  have hER := hI.2.2
  have model := fun (m1 : sm_M) (Q : Int32 → sm_M → Prop) => c12_movesC (E := E) (L := L) (d2 := d2) (b := b) hly hd2 hj hv t1 hbb m1 Q
  refine vX11_moves_0 hly hd1 (c_isSlot i1 i2 (by omega) ?_)
  simp (disch := omega) only [forall_eq, true_and, and_true, false_and, and_false, forall_const, true_implies, implies_true, not_true_eq_false, not_false_eq_true, false_implies, if_true, if_false, ↓reduceIte, Int.toNat_natCast, Int.reduceEq, Int.reduceNe, Int.reduceLT, Int.reduceLE, Int.reduceToNat, Int.reduceAdd, Int.reduceSub, Int.reduceMul, Int.reduceNeg, Nat.reduceAdd, Nat.reduceMul, Nat.reduceSub, iI_lit, jI_lit, iI_add, iI_sub, iI_mul, iI_neg, jI_add, jI_sub, jI_mul, jI_neg, nI_i, lN_j, iI_le, iI_lt, iI_eq, jI_le, jI_lt, jI_eq, iI_in, iI_cl, iI_j, jI_i, cN, inN, wI_eq, wI_ne, wJ_1, wJ_eq, wJ_ne, wI_2, wJ_3, iI_div, iI_rem, jI_div, jI_rem, true_or, or_true, false_or, or_false, eq_self, Nat.add_zero, hi]
  have rmC : ∀ {a k : Nat}, rmP a k → clC a k := fun h => by unfold rmP at h; unfold clC; omega
  have w4C : ∀ x : sm_M, fr clC x (sm_wI x 10 4 (iI 0)) := fun x => fr.rf.wI (by unfold clC; omega)
  have w4S : ∀ x : sm_M, frw (slTP j) x (sm_wI x 10 4 (iI 0)) := fun x => (fr.rf.wI (Or.inr (Or.inl ⟨rfl, rfl⟩))).w
  refine c_readMoves hly (by omega) t1 t2 (fun k hk => ⟨(hbb k hk).1, (hbb k hk).2, (t4 k hk).2.2.1⟩) (fun hR m1 f1 => ?_) (fun hR m1 f1 g1 => ?_)
  · -- a word that is none
    simp (disch := omega) only [forall_eq, true_and, and_true, false_and, and_false, forall_const, true_implies, implies_true, not_true_eq_false, not_false_eq_true, false_implies, if_true, if_false, ↓reduceIte, Int.toNat_natCast, Int.reduceEq, Int.reduceNe, Int.reduceLT, Int.reduceLE, Int.reduceToNat, Int.reduceAdd, Int.reduceSub, Int.reduceMul, Int.reduceNeg, Nat.reduceAdd, Nat.reduceMul, Nat.reduceSub, iI_lit, jI_lit, iI_add, iI_sub, iI_mul, iI_neg, jI_add, jI_sub, jI_mul, jI_neg, nI_i, lN_j, iI_le, iI_lt, iI_eq, jI_le, jI_lt, jI_eq, iI_in, iI_cl, iI_j, jI_i, cN, inN, wI_eq, wI_ne, wJ_1, wJ_eq, wJ_ne, wI_2, wJ_3, iI_div, iI_rem, jI_div, jI_rem, true_or, or_true, false_or, or_false, eq_self, Nat.add_zero]
    refine ⟨fun z => by omega, fun _ => ?_⟩
    have fK : fr clC m (sm_wI m1 10 4 (iI 0)) := (f1.mono (fun a k h => rmC h)).tr (w4C m1)
    have fS : frw (slTP j) m (sm_wI m1 10 4 (iI 0)) := (f1.w.mono (fun a k h => rm_sl h)).tr (w4S m1)
    have z4 : (sm_wI m1 10 4 (iI 0)).1 10 4 = iI 0 := wI_eq rfl rfl
    have g4 : tgm (sm_wI m1 10 4 (iI 0)) (77 + 4 * j) t l := (hg.fr f1 (fun k _ _ => by unfold rmP; omega) (fun k => by unfold rmP; omega)).fr (fr.rf.wI (P := fun a k => a = 10) rfl) (fun k _ _ => by omega) (fun k => by omega)
    generalize sm_wI m1 10 4 (iI 0) = m2 at fK fS z4 g4
    refine model m2 _ (hl_clC hh fK) ((fK.i (by unfold clC; omega)).trans t3) (fun k hk => (fK.i (by unfold clC; omega)).trans (t4 k hk).2.2.2) (fun _ m3 f3 z11 => ⟨rfl, ?_⟩) (fun h => by omega) (fun h => by omega)
    have fM : fr clM m2 m3 := f3.mono (fun a k h => by unfold wkP at h; unfold clM; omega)
    refine hI.tape hj (fS.tr (f3.w.mono (fun a k h => h.elim wk_sl t32_sl))) ((fM.i (by unfold clM; omega)).trans z4) z11 (fun k hk => ?_) hv (g4.fr fM (fun k _ _ => by unfold clM; omega) (fun k => by unfold clM; omega)) ((hl_clC hh fK).fr f3 (by unfold wkP; omega) (fun k => by unfold wkP; omega))
    rw [fM.i (by unfold clM; omega), fM.i (by unfold clM; omega), fK.i (by unfold clC; omega), fK.i (by unfold clC; omega)]
    exact hER k hk
  · simp (disch := omega) only [forall_eq, true_and, and_true, false_and, and_false, forall_const, true_implies, implies_true, not_true_eq_false, not_false_eq_true, false_implies, if_true, if_false, ↓reduceIte, Int.toNat_natCast, Int.reduceEq, Int.reduceNe, Int.reduceLT, Int.reduceLE, Int.reduceToNat, Int.reduceAdd, Int.reduceSub, Int.reduceMul, Int.reduceNeg, Nat.reduceAdd, Nat.reduceMul, Nat.reduceSub, iI_lit, jI_lit, iI_add, iI_sub, iI_mul, iI_neg, jI_add, jI_sub, jI_mul, jI_neg, nI_i, lN_j, iI_le, iI_lt, iI_eq, jI_le, jI_lt, jI_eq, iI_in, iI_cl, iI_j, jI_i, cN, inN, wI_eq, wI_ne, wJ_1, wJ_eq, wJ_ne, wI_2, wJ_3, iI_div, iI_rem, jI_div, jI_rem, true_or, or_true, false_or, or_false, eq_self, Nat.add_zero]
    have fK : fr clC m (sm_wI m1 10 4 (iI 0)) := (f1.mono (fun a k h => rmC h)).tr (w4C m1)
    have fS : frw (slTP j) m (sm_wI m1 10 4 (iI 0)) := (f1.w.mono (fun a k h => rm_sl h)).tr (w4S m1)
    have gC : fnd (sm_wI m1 10 4 (iI 0)) (mvR b n (n + 1) 0).2 := ⟨(wI_ne (by omega)).trans g1.1, fun k hk => (wI_ne (by omega)).trans (g1.2 k hk)⟩
    have z4 : (sm_wI m1 10 4 (iI 0)).1 10 4 = iI 0 := wI_eq rfl rfl
    have g4 : tgm (sm_wI m1 10 4 (iI 0)) (77 + 4 * j) t l := (hg.fr f1 (fun k _ _ => by unfold rmP; omega) (fun k => by unfold rmP; omega)).fr (fr.rf.wI (P := fun a k => a = 10) rfl) (fun k _ _ => by omega) (fun k => by omega)
    generalize sm_wI m1 10 4 (iI 0) = m2 at fK fS gC z4 g4
    refine ⟨by omega, c_copy hTw hT (by omega) l6 l6 (by omega) (by omega) (by omega) (by omega) g4 (fun m3 f3 g3 => ?_)⟩
    have gC3 : fnd m3 (mvR b n (n + 1) 0).2 := ⟨(f3.i (by unfold tmP; omega)).trans gC.1, fun k hk => (f3.i (by unfold tmP; omega)).trans (gC.2 k hk)⟩
    have fK3 : fr clC m m3 := fK.tr (f3.mono (fun a k h => by unfold tmP at h; unfold clC; omega))
    have fS3 : frw (slTP j) m m3 := fS.tr (f3.w.mono (fun a k h => tm3_sl h))
    have z3 : m3.1 10 4 = iI 0 := (f3.i (by unfold tmP; omega)).trans z4
    have g4' : tgm m3 (77 + 4 * j) t l := g4.fr f3 (fun k _ _ => by unfold tmP; omega) (fun k => by unfold tmP; omega)
    refine c11_moves_loop (l := (mvR b n (n + 1) 0).2) hly hd1 hj (by omega) R2 m3 gC3 (mvR b n (n + 1) 0).2.length 0 t l m3 (by omega) fr.rf hv g3.1 (fun t' l' e m4 f4 v4 g4 => ?_) (fun e m4 f4 => ?_)
    · rw [List.drop_zero] at e
      have fK4 : fr clC m m4 := fK3.tr (f4.mono (fun a k h => by unfold tgP meP gaP tmP at h; unfold clC; omega))
      have fS4 : frw (slTP j) m m4 := fS3.tr (f4.w.mono (fun a k h => h.elim tg3_sl (fun h => h.elim me3_sl tmj_sl)))
      have z4' : m4.1 10 4 = iI 0 := (f4.i (by unfold tgP meP gaP tmP; omega)).trans z3
      refine model m4 _ (hl_clC hh fK4) ((fK4.i (by unfold clC; omega)).trans t3) (fun k hk => (fK4.i (by unfold clC; omega)).trans (t4 k hk).2.2.2) (fun h => by omega) (fun _ h => by rw [e] at h; cases h) (fun _ t'' l'' e' m5 f5 z11 v5 h5 => ⟨rfl, ?_⟩)
      rw [e] at e'
      cases e'
      have fM : fr clM m4 m5 := f5.mono (fun a k h => by unfold wkP ctP mmP at h; unfold clM; omega)
      refine hI.tape hj (fS4.tr (f5.w.mono (fun a k h => h.elim wk_sl (fun h => h.elim ct_sl t32_sl)))) ((fM.i (by unfold clM; omega)).trans z4') z11 (fun k hk => ?_) v4 (g4.fr fM (fun k _ _ => by unfold clM; omega) (fun k => by unfold clM; omega)) h5
      rw [fM.i (by unfold clM; omega), fM.i (by unfold clM; omega), fK4.i (by unfold clC; omega), fK4.i (by unfold clC; omega)]
      exact hER k hk
    · rw [List.drop_zero] at e
      have fK4 : fr clC m m4 := fK3.tr (f4.mono (fun a k h => by unfold tgP at h; unfold clC; omega))
      have fS4 : frw (slTP j) m m4 := fS3.tr (f4.w.mono (fun a k h => tg3_sl h))
      have z4' : m4.1 10 4 = iI 0 := (f4.i (by unfold tgP; omega)).trans z3
      have g5 : tgm m4 (77 + 4 * j) t l := g4'.fr f4 (fun k _ _ => by unfold tgP; omega) (fun k => by unfold tgP; omega)
      have f5 : fr (fun a k => a = 76) m4 (sm_wI m4 76 4 (m4.1 76 4 + 1)) := fr.rf.wI rfl
      have er4 : ∀ k, (sm_wI m4 76 4 (m4.1 76 4 + 1)).1 76 k = if k = 4 then m.1 76 4 + 1 else m.1 76 k := fun k => by
        rw [wI_1, fK4.i (by unfold clC; omega), fK4.i (by unfold clC; omega)]
        simp
      generalize sm_wI m4 76 4 (m4.1 76 4 + 1) = m5 at f5 er4
      refine model m5 _ ((hl_clC hh fK4).fr f5 (by omega) (fun k => by omega)) ((f5.i (by omega)).trans ((fK4.i (by unfold clC; omega)).trans t3)) (fun k hk => (f5.i (by omega)).trans ((fK4.i (by unfold clC; omega)).trans (t4 k hk).2.2.2)) (fun h => by omega) (fun _ _ m6 f6 z11 => ⟨rfl, ?_⟩) (fun _ t'' l'' h => by rw [e] at h; cases h)
      have fM : fr clM m5 m6 := f6.mono (fun a k h => by unfold wkP mmP at h; unfold clM; omega)
      have f7 : fr (fun a k => a = 110) m6 (sm_wI m6 110 4 (m6.1 110 4 + 1)) := fr.rf.wI rfl
      refine hI.tape hj (((fS4.tr (f5.w.mono (fun a k h => Or.inr (Or.inr (Or.inr (Or.inl h)))))).tr (f6.w.mono (fun a k h => h.elim wk_sl (fun h => h.elim mm_sl t32_sl)))).tr (f7.w.mono (fun a k h => Or.inr (Or.inr (Or.inr (Or.inr h)))))) ((f7.i (by omega)).trans ((fM.i (by unfold clM; omega)).trans ((f5.i (by omega)).trans z4'))) ((f7.i (by omega)).trans z11) (fun k hk => ?_) hv (((g5.fr f5 (fun k _ _ => by omega) (fun k => by omega)).fr fM (fun k _ _ => by unfold clM; omega) (fun k => by unfold clM; omega)).fr f7 (fun k _ _ => by omega) (fun k => by omega)) ((((hl_clC hh fK4).fr f5 (by omega) (fun k => by omega)).fr f6 (by unfold wkP mmP; omega) (fun k => by unfold wkP mmP; omega)).fr f7 (by omega) (fun k => by omega))
      have m110 : ∀ k, m6.1 110 k = m.1 110 k := fun k => by rw [fM.i (by unfold clM; omega), f5.i (by omega), fK4.i (by unfold clC; omega)]
      rw [wI_ne (by omega), fM.i (by unfold clM; omega), er4, wI_1, m110, m110]
      by_cases hk4 : k = 4
      · subst hk4
        simp [hER 4 (by omega)]
      · simp [hk4, hER k hk]
end K9
