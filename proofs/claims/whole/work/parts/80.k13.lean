/-! tangle: both sides -/
section K13
variable {E : sm_E} {L : sm_S → Prop} {d d1 d2 : Nat} {m : sm_M} {c : Nat}
theorem k_tangle {x1 : Int32} (hly : ∀ S, L S → ly S) (hd1 : 6 ≤ d1) (hd2 : 61 ≤ d2) (hI : Inv c m) : sm_callI E L mX11_tangle d1 0 0 [.ref (sm_B E + 0), .int x1] m (fun r m1 => sm_callI E L mX12_tangle d2 0 0 [.ref (sm_B E + 109), .int x1] m1 (fun r2 m2 => r = r2 ∧ Inv c m2)) := by
  obtain ⟨i, i1, i2, rfl⟩ := iI_ex x1
  by_cases hi : 0 ≤ i ∧ i < 6
  rotate_left
  · refine vX11_tangle_0 hly hd1 (c_isSlot i1 i2 (by omega) ?_)
    simp (disch := omega) only [forall_eq, true_and, and_true, false_and, and_false, forall_const, true_implies, implies_true, not_true_eq_false, not_false_eq_true, false_implies, if_true, if_false, ↓reduceIte, Int.toNat_natCast, Int.reduceEq, Int.reduceNe, Int.reduceLT, Int.reduceLE, Int.reduceToNat, Int.reduceAdd, Int.reduceSub, Int.reduceMul, Int.reduceNeg, Nat.reduceAdd, Nat.reduceMul, Nat.reduceSub, iI_lit, jI_lit, iI_add, iI_sub, iI_mul, iI_neg, jI_add, jI_sub, jI_mul, jI_neg, nI_i, lN_j, iI_le, iI_lt, iI_eq, jI_le, jI_lt, jI_eq, iI_in, iI_cl, iI_j, jI_i, cN, inN, wI_eq, wI_ne, wJ_1, wJ_eq, wJ_ne, wI_2, wJ_3, iI_div, iI_rem, jI_div, jI_rem, true_or, or_true, false_or, or_false, eq_self, Nat.add_zero, hi]
    refine c_error (e := 1) hly (by decide) (by omega) (vX12_tangle_0 hly hd2 (c12_isSlot i1 i2 (by omega) ?_))
    simp (disch := omega) only [forall_eq, true_and, and_true, false_and, and_false, forall_const, true_implies, implies_true, not_true_eq_false, not_false_eq_true, false_implies, if_true, if_false, ↓reduceIte, Int.toNat_natCast, Int.reduceEq, Int.reduceNe, Int.reduceLT, Int.reduceLE, Int.reduceToNat, Int.reduceAdd, Int.reduceSub, Int.reduceMul, Int.reduceNeg, Nat.reduceAdd, Nat.reduceMul, Nat.reduceSub, iI_lit, jI_lit, iI_add, iI_sub, iI_mul, iI_neg, jI_add, jI_sub, jI_mul, jI_neg, nI_i, lN_j, iI_le, iI_lt, iI_eq, jI_le, jI_lt, jI_eq, iI_in, iI_cl, iI_j, jI_i, cN, inN, wI_eq, wI_ne, wJ_1, wJ_eq, wJ_ne, wI_2, wJ_3, iI_div, iI_rem, jI_div, jI_rem, true_or, or_true, false_or, or_false, eq_self, Nat.add_zero, hi]
    exact c12_finds (e := 1) hly (by decide) (by omega) ⟨rfl, hI.er frw.rf frw.rf⟩
  obtain ⟨s, rfl⟩ : ∃ j : Nat, i = (j : Int) := ⟨i.toNat, by omega⟩
  have hs : s < 6 := by omega
  obtain ⟨t, l, hv, hg, hh⟩ := hI.2.1.1 s hs
  obtain ⟨N, b, t1, t2, t3, t4⟩ := hI.2.1.2.2.2.1
  have hbb : ∀ k, k < N → 0 ≤ b k ∧ b k ≤ 255 := fun k hk => ⟨(t4 k hk).1, (t4 k hk).2.1⟩
  have hER := hI.2.2
  have hT : sm_tan L 14 100 := ly_t hly 14 rfl rfl (j := 34) rfl
  obtain ⟨j, t', n', ok, hR⟩ := RP.ex b N (N + 1) 0 (Nat.zero_le _) (by omega) 0 (fun _ => 0) 0 (by omega) 3 (by omega)
  have hp := hR.pos (Nat.zero_le _)
  refine vX11_tangle_0 hly hd1 (c_isSlot i1 i2 (by omega) ?_)
  rw [if_pos hi]
  refine ⟨fun _ => vX9_readText_0 hly (by omega) (c_clear hT (by omega) (fun m1 f1 g1 => ?_)), fun z => absurd z (by decide)⟩
  intro m2 e2 m3 e3
  have f13 : fr rdP m1 m3 := by
    subst e2 e3
    exact (fr.rf.wI (Or.inl ⟨rfl, Or.inl rfl⟩)).wI (Or.inl ⟨rfl, Or.inr rfl⟩)
  have f3 : fr rdP m m3 := (f1.mono (fun a k h => by unfold tgP at h; unfold rdP; omega)).tr f13
  have hck : ck m3 m3 (fun _ => 0) 0 [] 0 := by
    refine ⟨fr.rf, ?_, ?_, trivial, ?_, rfl, fun x hx => absurd hx (by simp)⟩
    · subst e2 e3
      exact (g1 _).fr ((fr.rf.wI (P := fun a k => a = 10) rfl).wI rfl) (fun k _ _ => by omega) (fun k => by omega)
    · subst e2 e3
      rw [wI_ne (by omega), wI_eq rfl rfl]
      rfl
    · subst e2 e3
      rw [wI_eq rfl rfl]
      rfl
  clear e2 e3
  have hb : base m3 b N := ⟨t1, (f3.i (by unfold rdP; omega)).trans t2, fun k hk => ⟨(hbb k hk).1, (hbb k hk).2, (f3.i (by unfold rdP; omega)).trans (t4 k hk).2.2.1⟩⟩
  -- what holds once the class has read
  have aft : ∀ m', fr rdP m3 m' → fr clC m (sm_wI m' 10 4 (iI 0)) ∧ frw (slTP s) m (sm_wI m' 10 4 (iI 0)) ∧ (sm_wI m' 10 4 (iI 0)).1 10 4 = iI 0 ∧ tgm (sm_wI m' 10 4 (iI 0)) (77 + 4 * s) t l := fun m' f' => by
    have f4 : fr rdP m m' := f3.tr f'
    refine ⟨(f4.mono (fun a k h => by unfold rdP at h; unfold clC; omega)).wI (by unfold clC; omega), ((f4.mono (P' := slTP s) (fun a k h => rd_sl h)).wI (Or.inr (Or.inl ⟨rfl, rfl⟩))).w, wI_eq rfl rfl, ?_⟩
    exact (hg.fr f4 (fun k _ _ => by unfold rdP; omega) (fun k => by unfold rdP; omega)).fr (fr.rf.wI (P := fun a k => a = 10) rfl) (fun k _ _ => by omega) (fun k => by omega)
  have badC : (ok = false ∨ j ≠ N) → ∀ m', fr rdP m3 m' → sm_callI E L mX12_tangle d2 0 0 [.ref (sm_B E + 109), .int (iI (s : Nat))] (sm_wI m' 10 4 (iI 0)) (fun r2 m2 => (-10 - iI (j : Nat)) = r2 ∧ Inv c m2) := by
    intro hbad m' f'
    obtain ⟨fK, fS, z4, g4⟩ := aft m' f'
    generalize sm_wI m' 10 4 (iI 0) = m6 at fK fS z4 g4
    refine c12_tangleC hly hd2 hs t1 hbb hR m6 ((fK.i (by unfold clC; omega)).trans t3) (fun k hk => (fK.i (by unfold clC; omega)).trans (t4 k hk).2.2.2) (fun _ m7 f7 z11 => ⟨rfl, ?_⟩) (fun h1 h2 => absurd hbad (fun q => q.elim (fun q => by rw [h1] at q; cases q) (fun q => q h2)))
    have fM : fr clM m6 m7 := f7.mono (fun a k h => by unfold rtP rkP wkP at h; unfold clM; omega)
    refine hI.tape hs (fS.tr (f7.w.mono (fun a k h => rt_sl h))) ((fM.i (by unfold clM; omega)).trans z4) z11 (fun k hk => ?_) hv (g4.fr fM (fun k _ _ => by unfold clM; omega) (fun k => by unfold clM; omega)) ((hl_clC hh fK).fr f7 (by unfold rtP rkP wkP; omega) (fun k => by unfold rtP rkP wkP; omega))
    rw [fM.i (by unfold clM; omega), fM.i (by unfold clM; omega), fK.i (by unfold clC; omega), fK.i (by unfold clC; omega)]
    exact hER k hk
  have neg : ¬ (iI (j : Nat) < 0) := fun q => by
    simp (disch := omega) only [forall_eq, true_and, and_true, false_and, and_false, forall_const, true_implies, implies_true, not_true_eq_false, not_false_eq_true, false_implies, if_true, if_false, ↓reduceIte, Int.toNat_natCast, Int.reduceEq, Int.reduceNe, Int.reduceLT, Int.reduceLE, Int.reduceToNat, Int.reduceAdd, Int.reduceSub, Int.reduceMul, Int.reduceNeg, Nat.reduceAdd, Nat.reduceMul, Nat.reduceSub, iI_lit, jI_lit, iI_add, iI_sub, iI_mul, iI_neg, jI_add, jI_sub, jI_mul, jI_neg, nI_i, lN_j, iI_le, iI_lt, iI_eq, jI_le, jI_lt, jI_eq, iI_in, iI_cl, iI_j, jI_i, cN, inN, wI_eq, wI_ne, wJ_1, wJ_eq, wJ_ne, wI_2, wJ_3, iI_div, iI_rem, jI_div, jI_rem, true_or, or_true, false_or, or_false, eq_self, Nat.add_zero] at q
    omega
  refine (t_all hly hT (by omega) hb hR (Nat.zero_le _) (by omega) (fun hok m' f' m6 e6 => ?_)).2.2.2.1 rfl m3 [] hck (by simp) ⟨by decide, by decide, by decide⟩ (by decide) (fun hok m' hs' => ?_)
  · subst e6
    exact ⟨fun z => absurd z neg, fun _ => badC (Or.inl hok) m' f'⟩
  by_cases hj : j = N
  rotate_left
  · have hx := hR.nxt hok
    refine t_stop hly hT (by omega) hb hs' (by decide) hp.2.1 (by have := hp.2.2.1 hok; rw [List.length_nil]; omega) (hx.2.1 rfl).1 (hx.2.1 rfl).2 (fun _ => by decide) (fun q => absurd q hj) (fun m4 f4 m6 e6 => ?_)
    subst e6
    exact ⟨fun z => absurd z neg, fun _ => badC (Or.inr hj) m4 f4⟩
  have hn' : n' ≤ N := by have := hp.2.2.1 hok; omega
  obtain ⟨k1, k2⟩ := hR.tok hok (fun k hk => absurd hk (Nat.not_lt_zero _)) (by omega)
  have k3 : (ev t' n').1 = 1 := k2
  rw [hj]
  refine t_done hly hT (by omega) hb hs' hn' (fun m4 hc4 m6 e6 => ⟨fun _ => ?_, fun z => absurd (by decide) z⟩)
  subst e6
  obtain ⟨fK, fS, z4, g4⟩ := aft m4 hc4.1
  have hg6 : tg (sm_wI m4 10 4 0) 14 t' n' := hc4.2.1.fr (fr.rf.wI (P := fun a k => a = 10) rfl) (fun k _ _ => by omega) (fun k => by omega)
  have e0 : sm_wI m4 10 4 0 = sm_wI m4 10 4 (iI 0) := rfl
  rw [e0] at hg6 ⊢
  generalize sm_wI m4 10 4 (iI 0) = m6 at fK fS z4 g4 hg6
  refine c_isWithinLimits hT (by omega) hg6 (by omega) (fun hft => ⟨fun _ => ?_, fun z => absurd z (by decide)⟩) (fun hft => ⟨fun z => absurd rfl z, fun _ => ?_⟩)
  · have hv' : vT t' n' := ⟨k1, k3, hft⟩
    refine c_settle hly (by omega) hT (Or.inr rfl) (by omega) (by omega) hs hv' hg6 (fun m7 f7 g7 => ?_)
    have fK7 : fr clC m m7 := fK.tr (f7.mono (fun a k h => by unfold meP gaP tmP at h; unfold clC; omega))
    have fS7 : frw (slTP s) m m7 := fS.tr (f7.w.mono (fun a k h => h.elim me14_sl tmj_sl))
    have z7 : m7.1 10 4 = iI 0 := (f7.i (by unfold meP gaP tmP; omega)).trans z4
    refine c12_tangleC hly hd2 hs t1 hbb hR m7 ((fK7.i (by unfold clC; omega)).trans t3) (fun k hk => (fK7.i (by unfold clC; omega)).trans (t4 k hk).2.2.2) (fun q => absurd q (fun q => q.elim (fun q => by rw [hok] at q; cases q) (fun q => q hj))) (fun _ _ m8 f8 z11 w8 => ?_)
    refine c12_isTooMuch hly (by omega) w8 (by omega) k1 (by omega) (fun _ m9 f9 => ⟨fun _ => ?_, fun z => absurd rfl z⟩) (fun q => absurd hft q)
    have w9 : wk m9 t' n' := ⟨(f9.i (by unfold mmP; omega)).trans w8.1, fun k hk => (f9.i (by unfold mmP; omega)).trans (w8.2 k hk)⟩
    refine c12_comesTo hly (by omega) w9 hs hv' (fun m10 f10 h10 _ => ⟨rfl, ?_⟩)
    have fM : fr clM m7 m10 := ((f8.mono (fun a k h => by unfold rtP rkP wkP at h; unfold clM; omega)).tr (f9.mono (fun a k h => by unfold mmP at h; unfold clM; omega))).tr (f10.mono (fun a k h => by unfold ctP mmP at h; unfold clM; omega))
    refine hI.tape hs (((fS7.tr (f8.w.mono (fun a k h => rt_sl h))).tr (f9.w.mono (fun a k h => mm_sl h))).tr (f10.w.mono (fun a k h => ct_sl h))) ((fM.i (by unfold clM; omega)).trans z7) ((f10.i (by unfold ctP mmP; omega)).trans ((f9.i (by unfold mmP; omega)).trans z11)) (fun k hk => ?_) hv' (g7.fr fM (fun k _ _ => by unfold clM; omega) (fun k => by unfold clM; omega)) h10
    rw [fM.i (by unfold clM; omega), fM.i (by unfold clM; omega), fK7.i (by unfold clC; omega), fK7.i (by unfold clC; omega)]
    exact hER k hk
  · have f5 : fr (fun a k => a = 76) m6 (sm_wI m6 76 4 (m6.1 76 4 + 1)) := fr.rf.wI rfl
    have er4 : ∀ k, (sm_wI m6 76 4 (m6.1 76 4 + 1)).1 76 k = if k = 4 then m.1 76 4 + 1 else m.1 76 k := fun k => by
      rw [wI_1, fK.i (by unfold clC; omega), fK.i (by unfold clC; omega)]
      simp
    refine c_error (e := 4) hly (by decide) (by omega) ?_
    generalize sm_wI m6 76 4 (m6.1 76 4 + 1) = m7 at f5 er4
    refine c12_tangleC hly hd2 hs t1 hbb hR m7 ((f5.i (by omega)).trans ((fK.i (by unfold clC; omega)).trans t3)) (fun k hk => (f5.i (by omega)).trans ((fK.i (by unfold clC; omega)).trans (t4 k hk).2.2.2)) (fun q => absurd q (fun q => q.elim (fun q => by rw [hok] at q; cases q) (fun q => q hj))) (fun _ _ m8 f8 z11 w8 => ?_)
    refine c12_isTooMuch hly (by omega) w8 (by omega) k1 (by omega) (fun q => absurd q hft) (fun _ m9 f9 => ⟨fun z => absurd z (by decide), fun _ => ?_⟩)
    refine c12_finds (e := 4) hly (by decide) (by omega) ⟨rfl, ?_⟩
    have fM : fr clM m7 m9 := (f8.mono (fun a k h => by unfold rtP rkP wkP at h; unfold clM; omega)).tr (f9.mono (fun a k h => by unfold mmP at h; unfold clM; omega))
    have f7 : fr (fun a k => a = 110) m9 (sm_wI m9 110 4 (m9.1 110 4 + 1)) := fr.rf.wI rfl
    have hh7 : hl m7 s t l := (hl_clC hh fK).fr f5 (by omega) (fun k => by omega)
    have hh8 : hl m8 s t l := hh7.fr f8 (by unfold rtP rkP wkP; omega) (fun k => by unfold rtP rkP wkP; omega)
    have hh9 : hl m9 s t l := hh8.fr f9 (by unfold mmP; omega) (fun k => by unfold mmP; omega)
    have gA : tgm m7 (77 + 4 * s) t l := g4.fr f5 (fun k _ _ => by omega) (fun k => by omega)
    have gB : tgm m9 (77 + 4 * s) t l := gA.fr fM (fun k _ _ => by unfold clM; omega) (fun k => by unfold clM; omega)
    refine hI.tape hs ((((fS.tr (f5.w.mono (fun a k h => Or.inr (Or.inr (Or.inr (Or.inl h)))))).tr (f8.w.mono (fun a k h => rt_sl h))).tr (f9.w.mono (fun a k h => mm_sl h))).tr (f7.w.mono (fun a k h => Or.inr (Or.inr (Or.inr (Or.inr h)))))) ((f7.i (by omega)).trans ((fM.i (by unfold clM; omega)).trans ((f5.i (by omega)).trans z4))) ((f7.i (by omega)).trans ((f9.i (by unfold mmP; omega)).trans z11)) (fun k hk => ?_) hv (gB.fr f7 (fun k _ _ => by omega) (fun k => by omega)) (hh9.fr f7 (by omega) (fun k => by omega))
    have m110 : ∀ k, m9.1 110 k = m.1 110 k := fun k => by rw [fM.i (by unfold clM; omega), f5.i (by omega), fK.i (by unfold clC; omega)]
    rw [wI_ne (by omega), fM.i (by unfold clM; omega), er4, wI_1, m110, m110]
    by_cases hk4 : k = 4
    · subst hk4
      rw [if_pos rfl, if_pos ⟨rfl, rfl⟩, hER 4 hk]
    · rw [if_neg hk4, if_neg (fun q => hk4 q.2)]
      exact hER k hk
end K13
