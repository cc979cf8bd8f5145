/-! the class writes its grid: the call -/
section CWS
variable {E : sm_E} {L : sm_S → Prop} {d d1 d2 : Nat} {c K Z w cc : Nat} {po st ps ho ea : Nat → Nat}
/-- the grid is what has been weighed so far -/
def gIs (c p K : Nat) (st ps : Nat → Nat) (k x : Nat) (m : sm_M) : Prop := ∃ G, GV m c G ∧ Gb c p G ∧ ∀ b j, b < c → j < 48 → md p (G b j) (vl K st ps k x b j)
theorem c_write {Q : Int32 → sm_M → Prop} {m : sm_M} {p : Nat} (hly : ∀ S, L S → ly S) (hd : 3 ≤ d) (hp1 : 2 ≤ p) (hp2 : p ≤ 13) (hi : inj28 m) (hF : rF c K Z w po st ps ho ea) (hC : rC m c K Z w po st ps ho ea) (h : ∀ m' G, fr grP m m' → GV m' c G → Gb c p G → (∀ b j, b < c → j < 48 → md p (G b j) (mtx K st ps (fun _ => 0) (fun _ => 1) b j)) → Q (iI (asm ps st K : Nat)) m') : sm_callI E L mX1_write d 0 0 [.ref (sm_B E + 27), .ref (sm_B E + 16), .int (iI (p : Nat))] m Q := by
  have hc := hF.1
  have hK := hF.2.1
  have hw := hF.2.2.2.1
  have hend := hF.2.2.2.2.2.2.2.1
  have h48 := asm_48 hF
  have frC : ∀ {m1 : sm_M}, fr grP m m1 → rC m1 c K Z w po st ps ho ea := fun f => hC.fr f (fun a k h1 h2 => by unfold grP; omega)
  have frI : ∀ {m1 : sm_M}, fr grP m m1 → inj28 m1 := fun f => by unfold inj28 at *; rw [f.2]; exact hi
  have pm1 : ((p : Int) - 1) = ((p - 1 : Nat) : Int) := by omega
  have mneg : md p ((p : Int) - 1) (-1) := by
    unfold md
    rw [show (p : Int) - 1 - -1 = p by omega]
    exact Int.dvd_refl _
  have main : ∀ (r k : Nat) (m1 : sm_M), k + r = K → fr grP m m1 → gIs c p K st ps k 0 m1 → gX1_write_31 E L d [.ref (sm_B E + 27), .ref (sm_B E + 16), .int (iI (p : Nat))] (iI (p : Nat)) (iI (asm ps st k : Nat)) (iI (k : Nat)) m1 Q := by
    intro r
    induction r with
    | zero =>
      intro k m1 hk f1 hG
      have hkK : k = K := by omega
      subst hkK
      have hC1 := frC f1
      obtain ⟨G, g1, g2, g3⟩ := hG
      refine vX1_write_31 hly hd ?_
      simp (disch := omega) only [forall_eq, true_and, and_true, false_and, and_false, forall_const, true_implies, implies_true, not_true_eq_false, not_false_eq_true, false_implies, if_true, if_false, ↓reduceIte, Int.toNat_natCast, Int.reduceEq, Int.reduceNe, Int.reduceLT, Int.reduceLE, Int.reduceToNat, Int.reduceAdd, Int.reduceSub, Int.reduceMul, Int.reduceNeg, Nat.reduceAdd, Nat.reduceMul, Nat.reduceSub, iI_lit, jI_lit, iI_add, iI_sub, iI_mul, iI_neg, jI_add, jI_sub, jI_mul, jI_neg, nI_i, lN_j, iI_le, iI_lt, iI_eq, jI_le, jI_lt, jI_eq, iI_in, iI_cl, iI_j, jI_i, cN, inN, wI_eq, wI_ne, wJ_1, wJ_eq, wJ_ne, wI_2, wJ_3, iI_div, iI_rem, jI_div, jI_rem, true_or, or_true, false_or, or_false, eq_self, Nat.add_zero, hC1.2.1, Int.le_refl]
      refine c_min (by omega) (by omega) (by omega) (by omega) (by omega) ?_
      rw [show min (asm ps st k : Int) 48 = ((asm ps st k : Nat) : Int) by omega]
      exact h m1 G f1 g1 g2 (fun b j hb hj => by rw [← vl_end hF hb]; exact g3 b j hb hj)
    | succ r ih =>
      intro k m1 hk f1 hG
      have hkK : k < K := by omega
      have hC1 := frC f1
      have hmo := hF.2.2.2.2.2.1 k (k + 1) (by omega) (by omega)
      have hmo2 := hF.2.2.2.2.2.1 (k + 1) K (by omega) (by omega)
      obtain ⟨N, hN⟩ : ∃ N, st k + N = st (k + 1) := ⟨st (k + 1) - st k, by omega⟩
      have e1 : ((k : Int) + 1).toNat = k + 1 := by omega
      have eN : (st (k + 1) : Int) - (st k : Int) = (N : Int) := by omega
      have hAb := amn_bd ps st k
      have hs : asm ps st (k + 1) = asm ps st k + amn ps st k := rfl
      have hak := asm_mono ps st (k + 1) (K - (k + 1))
      rw [show k + 1 + (K - (k + 1)) = K by omega] at hak
      have nx := ih (k + 1)
      clear ih
      have lay : ∀ (r2 x : Nat) (m2 : sm_M), x + r2 = N → fr grP m m2 → gIs c p K st ps k x m2 → gX1_write_54 E L d [.ref (sm_B E + 27), .ref (sm_B E + 16), .int (iI (p : Nat))] (iI (p : Nat)) (iI (asm ps st k : Nat)) (iI (k : Nat)) (iI (amn ps st k : Nat)) (iI ((unc ps (st k) x % amn ps st k : Nat) : Int)) (iI (x : Nat)) m2 Q := by
        intro r2
        induction r2 with
        | zero =>
          intro x m2 hx f2 hG2
          have hxN : x = N := by omega
          subst hxN
          have hC2 := frC f2
          have v0 := hC2.2.2.2.2.1 k (by omega)
          have v1 := hC2.2.2.2.2.1 (k + 1) (by omega)
          refine vX1_write_54 hly hd (vX2_passesOf_0 hly (by omega) ?_)
          simp (disch := omega) only [forall_eq, true_and, and_true, false_and, and_false, forall_const, true_implies, implies_true, not_true_eq_false, not_false_eq_true, false_implies, if_true, if_false, ↓reduceIte, Int.toNat_natCast, Int.reduceEq, Int.reduceNe, Int.reduceLT, Int.reduceLE, Int.reduceToNat, Int.reduceAdd, Int.reduceSub, Int.reduceMul, Int.reduceNeg, Nat.reduceAdd, Nat.reduceMul, Nat.reduceSub, iI_lit, jI_lit, iI_add, iI_sub, iI_mul, iI_neg, jI_add, jI_sub, jI_mul, jI_neg, nI_i, lN_j, iI_le, iI_lt, iI_eq, jI_le, jI_lt, jI_eq, iI_in, iI_cl, iI_j, jI_i, cN, inN, wI_eq, wI_ne, wJ_1, wJ_eq, wJ_ne, wI_2, wJ_3, iI_div, iI_rem, jI_div, jI_rem, true_or, or_true, false_or, or_false, eq_self, Nat.add_zero, e1, v0, v1, eN, Int.le_refl]
          refine ⟨by omega, by omega, ?_⟩
          obtain ⟨G, g1, g2, g3⟩ := hG2
          exact nx m2 (by omega) f2 ⟨G, g1, g2, fun b j hb hj => by rw [vl_next hF hN hb]; exact g3 b j hb hj⟩
        | succ r2 ih2 =>
          intro x m2 hx f2 hG2
          have hxl : st k + x < st (k + 1) := by omega
          have hC2 := frC f2
          have v0 := hC2.2.2.2.2.1 k (by omega)
          have v1 := hC2.2.2.2.2.1 (k + 1) (by omega)
          obtain ⟨p1, p2⟩ := rF_pos hF hkK hxl
          have v23 := hC2.2.2.2.2.2.1 (st k + x) p1
          have e0 : ((st k : Int) + (x : Int)).toNat = st k + x := by omega
          have u : ¬ ((N : Int) ≤ (x : Int)) := by omega
          have d2 : (ps (st k + x) : Int).tdiv 2 = ((ps (st k + x) / 2 : Nat) : Int) := rfl
          have r2' : (ps (st k + x) : Int).tmod 2 = ((ps (st k + x) % 2 : Nat) : Int) := rfl
          have hml : unc ps (st k) x % amn ps st k < amn ps st k := Nat.mod_lt _ (by omega)
          have hml2 : (unc ps (st k) x + 1) % amn ps st k < amn ps st k := Nat.mod_lt _ (by omega)
          have hun : unc ps (st k) (x + 1) = unc ps (st k) x + ps (st k + x) % 2 := rfl
          have hc0 := colG_at hF (fun _ => 0) hkK hxl
          have hc1 := colG_at hF (fun _ => 1) hkK hxl
          rw [show (fun _ => 0) (amn ps st k) + unc ps (st k) x = unc ps (st k) x from Nat.zero_add _] at hc0
          rw [show (fun _ => 1) (amn ps st k) + unc ps (st k) x = unc ps (st k) x + 1 from Nat.add_comm _ _] at hc1
          have nx2 := ih2 (x + 1)
          clear ih2
          obtain ⟨G, g1, g2, g3⟩ := hG2
          have eb0 : (asm ps st k : Int) + ((unc ps (st k) x % amn ps st k : Nat) : Int) = ((asm ps st k + unc ps (st k) x % amn ps st k : Nat) : Int) := by omega
          have eb1 : (asm ps st k : Int) + (((unc ps (st k) x + 1) % amn ps st k : Nat) : Int) = ((asm ps st k + (unc ps (st k) x + 1) % amn ps st k : Nat) : Int) := by omega
          refine vX1_write_54 hly hd (vX2_passesOf_0 hly (by omega) ?_)
          simp (disch := omega) only [forall_eq, true_and, and_true, false_and, and_false, forall_const, true_implies, implies_true, not_true_eq_false, not_false_eq_true, false_implies, if_true, if_false, ↓reduceIte, Int.toNat_natCast, Int.reduceEq, Int.reduceNe, Int.reduceLT, Int.reduceLE, Int.reduceToNat, Int.reduceAdd, Int.reduceSub, Int.reduceMul, Int.reduceNeg, Nat.reduceAdd, Nat.reduceMul, Nat.reduceSub, iI_lit, jI_lit, iI_add, iI_sub, iI_mul, iI_neg, jI_add, jI_sub, jI_mul, jI_neg, nI_i, lN_j, iI_le, iI_lt, iI_eq, jI_le, jI_lt, jI_eq, iI_in, iI_cl, iI_j, jI_i, cN, inN, wI_eq, wI_ne, wJ_1, wJ_eq, wJ_ne, wI_2, wJ_3, iI_div, iI_rem, jI_div, jI_rem, true_or, or_true, false_or, or_false, eq_self, Nat.add_zero, e1, v0, v1, eN, u]
          refine ⟨by omega, by omega, vX2_crossingOf_0 hly (by omega) ?_⟩
          simp (disch := omega) only [forall_eq, true_and, and_true, false_and, and_false, forall_const, true_implies, implies_true, not_true_eq_false, not_false_eq_true, false_implies, if_true, if_false, ↓reduceIte, Int.toNat_natCast, Int.reduceEq, Int.reduceNe, Int.reduceLT, Int.reduceLE, Int.reduceToNat, Int.reduceAdd, Int.reduceSub, Int.reduceMul, Int.reduceNeg, Nat.reduceAdd, Nat.reduceMul, Nat.reduceSub, iI_lit, jI_lit, iI_add, iI_sub, iI_mul, iI_neg, jI_add, jI_sub, jI_mul, jI_neg, nI_i, lN_j, iI_le, iI_lt, iI_eq, jI_le, jI_lt, jI_eq, iI_in, iI_cl, iI_j, jI_i, cN, inN, wI_eq, wI_ne, wJ_1, wJ_eq, wJ_ne, wI_2, wJ_3, iI_div, iI_rem, jI_div, jI_rem, true_or, or_true, false_or, or_false, eq_self, Nat.add_zero, v0, e0, v23, d2]
          refine ⟨by omega, by omega, vX2_isUnder_0 hly (by omega) ?_⟩
          rcases (show ps (st k + x) % 2 = 0 ∨ ps (st k + x) % 2 = 1 by omega) with par | par
          · have par' : ¬ (((ps (st k + x) % 2 : Nat) : Int) = 1) := by omega
            have hq : ps (st k + x) = 2 * (ps (st k + x) / 2) := by omega
            rw [hun, par, Nat.add_zero] at nx2
            simp (disch := omega) only [forall_eq, true_and, and_true, false_and, and_false, forall_const, true_implies, implies_true, not_true_eq_false, not_false_eq_true, false_implies, if_true, if_false, ↓reduceIte, Int.toNat_natCast, Int.reduceEq, Int.reduceNe, Int.reduceLT, Int.reduceLE, Int.reduceToNat, Int.reduceAdd, Int.reduceSub, Int.reduceMul, Int.reduceNeg, Nat.reduceAdd, Nat.reduceMul, Nat.reduceSub, iI_lit, jI_lit, iI_add, iI_sub, iI_mul, iI_neg, jI_add, jI_sub, jI_mul, jI_neg, nI_i, lN_j, iI_le, iI_lt, iI_eq, jI_le, jI_lt, jI_eq, iI_in, iI_cl, iI_j, jI_i, cN, inN, wI_eq, wI_ne, wJ_1, wJ_eq, wJ_ne, wI_2, wJ_3, iI_div, iI_rem, jI_div, jI_rem, true_or, or_true, false_or, or_false, eq_self, Nat.add_zero, v0, e0, v23, r2', par', eb0]
            refine ⟨by omega, by omega, c_weigh hly (by omega) hc (frI f2) g1 g2 (by omega) (by omega) hp1 hp2 (by omega) (by omega) (fun m3 f3 g4 => ?_)⟩
            refine nx2 m3 (by omega) (f2.tr f3) ⟨_, g4, g2.up (by omega), fun b j hb hj => ?_⟩
            rw [vl_even hF hkK hxl hq hb]
            have := md_up (col := asm ps st k + unc ps (st k) x % amn ps st k) (b := ps (st k + x) / 2) (f := fun b j => vl K st ps k x b j) (g3 b j hb hj) (md.rf (p := (p : Int)) (x := 2))
            rw [← hc0, ← hq] at *
            exact this
          · have par' : ((ps (st k + x) % 2 : Nat) : Int) = 1 := by omega
            have hq : ps (st k + x) = 2 * (ps (st k + x) / 2) + 1 := by omega
            rw [hun, par] at nx2
            simp (disch := omega) only [forall_eq, true_and, and_true, false_and, and_false, forall_const, true_implies, implies_true, not_true_eq_false, not_false_eq_true, false_implies, if_true, if_false, ↓reduceIte, Int.toNat_natCast, Int.reduceEq, Int.reduceNe, Int.reduceLT, Int.reduceLE, Int.reduceToNat, Int.reduceAdd, Int.reduceSub, Int.reduceMul, Int.reduceNeg, Nat.reduceAdd, Nat.reduceMul, Nat.reduceSub, iI_lit, jI_lit, iI_add, iI_sub, iI_mul, iI_neg, jI_add, jI_sub, jI_mul, jI_neg, nI_i, lN_j, iI_le, iI_lt, iI_eq, jI_le, jI_lt, jI_eq, iI_in, iI_cl, iI_j, jI_i, cN, inN, wI_eq, wI_ne, wJ_1, wJ_eq, wJ_ne, wI_2, wJ_3, iI_div, iI_rem, jI_div, jI_rem, true_or, or_true, false_or, or_false, eq_self, Nat.add_zero, v0, e0, v23, r2', par', eb0, pm1]
            refine ⟨by omega, by omega, c_weigh hly (by omega) hc (frI f2) g1 g2 (by omega) (by omega) hp1 hp2 (by omega) (by omega) (fun m3 f3 g4 => ?_)⟩
            have go : ∀ z : Int, z = (((unc ps (st k) x + 1) % amn ps st k : Nat) : Int) → gX1_write_117 E L d [.ref (sm_B E + 27), .ref (sm_B E + 16), .int (iI (p : Nat))] (iI (p : Nat)) (iI (asm ps st k : Nat)) (iI (k : Nat)) (iI (amn ps st k : Nat)) (iI (x : Nat)) (iI ((ps (st k + x) / 2 : Nat) : Int)) (iI z) m3 Q := by
              intro z hz
              subst hz
              refine vX1_write_117 hly hd ?_
              simp (disch := omega) only [forall_eq, true_and, and_true, false_and, and_false, forall_const, true_implies, implies_true, not_true_eq_false, not_false_eq_true, false_implies, if_true, if_false, ↓reduceIte, Int.toNat_natCast, Int.reduceEq, Int.reduceNe, Int.reduceLT, Int.reduceLE, Int.reduceToNat, Int.reduceAdd, Int.reduceSub, Int.reduceMul, Int.reduceNeg, Nat.reduceAdd, Nat.reduceMul, Nat.reduceSub, iI_lit, jI_lit, iI_add, iI_sub, iI_mul, iI_neg, jI_add, jI_sub, jI_mul, jI_neg, nI_i, lN_j, iI_le, iI_lt, iI_eq, jI_le, jI_lt, jI_eq, iI_in, iI_cl, iI_j, jI_i, cN, inN, wI_eq, wI_ne, wJ_1, wJ_eq, wJ_ne, wI_2, wJ_3, iI_div, iI_rem, jI_div, jI_rem, true_or, or_true, false_or, or_false, eq_self, Nat.add_zero, eb1, pm1]
              refine c_weigh hly (by omega) hc (frI (f2.tr f3)) g4 (g2.up (by omega)) (by omega) (by omega) hp1 hp2 (by omega) (by omega) (fun m4 f4 g5 => ?_)
              refine nx2 m4 (by omega) ((f2.tr f3).tr f4) ⟨_, g5, (g2.up (by omega)).up (by omega), fun b j hb hj => ?_⟩
              rw [vl_odd hF hkK hxl hq hb]
              rw [← pm1]
              have s1 := md_up (col := asm ps st k + unc ps (st k) x % amn ps st k) (b := ps (st k + x) / 2) (f := fun b j => vl K st ps k x b j) (g3 b j hb hj) mneg
              have s2 := md_up (col := asm ps st k + (unc ps (st k) x + 1) % amn ps st k) (b := ps (st k + x) / 2) (f := fun b j => vl K st ps k x b j + (if b = ps (st k + x) / 2 then -1 * eqI j (asm ps st k + unc ps (st k) x % amn ps st k) else 0)) s1 mneg
              rw [← hq, hc0, hc1]
              refine s2.tr ?_
              by_cases hbb : b = ps (st k + x) / 2
              · simp only [if_pos hbb]
                rw [show vl K st ps k x b j + -1 * eqI j (asm ps st k + unc ps (st k) x % amn ps st k) + -1 * eqI j (asm ps st k + (unc ps (st k) x + 1) % amn ps st k) = vl K st ps k x b j + (-(eqI j (asm ps st k + unc ps (st k) x % amn ps st k)) - eqI j (asm ps st k + (unc ps (st k) x + 1) % amn ps st k)) by omega]
                exact md.rf
              · simp only [if_neg hbb]
                rw [Int.add_zero, Int.add_zero]
                exact md.rf
            refine ⟨fun q => go 0 ?_, fun q => go _ ?_⟩
            · rw [← Nat.mod_add_mod, show unc ps (st k) x % amn ps st k + 1 = amn ps st k by omega, Nat.mod_self]
              rfl
            · rw [← Nat.mod_add_mod, Nat.mod_eq_of_lt (show unc ps (st k) x % amn ps st k + 1 < amn ps st k by omega)]
              rfl
      have u : ¬ ((K : Int) ≤ (k : Int)) := by omega
      refine vX1_write_31 hly hd ?_
      simp (disch := omega) only [forall_eq, true_and, and_true, false_and, and_false, forall_const, true_implies, implies_true, not_true_eq_false, not_false_eq_true, false_implies, if_true, if_false, ↓reduceIte, Int.toNat_natCast, Int.reduceEq, Int.reduceNe, Int.reduceLT, Int.reduceLE, Int.reduceToNat, Int.reduceAdd, Int.reduceSub, Int.reduceMul, Int.reduceNeg, Nat.reduceAdd, Nat.reduceMul, Nat.reduceSub, iI_lit, jI_lit, iI_add, iI_sub, iI_mul, iI_neg, jI_add, jI_sub, jI_mul, jI_neg, nI_i, lN_j, iI_le, iI_lt, iI_eq, jI_le, jI_lt, jI_eq, iI_in, iI_cl, iI_j, jI_i, cN, inN, wI_eq, wI_ne, wJ_1, wJ_eq, wJ_ne, wI_2, wJ_3, iI_div, iI_rem, jI_div, jI_rem, true_or, or_true, false_or, or_false, eq_self, Nat.add_zero, hC1.2.1, u]
      refine c_arcsOf hly (by omega) hF hC1 hkK ?_
      have l0 := lay N 0 m1 (by omega) f1 hG
      rw [show unc ps (st k) 0 % amn ps st k = 0 from Nat.zero_mod _] at l0
      exact l0
  refine vX1_write_0 hd ?_
  simp (disch := omega) only [forall_eq, true_and, and_true, false_and, and_false, forall_const, true_implies, implies_true, not_true_eq_false, not_false_eq_true, false_implies, if_true, if_false, ↓reduceIte, Int.toNat_natCast, Int.reduceEq, Int.reduceNe, Int.reduceLT, Int.reduceLE, Int.reduceToNat, Int.reduceAdd, Int.reduceSub, Int.reduceMul, Int.reduceNeg, Nat.reduceAdd, Nat.reduceMul, Nat.reduceSub, iI_lit, jI_lit, iI_add, iI_sub, iI_mul, iI_neg, jI_add, jI_sub, jI_mul, jI_neg, nI_i, lN_j, iI_le, iI_lt, iI_eq, jI_le, jI_lt, jI_eq, iI_in, iI_cl, iI_j, jI_i, cN, inN, wI_eq, wI_ne, wJ_1, wJ_eq, wJ_ne, wI_2, wJ_3, iI_div, iI_rem, jI_div, jI_rem, true_or, or_true, false_or, or_false, eq_self, Nat.add_zero]
  refine c_wfill hly hd hc m hi hC.1 (fun m' f1 g1 => ?_) c 0 m (by omega) fr.rf (fun i j hi' => absurd hi' (Nat.not_lt_zero _))
  refine main K 0 m' (by omega) f1 ⟨_, g1, fun i k _ _ => ⟨Int.le_refl _, by show (0 : Int) < p; omega⟩, fun b j hb hj => ?_⟩
  have z : ∀ q, pd K st ps 0 0 q = false := fun q => decide_eq_false (fun h => h.elim (Nat.not_lt_zero _) (fun h => Nat.not_lt_zero _ h.2))
  unfold vl
  rw [z, z]
  exact md.rf
end CWS
