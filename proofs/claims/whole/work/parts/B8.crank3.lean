/-! the class's elimination: the rank -/
section CRN
variable {E : sm_E} {L : sm_S → Prop} {d d1 d2 : Nat} {c : Nat}
theorem inv_back {p v y : Nat} {x : Int} (hy : v * y % p = 1) : md p (x * y * v) x := by
  have h1 : md p (((v * y : Nat) : Int)) 1 := by
    have := (md_mod (p : Int) ((v * y : Nat) : Int)).sy
    rw [← Int.natCast_emod, hy] at this
    exact this
  have h2 := h1.mul x
  rw [Int.mul_one, Int.natCast_mul, Int.mul_comm (v : Int), ← Int.mul_assoc] at h2
  exact h2
theorem c_elim {Q : Int32 → sm_M → Prop} {vs : List Value} {p n r col y v j5 : Nat} {H : Nat → Nat → Int} {m0 : sm_M} (hly : ∀ S, L S → ly S) (hd : 2 ≤ d) (hc : c ≤ 24) (hp1 : 2 ≤ p) (hp2 : p ≤ 13) (hn : n ≤ 48) (hcol : col < n) (hrc : r < c) (hi28 : inj28 m0) (hj5 : j5 < 24) (hrr : m0.2.2.1 28 r = some (29 + j5)) (hv : H r col = (v : Int)) (hy2 : y < p) (hy : v * y % p = 1) (hHz : ∀ k, k < col → md p (H r k) 0)
    (h : ∀ (m' : sm_M) (G' : Nat → Nat → Int) (f : Nat → Int), fr grP m0 m' → GV m' c G' → Gb c p G' → f r = 0 → (∀ i j, i < c → j < n → md p (G' i j) (H i j + f i * H r j)) → (∀ i, r < i → i < c → md p (G' i col) 0) → gX1_rank_6 E L d vs (iI (c : Nat)) (iI (n : Nat)) (iI (p : Nat)) (iI ((r + 1 : Nat) : Int)) (iI ((col + 1 : Nat) : Int)) m' Q) :
    ∀ (t i : Nat) (m : sm_M) (G : Nat → Nat → Int) (f : Nat → Int), i + t = c → r < i → fr grP m0 m → GV m c G → Gb c p G → f r = 0 → (∀ i' k, i' < c → k < n → md p (G i' k) (H i' k + f i' * H r k)) → (∀ i', r < i' → i' < i → md p (G i' col) 0) → (∀ i' k, (i' ≤ r ∨ i ≤ i') → k < 48 → G i' k = H i' k) → gX1_rank_86 E L d vs (iI (c : Nat)) (iI (n : Nat)) (iI (p : Nat)) (iI (r : Nat)) (iI (col : Nat)) (29 + j5) (iI (y : Nat)) (iI (i : Nat)) m Q := by
  intro t
  induction t with
  | zero =>
    intro i m G f hi hri f1 g1 g2 f0 g3 g4 g5
    have hic : i = c := by omega
    subst hic
    refine vX1_rank_86 hly hd (ly_growA hly hj5) ?_
    simp (disch := omega) only [forall_eq, true_and, and_true, false_and, and_false, forall_const, true_implies, implies_true, not_true_eq_false, not_false_eq_true, false_implies, if_true, if_false, ↓reduceIte, Int.toNat_natCast, Int.reduceEq, Int.reduceNe, Int.reduceLT, Int.reduceLE, Int.reduceToNat, Int.reduceAdd, Int.reduceSub, Int.reduceMul, Int.reduceNeg, Nat.reduceAdd, Nat.reduceMul, Nat.reduceSub, iI_lit, jI_lit, iI_add, iI_sub, iI_mul, iI_neg, jI_add, jI_sub, jI_mul, jI_neg, nI_i, lN_j, iI_le, iI_lt, iI_eq, jI_le, jI_lt, jI_eq, iI_in, iI_cl, iI_j, jI_i, cN, inN, wI_eq, wI_ne, wJ_1, wJ_eq, wJ_ne, wI_2, wJ_3, iI_div, iI_rem, jI_div, jI_rem, true_or, or_true, false_or, or_false, eq_self, Nat.add_zero, Int.le_refl]
    exact h m G f f1 g1 g2 f0 g3 g4
  | succ t ih =>
    intro i m G f hi hri f1 g1 g2 f0 g3 g4 g5
    have hic : i < c := by omega
    have nx := ih (i + 1)
    clear ih
    have u : ¬ ((c : Int) ≤ (i : Int)) := by omega
    have up : (p : Int) ≠ 0 := by omega
    have hb := g2 i col hic (by omega)
    have hm0 : 0 ≤ G i col * (y : Int) := Int.mul_nonneg hb.1 (by omega)
    have hm1 : G i col * (y : Int) ≤ 13 * 13 := Int.mul_le_mul (by omega) (by omega) (by omega) (by omega)
    obtain ⟨z, hz⟩ : ∃ z : Nat, (z : Int) = (G i col * (y : Int)) % (p : Int) := ⟨((G i col * (y : Int)) % (p : Int)).toNat, by have := Int.emod_nonneg (G i col * (y : Int)) up; omega⟩
    have hzp : z < p := by have := Int.emod_lt_of_pos (G i col * (y : Int)) (show (0 : Int) < p by omega); omega
    have e : (G i col * (y : Int)).tmod (p : Int) = (z : Int) := by rw [Int.tmod_eq_emod_of_nonneg hm0, hz]
    have hmz : md p (z : Int) (G i col * (y : Int)) := by rw [hz]; exact md_mod _ _
    have i1 : inj28 m := by unfold inj28 at *; rw [f1.2]; exact hi28
    have rr : m.2.2.1 28 r = some (29 + j5) := by rw [f1.2]; exact hrr
    have e2 : (p : Int) - (z : Int) = ((p - z : Nat) : Int) := by omega
    refine vX1_rank_86 hly hd (ly_growA hly hj5) ?_
    simp (disch := omega) only [forall_eq, true_and, and_true, false_and, and_false, forall_const, true_implies, implies_true, not_true_eq_false, not_false_eq_true, false_implies, if_true, if_false, ↓reduceIte, Int.toNat_natCast, Int.reduceEq, Int.reduceNe, Int.reduceLT, Int.reduceLE, Int.reduceToNat, Int.reduceAdd, Int.reduceSub, Int.reduceMul, Int.reduceNeg, Nat.reduceAdd, Nat.reduceMul, Nat.reduceSub, iI_lit, jI_lit, iI_add, iI_sub, iI_mul, iI_neg, jI_add, jI_sub, jI_mul, jI_neg, nI_i, lN_j, iI_le, iI_lt, iI_eq, jI_le, jI_lt, jI_eq, iI_in, iI_cl, iI_j, jI_i, cN, inN, wI_eq, wI_ne, wJ_1, wJ_eq, wJ_ne, wI_2, wJ_3, iI_div, iI_rem, jI_div, jI_rem, true_or, or_true, false_or, or_false, eq_self, Nat.add_zero, u, up]
    refine ⟨by omega, fun j hj rj => ⟨by omega, ?_⟩⟩
    rw [g1 i j hic hj rj col (by omega)]
    simp (disch := omega) only [forall_eq, true_and, and_true, false_and, and_false, forall_const, true_implies, implies_true, not_true_eq_false, not_false_eq_true, false_implies, if_true, if_false, ↓reduceIte, Int.toNat_natCast, Int.reduceEq, Int.reduceNe, Int.reduceLT, Int.reduceLE, Int.reduceToNat, Int.reduceAdd, Int.reduceSub, Int.reduceMul, Int.reduceNeg, Nat.reduceAdd, Nat.reduceMul, Nat.reduceSub, iI_lit, jI_lit, iI_add, iI_sub, iI_mul, iI_neg, jI_add, jI_sub, jI_mul, jI_neg, nI_i, lN_j, iI_le, iI_lt, iI_eq, jI_le, jI_lt, jI_eq, iI_in, iI_cl, iI_j, jI_i, cN, inN, wI_eq, wI_ne, wJ_1, wJ_eq, wJ_ne, wI_2, wJ_3, iI_div, iI_rem, jI_div, jI_rem, true_or, or_true, false_or, or_false, eq_self, Nat.add_zero, e]
    refine ⟨fun q => ?_, fun q => ⟨by omega, fun j' hj' rj' => ?_⟩⟩
    · refine nx m G f (by omega) (by omega) f1 g1 g2 f0 g3 (fun i' h1 h2 => ?_) (fun i' k h1 h2 => g5 i' k (by omega) h2)
      by_cases hii : i' = i
      · subst hii
        have a1 := (inv_back (x := G i' col) hy).sy
        rw [q] at hmz
        have a2 := hmz.sy.mulr (v : Int)
        rw [Int.zero_mul] at a2
        exact a1.tr a2
      · exact g4 i' h1 (by omega)
    · rw [e2]
      refine c_subtract hly (by omega) hc i1 g1 g2 hp1 hp2 (by omega) hic hrc (by omega) hj' hj5 rj' rr hn (by omega) (fun m' f2 g6 => ?_)
      have row : ∀ i' k, i' ≠ i → (if i' = i ∧ col ≤ k ∧ k < n then (G i k + (p - z : Nat) * G r k) % (p : Int) else G i' k) = G i' k := fun i' k hne => if_neg (fun q => hne q.1)
      have hGr : ∀ k, k < 48 → G r k = H r k := fun k hk => g5 r k (by omega) hk
      have hGi : ∀ k, k < 48 → G i k = H i k := fun k hk => g5 i k (by omega) hk
      refine nx m' _ (fun i' => if i' = i then ((p - z : Nat) : Int) else f i') (by omega) (by omega) (f1.tr f2) g6 (fun i' k h1 h2 => ?_) ?_ (fun i' k h1 h2 => ?_) (fun i' h1 h2 => ?_) (fun i' k h1 h2 => ?_)
      · by_cases hq : i' = i ∧ col ≤ k ∧ k < n
        · simp only [if_pos hq]
          exact ⟨Int.emod_nonneg _ up, Int.emod_lt_of_pos _ (by omega)⟩
        · simp only [if_neg hq]
          exact g2 i' k h1 h2
      · show (if r = i then _ else f r) = 0
        rw [if_neg (by omega)]
        exact f0
      · by_cases hii : i' = i
        · subst hii
          simp only [true_and, if_true]
          by_cases hk : col ≤ k
          · rw [if_pos ⟨hk, h2⟩, ← hGi k (by omega), ← hGr k (by omega)]
            exact md_mod _ _
          · rw [if_neg (by omega), hGi k (by omega)]
            have a := (hHz k (by omega)).mul (((p - z : Nat) : Int))
            rw [Int.mul_zero] at a
            have b := (md.rf (p := (p : Int)) (x := H i' k)).add a.sy
            rw [Int.add_zero] at b
            exact b
        · rw [row i' k hii]
          show md p _ (H i' k + (if i' = i then _ else f i') * H r k)
          rw [if_neg hii]
          exact g3 i' k h1 h2
      · by_cases hii : i' = i
        · subst hii
          simp only [true_and]
          rw [if_pos ⟨Nat.le_refl _, hcol⟩]
          refine (md_mod _ _).tr ?_
          rw [hGr col (by omega), hv, ← e2, Int.sub_mul]
          have a1 := inv_back (x := G i' col) hy
          have a2 := (hmz.mulr (v : Int)).tr a1
          have a3 : md p (G i' col + ((p : Int) * (v : Int) - (z : Int) * (v : Int))) 0 := by
            obtain ⟨w, hw⟩ := a2
            exact ⟨(v : Int) - w, by rw [Int.mul_sub, ← hw]; omega⟩
          exact a3
        · rw [row i' col hii]
          exact g4 i' h1 (by omega)
      · rw [row i' k (by omega)]
        exact g5 i' k (by omega) h2
theorem c_rank {Q : Int32 → sm_M → Prop} {p n : Nat} {G0 : Nat → Nat → Int} {m0 : sm_M} (hly : ∀ S, L S → ly S) (hL28 : ∀ (m : sm_M) i j, i < 24 → j < 24 → L m.2.2 → L (sm_wR m 28 i (some (29 + j))).2.2) (hd : 2 ≤ d) (hc : c ≤ 24) (hp : isP p) (hn : n ≤ 48) (hi28 : inj28 m0) (hG0 : GV m0 c G0) (hGb : Gb c p G0)
    (h : ∀ m' G r col, frw grP m0 m' → EI p c n G0 G r col → (col = n ∨ r = c) → r ≤ c → Q (iI (r : Nat)) m') : sm_callI E L mX1_rank d 0 0 [.ref (sm_B E + 27), .int (iI (c : Nat)), .int (iI (n : Nat)), .int (iI (p : Nat))] m0 Q := by
  have hp2 : 2 ≤ p ∧ p ≤ 13 := by unfold isP at hp; omega
  have loop : ∀ (t col r : Nat) (m : sm_M) (G : Nat → Nat → Int), col + t = n → frw grP m0 m → GV m c G → Gb c p G → inj28 m → EI p c n G0 G r col → gX1_rank_6 E L d [.ref (sm_B E + 27), .int (iI (c : Nat)), .int (iI (n : Nat)), .int (iI (p : Nat))] (iI (c : Nat)) (iI (n : Nat)) (iI (p : Nat)) (iI (r : Nat)) (iI (col : Nat)) m Q := by
    intro t
    induction t with
    | zero =>
      intro col r m G hcol f1 g1 g2 i1 hE
      have hcn : col = n := by omega
      subst hcn
      have hrc := hE.1
      refine vX1_rank_6 hly hd ?_
      simp (disch := omega) only [forall_eq, true_and, and_true, false_and, and_false, forall_const, true_implies, implies_true, not_true_eq_false, not_false_eq_true, false_implies, if_true, if_false, ↓reduceIte, Int.toNat_natCast, Int.reduceEq, Int.reduceNe, Int.reduceLT, Int.reduceLE, Int.reduceToNat, Int.reduceAdd, Int.reduceSub, Int.reduceMul, Int.reduceNeg, Nat.reduceAdd, Nat.reduceMul, Nat.reduceSub, iI_lit, jI_lit, iI_add, iI_sub, iI_mul, iI_neg, jI_add, jI_sub, jI_mul, jI_neg, nI_i, lN_j, iI_le, iI_lt, iI_eq, jI_le, jI_lt, jI_eq, iI_in, iI_cl, iI_j, jI_i, cN, inN, wI_eq, wI_ne, wJ_1, wJ_eq, wJ_ne, wI_2, wJ_3, iI_div, iI_rem, jI_div, jI_rem, true_or, or_true, false_or, or_false, eq_self, Nat.add_zero, Int.le_refl]
      exact h m G r col f1 hE (Or.inl rfl) hrc
    | succ t ih =>
      intro col r m G hcol f1 g1 g2 i1 hE
      have nx := ih (col + 1)
      clear ih
      have hrc := hE.1
      have u : ¬ ((n : Int) ≤ (col : Int)) := by omega
      by_cases hrc2 : r = c
      · subst hrc2
        refine vX1_rank_6 hly hd ?_
        simp (disch := omega) only [forall_eq, true_and, and_true, false_and, and_false, forall_const, true_implies, implies_true, not_true_eq_false, not_false_eq_true, false_implies, if_true, if_false, ↓reduceIte, Int.toNat_natCast, Int.reduceEq, Int.reduceNe, Int.reduceLT, Int.reduceLE, Int.reduceToNat, Int.reduceAdd, Int.reduceSub, Int.reduceMul, Int.reduceNeg, Nat.reduceAdd, Nat.reduceMul, Nat.reduceSub, iI_lit, jI_lit, iI_add, iI_sub, iI_mul, iI_neg, jI_add, jI_sub, jI_mul, jI_neg, nI_i, lN_j, iI_le, iI_lt, iI_eq, jI_le, jI_lt, jI_eq, iI_in, iI_cl, iI_j, jI_i, cN, inN, wI_eq, wI_ne, wJ_1, wJ_eq, wJ_ne, wI_2, wJ_3, iI_div, iI_rem, jI_div, jI_rem, true_or, or_true, false_or, or_false, eq_self, Nat.add_zero, u, Int.le_refl]
        exact h m G r col f1 hE (Or.inr rfl) hrc
      have u2 : ¬ ((c : Int) ≤ (r : Int)) := by omega
      refine vX1_rank_6 hly hd ?_
      simp (disch := omega) only [forall_eq, true_and, and_true, false_and, and_false, forall_const, true_implies, implies_true, not_true_eq_false, not_false_eq_true, false_implies, if_true, if_false, ↓reduceIte, Int.toNat_natCast, Int.reduceEq, Int.reduceNe, Int.reduceLT, Int.reduceLE, Int.reduceToNat, Int.reduceAdd, Int.reduceSub, Int.reduceMul, Int.reduceNeg, Nat.reduceAdd, Nat.reduceMul, Nat.reduceSub, iI_lit, jI_lit, iI_add, iI_sub, iI_mul, iI_neg, jI_add, jI_sub, jI_mul, jI_neg, nI_i, lN_j, iI_le, iI_lt, iI_eq, jI_le, jI_lt, jI_eq, iI_in, iI_cl, iI_j, jI_i, cN, inN, wI_eq, wI_ne, wJ_1, wJ_eq, wJ_ne, wI_2, wJ_3, iI_div, iI_rem, jI_div, jI_rem, true_or, or_true, false_or, or_false, eq_self, Nat.add_zero, u, u2]
      refine c_pivotIn hly (by omega) hc g1 g2 hp2.2 (by omega) hrc (fun hz => ?_) (fun s hs1 hs2 hs3 => ?_)
      · simp (disch := omega) only [forall_eq, true_and, and_true, false_and, and_false, forall_const, true_implies, implies_true, not_true_eq_false, not_false_eq_true, false_implies, if_true, if_false, ↓reduceIte, Int.toNat_natCast, Int.reduceEq, Int.reduceNe, Int.reduceLT, Int.reduceLE, Int.reduceToNat, Int.reduceAdd, Int.reduceSub, Int.reduceMul, Int.reduceNeg, Nat.reduceAdd, Nat.reduceMul, Nat.reduceSub, iI_lit, jI_lit, iI_add, iI_sub, iI_mul, iI_neg, jI_add, jI_sub, jI_mul, jI_neg, nI_i, lN_j, iI_le, iI_lt, iI_eq, jI_le, jI_lt, jI_eq, iI_in, iI_cl, iI_j, jI_i, cN, inN, wI_eq, wI_ne, wJ_1, wJ_eq, wJ_ne, wI_2, wJ_3, iI_div, iI_rem, jI_div, jI_rem, true_or, or_true, false_or, or_false, eq_self, Nat.add_zero]
        exact nx r m G (by omega) f1 g1 g2 i1 (EI_no hE (by omega) (fun i h1 h2 => by rw [hz i h1 h2]; exact md.rf))
      · have u3 : (0 : Int) ≤ (s : Int) := by omega
        simp (disch := omega) only [forall_eq, true_and, and_true, false_and, and_false, forall_const, true_implies, implies_true, not_true_eq_false, not_false_eq_true, false_implies, if_true, if_false, ↓reduceIte, Int.toNat_natCast, Int.reduceEq, Int.reduceNe, Int.reduceLT, Int.reduceLE, Int.reduceToNat, Int.reduceAdd, Int.reduceSub, Int.reduceMul, Int.reduceNeg, Nat.reduceAdd, Nat.reduceMul, Nat.reduceSub, iI_lit, jI_lit, iI_add, iI_sub, iI_mul, iI_neg, jI_add, jI_sub, jI_mul, jI_neg, nI_i, lN_j, iI_le, iI_lt, iI_eq, jI_le, jI_lt, jI_eq, iI_in, iI_cl, iI_j, jI_i, cN, inN, wI_eq, wI_ne, wJ_1, wJ_eq, wJ_ne, wI_2, wJ_3, iI_div, iI_rem, jI_div, jI_rem, true_or, or_true, false_or, or_false, eq_self, Nat.add_zero, u3]
        refine ⟨by omega, fun j5 hj5 r5 => ⟨by omega, fun j7 hj7 r7 => ⟨by omega, hL28 _ _ _ (by omega) hj7, by omega, hL28 _ _ _ (by omega) hj5, by omega, ?_⟩⟩⟩
        have hb := g2 s col hs2 (by omega)
        obtain ⟨v, hv⟩ : ∃ v : Nat, G s col = (v : Int) := ⟨(G s col).toNat, by omega⟩
        obtain ⟨w1, w2⟩ := g1.sw hc i1 hs2 (show r < c by omega) hj5 hj7 r5 r7
        rw [show (sm_wR (sm_wR m 28 s (some (29 + j7))) 28 r (some (29 + j5))).1 (29 + j5) col = iI (v : Nat) by rw [← hv]; exact g1 s j5 hs2 hj5 r5 col (by omega)]
        refine c_cinv (by omega) hp (by omega) (by omega) (fun y y1 y2 y3 => ?_)
        have sr : swp G r s r = G s := by unfold swp; rw [if_pos rfl]
        have fw : frw grP m (sm_wR (sm_wR m 28 s (some (29 + j7))) 28 r (some (29 + j5))) := ⟨fun _ _ _ => ⟨rfl, rfl⟩, fun b hb => (show (sm_wR (sm_wR m 28 s (some (29 + j7))) 28 r (some (29 + j5))).2.2.1 b = (sm_wR m 28 s (some (29 + j7))).2.2.1 b from sm_u_ne hb).trans (show (sm_wR m 28 s (some (29 + j7))).2.2.1 b = m.2.2.1 b from sm_u_ne hb), rfl, fun _ => w2⟩
        have gb : Gb c p (swp G r s) := by
          intro i k h1 h2
          unfold swp
          by_cases a : i = r
          · rw [if_pos a]; exact g2 s k hs2 h2
          · rw [if_neg a]
            by_cases b : i = s
            · rw [if_pos b]; exact g2 r k (by omega) h2
            · rw [if_neg b]; exact g2 i k h1 h2
        have r2 : (sm_wR (sm_wR m 28 s (some (29 + j7))) 28 r (some (29 + j5))).2.2.1 28 r = some (29 + j5) := by rw [wR28, if_pos rfl]
        refine c_elim (H := swp G r s) (v := v) hly hd hc hp2.1 hp2.2 hn (by omega) (by omega) w2 hj5 r2 (by rw [sr]; exact hv) y2 y3 (fun k hk => ?_) (fun m' G' f f2 g3 g4 f0 g5 g6 => ?_) (c - (r + 1)) (r + 1) _ (swp G r s) (fun _ => 0) (by omega) (by omega) fr.rf w1 gb rfl (fun i' k h1 h2 => ?_) (fun i' h1 h2 => by omega) (fun i' k h1 h2 => rfl)
        · rw [sr]
          obtain ⟨_, _, _, q, _, _, h6⟩ := hE
          exact h6 s k hs1 hs2 hk
        · refine nx (r + 1) m' G' (by omega) (f1.tr (fw.tr f2.w)) g3 g4 (f2.w.2.2.2 w2) (EI_yes hE (by omega) (by omega) hs1 hs2 ?_ f0 g5 g6)
          rw [hv]
          exact unt_inv y3
        · rw [Int.zero_mul, Int.add_zero]
          exact md.rf
  refine vX1_rank_0 hd ?_
  rw [iI_lit]
  exact loop n 0 0 m0 G0 (by omega) frw.rf hG0 hGb hi28 EI_0
end CRN
