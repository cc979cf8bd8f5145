/-! colours: the reference's rows, the call -/
section K19
variable {E : sm_E} {L : sm_S → Prop} {d d1 d2 : Nat} {m : sm_M} {c K Z w cc : Nat} {po st ps ho ea : Nat → Nat}
theorem MV.add {m : sm_M} {n b k : Nat} {G : Nat → Nat → Int} {v : Int} (h : MV m n G) (hn : n ≤ 80) (hb : b < 24) (hk : k < n) : MV (sm_wI m 144 (80 * b + k) (m.1 144 (80 * b + k) + iI v)) n (fun i' k' => G i' k' + if i' = b ∧ k' = k then v else 0) := by
  rw [h b k hb hk, iI_add]
  refine (h.w hn hk).cg (fun i' k' _ _ => ?_)
  rw [upG_at]
  by_cases q : i' = b ∧ k' = k
  · rw [if_pos q, if_pos q, q.1, q.2]
  · rw [if_neg q, if_neg q, Int.add_zero]
noncomputable def rwR (K p : Nat) (st ps : Nat → Nat) (b j : Nat) : Int := 2 * eqI j (colG K st ps (fun A => A - 1) (2 * b)) + ((p : Int) - 1) * eqI j (colG K st ps (fun A => A - 1) (2 * b + 1)) + ((p : Int) - 1) * eqI j (colG K st ps (fun A => A) (2 * b + 1))
theorem rwR_md {p b j : Nat} : md p (rwR K p st ps b j) (mtx K st ps (fun A => A - 1) (fun A => A) b j) := by
  unfold rwR mtx md
  generalize eqI j (colG K st ps (fun A => A - 1) (2 * b)) = x
  generalize eqI j (colG K st ps (fun A => A - 1) (2 * b + 1)) = y
  generalize eqI j (colG K st ps (fun A => A) (2 * b + 1)) = z
  refine ⟨y + z, ?_⟩
  rw [Int.sub_mul, Int.sub_mul, Int.mul_add]
  omega
theorem arcs_at (hF : rF c K Z w po st ps ho ea) (hA : ∀ k, k < K → ∀ x, st k + x < st (k + 1) → arcF ps st m k x) {b : Nat} (hb : b < c) : m.1 141 b = iI ((colG K st ps (fun A => A - 1) (2 * b) : Nat) : Int) ∧ m.1 142 b = iI ((colG K st ps (fun A => A - 1) (2 * b + 1) : Nat) : Int) ∧ m.1 143 b = iI ((colG K st ps (fun A => A) (2 * b + 1) : Nat) : Int) := by
  obtain ⟨h1, h2, h3⟩ := pkx_is hF (show 2 * b < 2 * c by omega)
  obtain ⟨k1, k2, k3⟩ := pkx_is hF (show 2 * b + 1 < 2 * c by omega)
  have a1 := (hA _ h1 _ h2).1 (by rw [h3]; omega)
  have a2 := (hA _ k1 _ k2).2 (by rw [k3]; omega)
  rw [h3, show 2 * b / 2 = b by omega] at a1
  rw [k3, show (2 * b + 1) / 2 = b by omega] at a2
  exact ⟨a1, a2.1, a2.2⟩
theorem c12_matrix {Q : Int32 → sm_M → Prop} {vs : List Value} {p n : Nat} {m0 : sm_M} (hly : ∀ S, L S → ly S) (hd : 5 ≤ d) (hF : rF c K Z w po st ps ho ea) (hn : n ≤ 80) (hKn : asm ps st K ≤ n) (hp1 : 2 ≤ p) (hp2 : p ≤ 13) (v45 : m0.1 109 45 = iI (c : Nat)) (v58 : m0.1 109 58 = iI (n : Nat)) (hA : ∀ b, b < c → m0.1 141 b = iI ((colG K st ps (fun A => A - 1) (2 * b) : Nat) : Int) ∧ m0.1 142 b = iI ((colG K st ps (fun A => A - 1) (2 * b + 1) : Nat) : Int) ∧ m0.1 143 b = iI ((colG K st ps (fun A => A) (2 * b + 1) : Nat) : Int))
    (h : ∀ m' G, fr smP m0 m' → MV m' n G → GbN c n p G → (∀ b j, b < c → j < n → md p (G b j) (mtx K st ps (fun A => A - 1) (fun A => A) b j)) → gX12_colours_231 E L d vs (iI (p : Nat)) (iI 0) (iI 0) m' Q) :
    ∀ (t b : Nat) (m : sm_M), b + t = c → fr smP m0 m → MV m n (fun i j => if i < b then rwR K p st ps i j % (p : Int) else 0) → gX12_colours_105 E L d vs (iI (p : Nat)) (iI (b : Nat)) m Q := by
  have hc := hF.1
  intro t
  induction t with
  | zero =>
    intro b m hb f1 hV
    have hbc : b = c := by omega
    subst hbc
    have w45 : m.1 109 45 = iI (b : Nat) := (f1.i (by unfold smP; omega)).trans v45
    refine vX12_colours_105 hly hd ?_
    simp (disch := omega) only [forall_eq, true_and, and_true, false_and, and_false, forall_const, true_implies, implies_true, not_true_eq_false, not_false_eq_true, false_implies, if_true, if_false, ↓reduceIte, Int.toNat_natCast, Int.reduceEq, Int.reduceNe, Int.reduceLT, Int.reduceLE, Int.reduceToNat, Int.reduceAdd, Int.reduceSub, Int.reduceMul, Int.reduceNeg, Nat.reduceAdd, Nat.reduceMul, Nat.reduceSub, iI_lit, jI_lit, iI_add, iI_sub, iI_mul, iI_neg, jI_add, jI_sub, jI_mul, jI_neg, nI_i, lN_j, iI_le, iI_lt, iI_eq, jI_le, jI_lt, jI_eq, iI_in, iI_cl, iI_j, jI_i, cN, inN, wI_eq, wI_ne, wJ_1, wJ_eq, wJ_ne, wI_2, wJ_3, iI_div, iI_rem, jI_div, jI_rem, true_or, or_true, false_or, or_false, eq_self, Nat.add_zero, w45, Int.le_refl]
    refine h m _ f1 hV (fun i k h1 h2 => ?_) (fun i k h1 h2 => ?_)
    · simp only [if_pos h1]
      exact ⟨Int.emod_nonneg _ (by omega), Int.emod_lt_of_pos _ (by omega)⟩
    · simp only [if_pos h1]
      exact (md_mod _ _).tr rwR_md
  | succ t ih =>
    intro b m hb f1 hV
    have nx := ih (b + 1)
    clear ih
    have hbc : b < c := by omega
    have w45 : m.1 109 45 = iI (c : Nat) := (f1.i (by unfold smP; omega)).trans v45
    have w58 : m.1 109 58 = iI (n : Nat) := (f1.i (by unfold smP; omega)).trans v58
    have u : ¬ ((c : Int) ≤ (b : Int)) := by omega
    obtain ⟨a1, a2, a3⟩ := hA b hbc
    have l1 := colG_lt hF (fun A => A - 1) (show 2 * b < 2 * c by omega)
    have l2 := colG_lt hF (fun A => A - 1) (show 2 * b + 1 < 2 * c by omega)
    have l3 := colG_lt hF (fun A => A) (show 2 * b + 1 < 2 * c by omega)
    have hR : ∀ k, rwR K p st ps b k = 2 * eqI k (colG K st ps (fun A => A - 1) (2 * b)) + ((p : Int) - 1) * eqI k (colG K st ps (fun A => A - 1) (2 * b + 1)) + ((p : Int) - 1) * eqI k (colG K st ps (fun A => A) (2 * b + 1)) := fun k => rfl
    generalize colG K st ps (fun A => A - 1) (2 * b) = o at a1 l1 hR
    generalize colG K st ps (fun A => A - 1) (2 * b + 1) = e at a2 l2 hR
    generalize colG K st ps (fun A => A) (2 * b + 1) = s at a3 l3 hR
    have b1 : m.1 141 b = iI (o : Nat) := (f1.i (by unfold smP; omega)).trans a1
    have b2 : m.1 142 b = iI (e : Nat) := (f1.i (by unfold smP; omega)).trans a2
    have b3 : m.1 143 b = iI (s : Nat) := (f1.i (by unfold smP; omega)).trans a3
    have e1 : (80 * (b : Int) + (o : Int)).toNat = 80 * b + o := by omega
    have e2 : (80 * (b : Int) + (e : Int)).toNat = 80 * b + e := by omega
    have e3 : (80 * (b : Int) + (s : Int)).toNat = 80 * b + s := by omega
    have V1 := hV.add (v := 2) hn (show b < 24 by omega) (show o < n by omega)
    have V2 := V1.add (v := (p : Int) - 1) hn (show b < 24 by omega) (show e < n by omega)
    have V3 := V2.add (v := (p : Int) - 1) hn (show b < 24 by omega) (show s < n by omega)
    have F3 : fr smP m0 (sm_wI (sm_wI (sm_wI m 144 (80 * b + o) (m.1 144 (80 * b + o) + iI 2)) 144 (80 * b + e) ((sm_wI m 144 (80 * b + o) (m.1 144 (80 * b + o) + iI 2)).1 144 (80 * b + e) + iI ((p : Int) - 1))) 144 (80 * b + s) ((sm_wI (sm_wI m 144 (80 * b + o) (m.1 144 (80 * b + o) + iI 2)) 144 (80 * b + e) ((sm_wI m 144 (80 * b + o) (m.1 144 (80 * b + o) + iI 2)).1 144 (80 * b + e) + iI ((p : Int) - 1))).1 144 (80 * b + s) + iI ((p : Int) - 1))) := ((f1.wI rfl).wI rfl).wI rfl
    have go : ∀ m3 : sm_M, fr smP m0 m3 → MV m3 n (fun i' k' => ((if i' < b then rwR K p st ps i' k' % (p : Int) else 0) + (if i' = b ∧ k' = o then 2 else 0) + if i' = b ∧ k' = e then (p : Int) - 1 else 0) + if i' = b ∧ k' = s then (p : Int) - 1 else 0) → gX12_colours_187 E L d vs (iI (p : Nat)) (iI (b : Nat)) (iI 0) m3 Q := by
      intro m3 f3 V3
      have x58 : m3.1 109 58 = iI (n : Nat) := (f3.i (by unfold smP; omega)).trans v58
      refine c12_rowmod hly hd hn (by omega) hp1 hp2 (H := fun i' k' => ((if i' < b then rwR K p st ps i' k' % (p : Int) else 0) + (if i' = b ∧ k' = o then 2 else 0) + if i' = b ∧ k' = e then (p : Int) - 1 else 0) + if i' = b ∧ k' = s then (p : Int) - 1 else 0) (fun k hk => ?_) x58 (fun m' f4 V4 => ?_) n 0 m3 (by omega) fr.rf (V3.cg (fun i k _ _ => (if_neg (fun q : i = b ∧ k < 0 => Nat.not_lt_zero _ q.2)).symm))
      · simp only [if_neg (Nat.lt_irrefl b)]
        (repeat' split) <;> omega
      · refine nx m' (by omega) (f3.tr f4) (V4.cg (fun i k hi hk => ?_))
        by_cases hib : i = b
        · subst hib
          simp only [if_pos rfl, if_neg (Nat.lt_irrefl i), if_pos (Nat.lt_succ_self i), hR k, true_and, if_true]
          unfold eqI
          congr 1
          (repeat' split) <;> omega
        · simp only [if_neg hib, if_neg (show ¬ (i = b ∧ k = o) from fun q => hib q.1), if_neg (show ¬ (i = b ∧ k = e) from fun q => hib q.1), if_neg (show ¬ (i = b ∧ k = s) from fun q => hib q.1), Int.add_zero]
          by_cases hlt : i < b
          · rw [if_pos hlt, if_pos (by omega)]
          · rw [if_neg hlt, if_neg (by omega)]
    refine vX12_colours_105 hly hd ?_
    simp (disch := omega) only [forall_eq, true_and, and_true, false_and, and_false, forall_const, true_implies, implies_true, not_true_eq_false, not_false_eq_true, false_implies, if_true, if_false, ↓reduceIte, Int.toNat_natCast, Int.reduceEq, Int.reduceNe, Int.reduceLT, Int.reduceLE, Int.reduceToNat, Int.reduceAdd, Int.reduceSub, Int.reduceMul, Int.reduceNeg, Nat.reduceAdd, Nat.reduceMul, Nat.reduceSub, iI_lit, jI_lit, iI_add, iI_sub, iI_mul, iI_neg, jI_add, jI_sub, jI_mul, jI_neg, nI_i, lN_j, iI_le, iI_lt, iI_eq, jI_le, jI_lt, jI_eq, iI_in, iI_cl, iI_j, jI_i, cN, inN, wI_eq, wI_ne, wJ_1, wJ_eq, wJ_ne, wI_2, wJ_3, iI_div, iI_rem, jI_div, jI_rem, true_or, or_true, false_or, or_false, eq_self, Nat.add_zero, w45, u, b1, b2, b3, e1, e2, e3]
    exact ⟨by omega, by omega, by omega, by omega, by omega, by omega, by omega, by omega, by omega, go _ F3 V3⟩
def isPz (z : Int) : Prop := z = 2 ∨ z = 3 ∨ z = 5 ∨ z = 7 ∨ z = 11 ∨ z = 13
theorem c_serves {Q : Int32 → sm_M → Prop} {z : Int} (z1 : -2147483648 ≤ z) (z2 : z ≤ 2147483647) (hd : 1 ≤ d) (h1 : isPz z → Q (iI 1) m) (h0 : ¬ isPz z → Q (iI 0) m) : sm_callI E L mX1_serves d 0 0 [.int (iI z)] m Q := by
  unfold isPz at *
  refine vX1_serves_0 hd ?_
  simp (disch := omega) only [forall_eq, true_and, and_true, false_and, and_false, forall_const, true_implies, implies_true, not_true_eq_false, not_false_eq_true, false_implies, if_true, if_false, ↓reduceIte, Int.toNat_natCast, Int.reduceEq, Int.reduceNe, Int.reduceLT, Int.reduceLE, Int.reduceToNat, Int.reduceAdd, Int.reduceSub, Int.reduceMul, Int.reduceNeg, Nat.reduceAdd, Nat.reduceMul, Nat.reduceSub, iI_lit, jI_lit, iI_add, iI_sub, iI_mul, iI_neg, jI_add, jI_sub, jI_mul, jI_neg, nI_i, lN_j, iI_le, iI_lt, iI_eq, jI_le, jI_lt, jI_eq, iI_in, iI_cl, iI_j, jI_i, cN, inN, wI_eq, wI_ne, wJ_1, wJ_eq, wJ_ne, wI_2, wJ_3, iI_div, iI_rem, jI_div, jI_rem, true_or, or_true, false_or, or_false, eq_self, Nat.add_zero]
  exact ⟨fun q => h1 (by omega), fun q2 => ⟨fun q => h1 (by omega), fun q3 => ⟨fun q => h1 (by omega), fun q5 => ⟨fun q => h1 (by omega), fun q7 => ⟨fun q => h1 (by omega), fun q11 => ⟨fun q => h0 (by omega), fun q => h1 (by omega)⟩⟩⟩⟩⟩⟩
theorem c12_prime {Q : Int32 → sm_M → Prop} {x1 x2 : Int32} {z : Int} (z1 : -2147483648 ≤ z) (z2 : z ≤ 2147483647) (hd : 5 ≤ d) (h1 : isPz z → gX12_colours_38 E L d [.ref (sm_B E + 109), .int x1, .int x2, .int (iI z)] x1 x2 (iI z) (iI 1) m Q) (h0 : ¬ isPz z → gX12_colours_38 E L d [.ref (sm_B E + 109), .int x1, .int x2, .int (iI z)] x1 x2 (iI z) (iI 0) m Q) : sm_callI E L mX12_colours d 0 0 [.ref (sm_B E + 109), .int x1, .int x2, .int (iI z)] m Q := by
  unfold isPz at *
  refine vX12_colours_0 hd ?_
  simp (disch := omega) only [forall_eq, true_and, and_true, false_and, and_false, forall_const, true_implies, implies_true, not_true_eq_false, not_false_eq_true, false_implies, if_true, if_false, ↓reduceIte, Int.toNat_natCast, Int.reduceEq, Int.reduceNe, Int.reduceLT, Int.reduceLE, Int.reduceToNat, Int.reduceAdd, Int.reduceSub, Int.reduceMul, Int.reduceNeg, Nat.reduceAdd, Nat.reduceMul, Nat.reduceSub, iI_lit, jI_lit, iI_add, iI_sub, iI_mul, iI_neg, jI_add, jI_sub, jI_mul, jI_neg, nI_i, lN_j, iI_le, iI_lt, iI_eq, jI_le, jI_lt, jI_eq, iI_in, iI_cl, iI_j, jI_i, cN, inN, wI_eq, wI_ne, wJ_1, wJ_eq, wJ_ne, wI_2, wJ_3, iI_div, iI_rem, jI_div, jI_rem, true_or, or_true, false_or, or_false, eq_self, Nat.add_zero]
  exact ⟨fun q => h1 (by omega), fun q2 => ⟨fun q => h1 (by omega), fun q3 => ⟨fun q => h1 (by omega), fun q5 => ⟨fun q => h1 (by omega), fun q7 => ⟨fun q => h1 (by omega), fun q11 => ⟨fun q => h0 (by omega), fun q => h1 (by omega)⟩⟩⟩⟩⟩⟩
theorem k_colours {x1 x2 x3 : Int32} (hly : ∀ S, L S → ly S) (hL28 : ∀ (m : sm_M) i j, i < 24 → j < 24 → L m.2.2 → L (sm_wR m 28 i (some (29 + j))).2.2) (hd1 : 6 ≤ d1) (hd2 : 5 ≤ d2) (hI : Inv cc m) : sm_callI E L mX11_colours d1 0 0 [.ref (sm_B E + 0), .int x1, .int x2, .int x3] m (fun r m1 => sm_callI E L mX12_colours d2 0 0 [.ref (sm_B E + 109), .int x1, .int x2, .int x3] m1 (fun r2 m2 => r = r2 ∧ Inv cc m2)) := by
  obtain ⟨i, i1, i2, rfl⟩ := iI_ex x1
  obtain ⟨sd, s1, s2, rfl⟩ := iI_ex x2
  obtain ⟨z, z1, z2, rfl⟩ := iI_ex x3
  by_cases hi : 0 ≤ i ∧ i < 6
  rotate_left
  · refine vX11_colours_0 hly hd1 (c_isSlot i1 i2 (by omega) ?_)
    simp (disch := omega) only [forall_eq, true_and, and_true, false_and, and_false, forall_const, true_implies, implies_true, not_true_eq_false, not_false_eq_true, false_implies, if_true, if_false, ↓reduceIte, Int.toNat_natCast, Int.reduceEq, Int.reduceNe, Int.reduceLT, Int.reduceLE, Int.reduceToNat, Int.reduceAdd, Int.reduceSub, Int.reduceMul, Int.reduceNeg, Nat.reduceAdd, Nat.reduceMul, Nat.reduceSub, iI_lit, jI_lit, iI_add, iI_sub, iI_mul, iI_neg, jI_add, jI_sub, jI_mul, jI_neg, nI_i, lN_j, iI_le, iI_lt, iI_eq, jI_le, jI_lt, jI_eq, iI_in, iI_cl, iI_j, jI_i, cN, inN, wI_eq, wI_ne, wJ_1, wJ_eq, wJ_ne, wI_2, wJ_3, iI_div, iI_rem, jI_div, jI_rem, true_or, or_true, false_or, or_false, eq_self, Nat.add_zero, hi]
    refine c_error (e := 1) hly (by decide) (by omega) (c12_prime z1 z2 hd2 (fun _ => vX12_colours_38 hly hd2 (c12_isSlot i1 i2 (by omega) ?_)) (fun _ => vX12_colours_38 hly hd2 (c12_isSlot i1 i2 (by omega) ?_)))
    · simp (disch := omega) only [forall_eq, true_and, and_true, false_and, and_false, forall_const, true_implies, implies_true, not_true_eq_false, not_false_eq_true, false_implies, if_true, if_false, ↓reduceIte, Int.toNat_natCast, Int.reduceEq, Int.reduceNe, Int.reduceLT, Int.reduceLE, Int.reduceToNat, Int.reduceAdd, Int.reduceSub, Int.reduceMul, Int.reduceNeg, Nat.reduceAdd, Nat.reduceMul, Nat.reduceSub, iI_lit, jI_lit, iI_add, iI_sub, iI_mul, iI_neg, jI_add, jI_sub, jI_mul, jI_neg, nI_i, lN_j, iI_le, iI_lt, iI_eq, jI_le, jI_lt, jI_eq, iI_in, iI_cl, iI_j, jI_i, cN, inN, wI_eq, wI_ne, wJ_1, wJ_eq, wJ_ne, wI_2, wJ_3, iI_div, iI_rem, jI_div, jI_rem, true_or, or_true, false_or, or_false, eq_self, Nat.add_zero, hi]
      exact c12_finds (e := 1) hly (by decide) (by omega) ⟨rfl, hI.er frw.rf frw.rf⟩
    · simp (disch := omega) only [forall_eq, true_and, and_true, false_and, and_false, forall_const, true_implies, implies_true, not_true_eq_false, not_false_eq_true, false_implies, if_true, if_false, ↓reduceIte, Int.toNat_natCast, Int.reduceEq, Int.reduceNe, Int.reduceLT, Int.reduceLE, Int.reduceToNat, Int.reduceAdd, Int.reduceSub, Int.reduceMul, Int.reduceNeg, Nat.reduceAdd, Nat.reduceMul, Nat.reduceSub, iI_lit, jI_lit, iI_add, iI_sub, iI_mul, iI_neg, jI_add, jI_sub, jI_mul, jI_neg, nI_i, lN_j, iI_le, iI_lt, iI_eq, jI_le, jI_lt, jI_eq, iI_in, iI_cl, iI_j, jI_i, cN, inN, wI_eq, wI_ne, wJ_1, wJ_eq, wJ_ne, wI_2, wJ_3, iI_div, iI_rem, jI_div, jI_rem, true_or, or_true, false_or, or_false, eq_self, Nat.add_zero, hi]
      exact c12_finds (e := 1) hly (by decide) (by omega) ⟨rfl, hI.er frw.rf frw.rf⟩
  by_cases hs : sd = 0 ∨ sd = 1
  rotate_left
  · refine vX11_colours_0 hly hd1 (c_isSlot i1 i2 (by omega) ?_)
    simp (disch := omega) only [forall_eq, true_and, and_true, false_and, and_false, forall_const, true_implies, implies_true, not_true_eq_false, not_false_eq_true, false_implies, if_true, if_false, ↓reduceIte, Int.toNat_natCast, Int.reduceEq, Int.reduceNe, Int.reduceLT, Int.reduceLE, Int.reduceToNat, Int.reduceAdd, Int.reduceSub, Int.reduceMul, Int.reduceNeg, Nat.reduceAdd, Nat.reduceMul, Nat.reduceSub, iI_lit, jI_lit, iI_add, iI_sub, iI_mul, iI_neg, jI_add, jI_sub, jI_mul, jI_neg, nI_i, lN_j, iI_le, iI_lt, iI_eq, jI_le, jI_lt, jI_eq, iI_in, iI_cl, iI_j, jI_i, cN, inN, wI_eq, wI_ne, wJ_1, wJ_eq, wJ_ne, wI_2, wJ_3, iI_div, iI_rem, jI_div, jI_rem, true_or, or_true, false_or, or_false, eq_self, Nat.add_zero, hi]
    refine c_isChoice s1 s2 (by omega) ?_
    simp (disch := omega) only [forall_eq, true_and, and_true, false_and, and_false, forall_const, true_implies, implies_true, not_true_eq_false, not_false_eq_true, false_implies, if_true, if_false, ↓reduceIte, Int.toNat_natCast, Int.reduceEq, Int.reduceNe, Int.reduceLT, Int.reduceLE, Int.reduceToNat, Int.reduceAdd, Int.reduceSub, Int.reduceMul, Int.reduceNeg, Nat.reduceAdd, Nat.reduceMul, Nat.reduceSub, iI_lit, jI_lit, iI_add, iI_sub, iI_mul, iI_neg, jI_add, jI_sub, jI_mul, jI_neg, nI_i, lN_j, iI_le, iI_lt, iI_eq, jI_le, jI_lt, jI_eq, iI_in, iI_cl, iI_j, jI_i, cN, inN, wI_eq, wI_ne, wJ_1, wJ_eq, wJ_ne, wI_2, wJ_3, iI_div, iI_rem, jI_div, jI_rem, true_or, or_true, false_or, or_false, eq_self, Nat.add_zero, hs]
    refine c_error (e := 1) hly (by decide) (by omega) (c12_prime z1 z2 hd2 (fun _ => vX12_colours_38 hly hd2 (c12_isSlot i1 i2 (by omega) ?_)) (fun _ => vX12_colours_38 hly hd2 (c12_isSlot i1 i2 (by omega) ?_)))
    · simp (disch := omega) only [forall_eq, true_and, and_true, false_and, and_false, forall_const, true_implies, implies_true, not_true_eq_false, not_false_eq_true, false_implies, if_true, if_false, ↓reduceIte, Int.toNat_natCast, Int.reduceEq, Int.reduceNe, Int.reduceLT, Int.reduceLE, Int.reduceToNat, Int.reduceAdd, Int.reduceSub, Int.reduceMul, Int.reduceNeg, Nat.reduceAdd, Nat.reduceMul, Nat.reduceSub, iI_lit, jI_lit, iI_add, iI_sub, iI_mul, iI_neg, jI_add, jI_sub, jI_mul, jI_neg, nI_i, lN_j, iI_le, iI_lt, iI_eq, jI_le, jI_lt, jI_eq, iI_in, iI_cl, iI_j, jI_i, cN, inN, wI_eq, wI_ne, wJ_1, wJ_eq, wJ_ne, wI_2, wJ_3, iI_div, iI_rem, jI_div, jI_rem, true_or, or_true, false_or, or_false, eq_self, Nat.add_zero, hi]
      refine c12_isPart s1 s2 (by omega) ?_
      simp (disch := omega) only [forall_eq, true_and, and_true, false_and, and_false, forall_const, true_implies, implies_true, not_true_eq_false, not_false_eq_true, false_implies, if_true, if_false, ↓reduceIte, Int.toNat_natCast, Int.reduceEq, Int.reduceNe, Int.reduceLT, Int.reduceLE, Int.reduceToNat, Int.reduceAdd, Int.reduceSub, Int.reduceMul, Int.reduceNeg, Nat.reduceAdd, Nat.reduceMul, Nat.reduceSub, iI_lit, jI_lit, iI_add, iI_sub, iI_mul, iI_neg, jI_add, jI_sub, jI_mul, jI_neg, nI_i, lN_j, iI_le, iI_lt, iI_eq, jI_le, jI_lt, jI_eq, iI_in, iI_cl, iI_j, jI_i, cN, inN, wI_eq, wI_ne, wJ_1, wJ_eq, wJ_ne, wI_2, wJ_3, iI_div, iI_rem, jI_div, jI_rem, true_or, or_true, false_or, or_false, eq_self, Nat.add_zero, hs]
      exact c12_finds (e := 1) hly (by decide) (by omega) ⟨rfl, hI.er frw.rf frw.rf⟩
    · simp (disch := omega) only [forall_eq, true_and, and_true, false_and, and_false, forall_const, true_implies, implies_true, not_true_eq_false, not_false_eq_true, false_implies, if_true, if_false, ↓reduceIte, Int.toNat_natCast, Int.reduceEq, Int.reduceNe, Int.reduceLT, Int.reduceLE, Int.reduceToNat, Int.reduceAdd, Int.reduceSub, Int.reduceMul, Int.reduceNeg, Nat.reduceAdd, Nat.reduceMul, Nat.reduceSub, iI_lit, jI_lit, iI_add, iI_sub, iI_mul, iI_neg, jI_add, jI_sub, jI_mul, jI_neg, nI_i, lN_j, iI_le, iI_lt, iI_eq, jI_le, jI_lt, jI_eq, iI_in, iI_cl, iI_j, jI_i, cN, inN, wI_eq, wI_ne, wJ_1, wJ_eq, wJ_ne, wI_2, wJ_3, iI_div, iI_rem, jI_div, jI_rem, true_or, or_true, false_or, or_false, eq_self, Nat.add_zero, hi]
      refine c12_isPart s1 s2 (by omega) ?_
      simp (disch := omega) only [forall_eq, true_and, and_true, false_and, and_false, forall_const, true_implies, implies_true, not_true_eq_false, not_false_eq_true, false_implies, if_true, if_false, ↓reduceIte, Int.toNat_natCast, Int.reduceEq, Int.reduceNe, Int.reduceLT, Int.reduceLE, Int.reduceToNat, Int.reduceAdd, Int.reduceSub, Int.reduceMul, Int.reduceNeg, Nat.reduceAdd, Nat.reduceMul, Nat.reduceSub, iI_lit, jI_lit, iI_add, iI_sub, iI_mul, iI_neg, jI_add, jI_sub, jI_mul, jI_neg, nI_i, lN_j, iI_le, iI_lt, iI_eq, jI_le, jI_lt, jI_eq, iI_in, iI_cl, iI_j, jI_i, cN, inN, wI_eq, wI_ne, wJ_1, wJ_eq, wJ_ne, wI_2, wJ_3, iI_div, iI_rem, jI_div, jI_rem, true_or, or_true, false_or, or_false, eq_self, Nat.add_zero, hs]
      exact c12_finds (e := 1) hly (by decide) (by omega) ⟨rfl, hI.er frw.rf frw.rf⟩
  refine vX11_colours_0 hly hd1 (c_isSlot i1 i2 (by omega) ?_)
  simp (disch := omega) only [forall_eq, true_and, and_true, false_and, and_false, forall_const, true_implies, implies_true, not_true_eq_false, not_false_eq_true, false_implies, if_true, if_false, ↓reduceIte, Int.toNat_natCast, Int.reduceEq, Int.reduceNe, Int.reduceLT, Int.reduceLE, Int.reduceToNat, Int.reduceAdd, Int.reduceSub, Int.reduceMul, Int.reduceNeg, Nat.reduceAdd, Nat.reduceMul, Nat.reduceSub, iI_lit, jI_lit, iI_add, iI_sub, iI_mul, iI_neg, jI_add, jI_sub, jI_mul, jI_neg, nI_i, lN_j, iI_le, iI_lt, iI_eq, jI_le, jI_lt, jI_eq, iI_in, iI_cl, iI_j, jI_i, cN, inN, wI_eq, wI_ne, wJ_1, wJ_eq, wJ_ne, wI_2, wJ_3, iI_div, iI_rem, jI_div, jI_rem, true_or, or_true, false_or, or_false, eq_self, Nat.add_zero, hi]
  refine c_isChoice s1 s2 (by omega) ?_
  simp (disch := omega) only [forall_eq, true_and, and_true, false_and, and_false, forall_const, true_implies, implies_true, not_true_eq_false, not_false_eq_true, false_implies, if_true, if_false, ↓reduceIte, Int.toNat_natCast, Int.reduceEq, Int.reduceNe, Int.reduceLT, Int.reduceLE, Int.reduceToNat, Int.reduceAdd, Int.reduceSub, Int.reduceMul, Int.reduceNeg, Nat.reduceAdd, Nat.reduceMul, Nat.reduceSub, iI_lit, jI_lit, iI_add, iI_sub, iI_mul, iI_neg, jI_add, jI_sub, jI_mul, jI_neg, nI_i, lN_j, iI_le, iI_lt, iI_eq, jI_le, jI_lt, jI_eq, iI_in, iI_cl, iI_j, jI_i, cN, inN, wI_eq, wI_ne, wJ_1, wJ_eq, wJ_ne, wI_2, wJ_3, iI_div, iI_rem, jI_div, jI_rem, true_or, or_true, false_or, or_false, eq_self, Nat.add_zero, hs]
  refine c_serves z1 z2 (by omega) (fun hz => ?_) (fun hz => ?_)
  rotate_left
  · simp (disch := omega) only [forall_eq, true_and, and_true, false_and, and_false, forall_const, true_implies, implies_true, not_true_eq_false, not_false_eq_true, false_implies, if_true, if_false, ↓reduceIte, Int.toNat_natCast, Int.reduceEq, Int.reduceNe, Int.reduceLT, Int.reduceLE, Int.reduceToNat, Int.reduceAdd, Int.reduceSub, Int.reduceMul, Int.reduceNeg, Nat.reduceAdd, Nat.reduceMul, Nat.reduceSub, iI_lit, jI_lit, iI_add, iI_sub, iI_mul, iI_neg, jI_add, jI_sub, jI_mul, jI_neg, nI_i, lN_j, iI_le, iI_lt, iI_eq, jI_le, jI_lt, jI_eq, iI_in, iI_cl, iI_j, jI_i, cN, inN, wI_eq, wI_ne, wJ_1, wJ_eq, wJ_ne, wI_2, wJ_3, iI_div, iI_rem, jI_div, jI_rem, true_or, or_true, false_or, or_false, eq_self, Nat.add_zero]
    refine c_error (e := 1) hly (by decide) (by omega) (c12_prime z1 z2 hd2 (fun q => absurd q hz) (fun _ => vX12_colours_38 hly hd2 (c12_isSlot i1 i2 (by omega) ?_)))
    simp (disch := omega) only [forall_eq, true_and, and_true, false_and, and_false, forall_const, true_implies, implies_true, not_true_eq_false, not_false_eq_true, false_implies, if_true, if_false, ↓reduceIte, Int.toNat_natCast, Int.reduceEq, Int.reduceNe, Int.reduceLT, Int.reduceLE, Int.reduceToNat, Int.reduceAdd, Int.reduceSub, Int.reduceMul, Int.reduceNeg, Nat.reduceAdd, Nat.reduceMul, Nat.reduceSub, iI_lit, jI_lit, iI_add, iI_sub, iI_mul, iI_neg, jI_add, jI_sub, jI_mul, jI_neg, nI_i, lN_j, iI_le, iI_lt, iI_eq, jI_le, jI_lt, jI_eq, iI_in, iI_cl, iI_j, jI_i, cN, inN, wI_eq, wI_ne, wJ_1, wJ_eq, wJ_ne, wI_2, wJ_3, iI_div, iI_rem, jI_div, jI_rem, true_or, or_true, false_or, or_false, eq_self, Nat.add_zero, hi]
    refine c12_isPart s1 s2 (by omega) ?_
    simp (disch := omega) only [forall_eq, true_and, and_true, false_and, and_false, forall_const, true_implies, implies_true, not_true_eq_false, not_false_eq_true, false_implies, if_true, if_false, ↓reduceIte, Int.toNat_natCast, Int.reduceEq, Int.reduceNe, Int.reduceLT, Int.reduceLE, Int.reduceToNat, Int.reduceAdd, Int.reduceSub, Int.reduceMul, Int.reduceNeg, Nat.reduceAdd, Nat.reduceMul, Nat.reduceSub, iI_lit, jI_lit, iI_add, iI_sub, iI_mul, iI_neg, jI_add, jI_sub, jI_mul, jI_neg, nI_i, lN_j, iI_le, iI_lt, iI_eq, jI_le, jI_lt, jI_eq, iI_in, iI_cl, iI_j, jI_i, cN, inN, wI_eq, wI_ne, wJ_1, wJ_eq, wJ_ne, wI_2, wJ_3, iI_div, iI_rem, jI_div, jI_rem, true_or, or_true, false_or, or_false, eq_self, Nat.add_zero, hs]
    exact c12_finds (e := 1) hly (by decide) (by omega) ⟨rfl, hI.er frw.rf frw.rf⟩
  obtain ⟨j, rfl⟩ : ∃ j : Nat, i = (j : Int) := ⟨i.toNat, by omega⟩
  obtain ⟨side, rfl⟩ : ∃ side : Nat, sd = (side : Int) := ⟨sd.toNat, by omega⟩
  obtain ⟨p, rfl⟩ : ∃ p : Nat, z = (p : Int) := ⟨z.toNat, by unfold isPz at hz; omega⟩
  have hp : isP p := by unfold isPz at hz; unfold isP; omega
  have hp2 : 2 ≤ p ∧ p ≤ 13 := by unfold isP at hp; omega
  have hj : j < 6 := by omega
  have hside : side = 0 ∨ side = 1 := by omega
  obtain ⟨t, n, hv, hg, hh⟩ := hI.2.1.1 j hj
  obtain ⟨K, Z, W, po, st, ps, ho, ea, hF, kc, kr⟩ := k_draw (E := E) (L := L) hv hside hly
  have hc24 := hF.1
  have hK := hF.2.1
  have hZ := hF.2.2.1.1
  have h48 := asm_48 hF
  have hi28 : inj28 m := hI.2.1.2.2.2.2.2.2.1
  simp (disch := omega) only [forall_eq, true_and, and_true, false_and, and_false, forall_const, true_implies, implies_true, not_true_eq_false, not_false_eq_true, false_implies, if_true, if_false, ↓reduceIte, Int.toNat_natCast, Int.reduceEq, Int.reduceNe, Int.reduceLT, Int.reduceLE, Int.reduceToNat, Int.reduceAdd, Int.reduceSub, Int.reduceMul, Int.reduceNeg, Nat.reduceAdd, Nat.reduceMul, Nat.reduceSub, iI_lit, jI_lit, iI_add, iI_sub, iI_mul, iI_neg, jI_add, jI_sub, jI_mul, jI_neg, nI_i, lN_j, iI_le, iI_lt, iI_eq, jI_le, jI_lt, jI_eq, iI_in, iI_cl, iI_j, jI_i, cN, inN, wI_eq, wI_ne, wJ_1, wJ_eq, wJ_ne, wI_2, wJ_3, iI_div, iI_rem, jI_div, jI_rem, true_or, or_true, false_or, or_false, eq_self, Nat.add_zero]
  refine ⟨by omega, kc m j 5 _ (by omega) hj hg.1 (fun m1 f1 hC => ?_)⟩
  have s1' : frw scC m m1 := f1.w.mono (fun a k h => dCP_sc h)
  have i28 := f1.w.2.2.2 hi28
  refine vX1_freedom_0 hly (by omega) (c_serves z1 z2 (by omega) (fun _ => ?_) (fun q => absurd hz q))
  simp (disch := omega) only [forall_eq, true_and, and_true, false_and, and_false, forall_const, true_implies, implies_true, not_true_eq_false, not_false_eq_true, false_implies, if_true, if_false, ↓reduceIte, Int.toNat_natCast, Int.reduceEq, Int.reduceNe, Int.reduceLT, Int.reduceLE, Int.reduceToNat, Int.reduceAdd, Int.reduceSub, Int.reduceMul, Int.reduceNeg, Nat.reduceAdd, Nat.reduceMul, Nat.reduceSub, iI_lit, jI_lit, iI_add, iI_sub, iI_mul, iI_neg, jI_add, jI_sub, jI_mul, jI_neg, nI_i, lN_j, iI_le, iI_lt, iI_eq, jI_le, jI_lt, jI_eq, iI_in, iI_cl, iI_j, jI_i, cN, inN, wI_eq, wI_ne, wJ_1, wJ_eq, wJ_ne, wI_2, wJ_3, iI_div, iI_rem, jI_div, jI_rem, true_or, or_true, false_or, or_false, eq_self, Nat.add_zero]
  refine c_write hly (by omega) hp2.1 hp2.2 i28 hF hC (fun m2 G f2 g1 g2 g3 => ?_)
  have hC2 : rC m2 (crs t n) K Z W po st ps ho ea := hC.fr f2 (fun a k h1 h2 => by unfold grP; omega)
  rw [hC2.1, hC2.2.2.1]
  refine c_rank hly hL28 (by omega) hc24 hp h48 (f2.w.2.2.2 i28) g1 g2 (fun m3 G' r col f3 hE hend hrc => ?_)
  have s3 : frw scC m m3 := s1'.tr ((f2.w.mono (fun a k h => grP_sc h)).tr (f3.mono (fun a k h => grP_sc h)))
  have hh3 : hl m3 j t n := hh.frw s3 (by unfold scC; omega) (fun k _ => by unfold scC; omega)
  refine c12_prime z1 z2 hd2 (fun _ => vX12_colours_38 hly hd2 (c12_isSlot i1 i2 (by omega) ?_)) (fun q => absurd hz q)
  simp (disch := omega) only [forall_eq, true_and, and_true, false_and, and_false, forall_const, true_implies, implies_true, not_true_eq_false, not_false_eq_true, false_implies, if_true, if_false, ↓reduceIte, Int.toNat_natCast, Int.reduceEq, Int.reduceNe, Int.reduceLT, Int.reduceLE, Int.reduceToNat, Int.reduceAdd, Int.reduceSub, Int.reduceMul, Int.reduceNeg, Nat.reduceAdd, Nat.reduceMul, Nat.reduceSub, iI_lit, jI_lit, iI_add, iI_sub, iI_mul, iI_neg, jI_add, jI_sub, jI_mul, jI_neg, nI_i, lN_j, iI_le, iI_lt, iI_eq, jI_le, jI_lt, jI_eq, iI_in, iI_cl, iI_j, jI_i, cN, inN, wI_eq, wI_ne, wJ_1, wJ_eq, wJ_ne, wI_2, wJ_3, iI_div, iI_rem, jI_div, jI_rem, true_or, or_true, false_or, or_false, eq_self, Nat.add_zero, hi]
  refine c12_isPart s1 s2 (by omega) ?_
  simp (disch := omega) only [forall_eq, true_and, and_true, false_and, and_false, forall_const, true_implies, implies_true, not_true_eq_false, not_false_eq_true, false_implies, if_true, if_false, ↓reduceIte, Int.toNat_natCast, Int.reduceEq, Int.reduceNe, Int.reduceLT, Int.reduceLE, Int.reduceToNat, Int.reduceAdd, Int.reduceSub, Int.reduceMul, Int.reduceNeg, Nat.reduceAdd, Nat.reduceMul, Nat.reduceSub, iI_lit, jI_lit, iI_add, iI_sub, iI_mul, iI_neg, jI_add, jI_sub, jI_mul, jI_neg, nI_i, lN_j, iI_le, iI_lt, iI_eq, jI_le, jI_lt, jI_eq, iI_in, iI_cl, iI_j, jI_i, cN, inN, wI_eq, wI_ne, wJ_1, wJ_eq, wJ_ne, wI_2, wJ_3, iI_div, iI_rem, jI_div, jI_rem, true_or, or_true, false_or, or_false, eq_self, Nat.add_zero, hs]
  refine kr m3 j 4 _ (by omega) hj hh3 (fun m4 f4 hM => ?_)
  refine c12_layArcs hly (by omega) hF hM (fun m5 f5 hM5 v58 hA => ?_)
  have hA5 := fun b (hb : b < crs t n) => arcs_at hF hA hb
  refine c12_szero (n := Z + asm ps st K) hly hd2 (by omega) (fun m6 f6 V6 => ?_) 1920 0 m5 (by omega) fr.rf (fun q hq => absurd hq (Nat.not_lt_zero _))
  have w45 : m6.1 109 45 = iI (crs t n : Nat) := (f6.i (by unfold smP; omega)).trans hM5.1
  have w58 : m6.1 109 58 = iI ((Z + asm ps st K : Nat) : Int) := (f6.i (by unfold smP; omega)).trans v58
  refine c12_matrix (n := Z + asm ps st K) hly hd2 hF (by omega) (by omega) hp2.1 hp2.2 w45 w58 (fun b hb => ⟨(f6.i (by unfold smP; omega)).trans (hA5 b hb).1, (f6.i (by unfold smP; omega)).trans (hA5 b hb).2.1, (f6.i (by unfold smP; omega)).trans (hA5 b hb).2.2⟩) (fun m7 G7 f7 V7 b7 h7 => ?_) (crs t n) 0 m6 (by omega) fr.rf (V6.cg (fun i k _ _ => by rw [if_neg (Nat.not_lt_zero _)]))
  have x45 : m7.1 109 45 = iI (crs t n : Nat) := (f7.i (by unfold smP; omega)).trans w45
  have x58 : m7.1 109 58 = iI ((Z + asm ps st K : Nat) : Int) := (f7.i (by unfold smP; omega)).trans w58
  refine c12_rank (n := Z + asm ps st K) hly hd2 hc24 hp (by omega) x45 x58 V7 b7 (fun m8 G8 r8 col8 f8 hE8 hend8 hrc8 => ?_)
  have sM : frw scM m3 m8 := (f4.w.mono (fun a k h => dMP_sc h)).tr ((f5.w.mono (fun a k h => arP_sc h)).tr ((f6.w.mono (fun a k h => smP_sc h)).tr ((f7.w.mono (fun a k h => smP_sc h)).tr (f8.w.mono (fun a k h => smP_sc h)))))
  have hrr : r = r8 := by
    refine rank_eq (M := G) (M' := G7) hp2.1 (show asm ps st K ≤ Z + asm ps st K by omega) hE hend hE8 hend8 (shf K st ps) (fun j hj => shf_lt hj) (fun j hj => shf_sur hj) (fun i j hi hj => ?_) (fun i j hi hj1 hj2 => ?_)
    · refine (h7 i j hi (by omega)).tr ?_
      rw [← mtx_sh hF hi hj]
      exact (g3 i (shf K st ps j) hi (by have := shf_lt hj; omega)).sy
    · have := h7 i j hi hj2
      rw [mtx_out hF hi hj1] at this
      exact this
  refine ⟨?_, hI.sc s3 sM⟩
  rw [hrr]
  simp (disch := omega) only [forall_eq, true_and, and_true, false_and, and_false, forall_const, true_implies, implies_true, not_true_eq_false, not_false_eq_true, false_implies, if_true, if_false, ↓reduceIte, Int.toNat_natCast, Int.reduceEq, Int.reduceNe, Int.reduceLT, Int.reduceLE, Int.reduceToNat, Int.reduceAdd, Int.reduceSub, Int.reduceMul, Int.reduceNeg, Nat.reduceAdd, Nat.reduceMul, Nat.reduceSub, iI_lit, jI_lit, iI_add, iI_sub, iI_mul, iI_neg, jI_add, jI_sub, jI_mul, jI_neg, nI_i, lN_j, iI_le, iI_lt, iI_eq, jI_le, jI_lt, jI_eq, iI_in, iI_cl, iI_j, jI_i, cN, inN, wI_eq, wI_ne, wJ_1, wJ_eq, wJ_ne, wI_2, wJ_3, iI_div, iI_rem, jI_div, jI_rem, true_or, or_true, false_or, or_false, eq_self, Nat.add_zero]
  congr 1
end K19
