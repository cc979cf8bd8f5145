/-! the class makes a list -/
theorem shl_all : ∀ s : Fin 13, 2 ≤ s.val → (1 : Int32) <<< ((iI (s.val : Int) - 2) &&& 31) = iI ((2 ^ (s.val - 2) : Nat) : Int) := by decide +kernel
theorem bit_all : ∀ b : Fin 10, ∀ w : Fin 1024, ((iI (w.val : Int)) >>> (iI (b.val : Int) &&& 31)) &&& 1 = iI ((w.val / 2 ^ b.val % 2 : Nat) : Int) := by decide +kernel
section MAD
variable {E : sm_E} {L : sm_S → Prop} {Y : sm_Y} {d mc ms : Nat} {vs : List Value} {pc : Nat} {lv : List (Nat × Value)} {m : sm_M} {cells slots : Nat}
/-- what holds of the shape may be used -/
theorem sm_hyp {st : List Value} {Q : List Frame → State → State → Prop} (k : sm_wf m.2.2 → L m.2.2 → sm_go E L Y d mc ms vs pc lv st m cells slots Q) : sm_go E L Y d mc ms vs pc lv st m cells slots Q := by
  intro p e s x below meth c H locs ls hat hP hS hl
  exact k hP.2.2.1 hP.2.2.2 p e s x below meth c H locs ls hat hP hS hl
theorem sm_hypc {Q0 : Option Value → sm_M → Prop} (k : sm_wf m.2.2 → L m.2.2 → sm_call E L Y d mc ms vs m Q0) : sm_call E L Y d mc ms vs m Q0 := by
  intro p e ha hc hk s x args below hf hap hp hK
  obtain ⟨g1, g2, g3, g4⟩ := id hp
  exact k g4.2.2.1 g4.2.2.2 p e ha hc hk s x args below hf hap hp hK
end MAD
def gdW (k w : Nat) : Prop := nmB ((wv k w).1 : Int) ((wv k w).2 : Int) = ((wv k w).2 : Int)
def cdW (k w : Nat) : Nat := 1024 * (wv k w).1 + (wv k w).2
/-- the row so far -/
def lrw (m : sm_M) (r k W n : Nat) : Prop := n ≤ W ∧ ∃ g : Nat → Nat, rwI m r n g ∧ (∀ i, i < n → ∃ w, w < W ∧ gdW k w ∧ g i = cdW k w) ∧ (∀ w, w < W → gdW k w → ∃ i, i < n ∧ g i = cdW k w) ∧ ∀ i j, i < n → j < n → g i = g j → i = j
theorem wv_bd {k w : Nat} (hk : k ≤ 10) : (wv k w).1 ≤ 233 := by
  obtain ⟨h1, h2, h3, h4⟩ := wv_is w k
  exact eS_bd h1 h2 h3 (by omega)
theorem cdW_inj {k w w' : Nat} (hk : k ≤ 10) (hw : w < 2 ^ k) (hw' : w' < 2 ^ k) (e : cdW k w = cdW k w') : w = w' := by
  have b1 := wv_bd (w := w) hk
  have b2 := wv_bd (w := w') hk
  have h1 := (wv_is w k).2.1
  have h2 := (wv_is w' k).2.1
  unfold cdW at e
  exact wv_inj k w w' hw hw' (Prod.ext (by omega) (by omega))
section MD2
variable {E : sm_E} {L : sm_S → Prop} {d : Nat} {vs : List Value}
theorem c_ways {Q : Nat → sm_M → Prop} {r s : Nat} {m0 : sm_M} (hT : ∀ S, L S → sm_K S r = 11 ∧ sm_N S r = 2 ^ (s - 2)) (hd : 3 ≤ d) (hs1 : 2 ≤ s) (hs2 : s ≤ 12)
    (h : ∀ m' n, fr (fun b _ => b = r) m0 m' → lrw m' r (s - 2) (2 ^ (s - 2)) n → sm_callV E L mX5_sort 1 0 0 [.ref (sm_B E + r), .int (iI (n : Nat))] m' (fun m_1 => sm_callA E L mJ7_copyOf_59c91 2 1 1024 [.ref (sm_B E + r), .int (iI (n : Nat))] m_1 (fun r_3 m_2 => Q r_3 m_2))) :
    ∀ (t W n : Nat) (m : sm_M), W + t = 2 ^ (s - 2) → fr (fun b _ => b = r) m0 m → lrw m r (s - 2) W n → gX5_made_15 E L d vs (iI (s : Nat)) (iI ((2 ^ (s - 2) : Nat) : Int)) r (iI (n : Nat)) (iI (W : Nat)) (2 ^ (s - 2)) m Q := by
  have h1024 : 2 ^ (s - 2) ≤ 1024 := by
    have : 2 ^ (s - 2) ≤ 2 ^ 10 := Nat.pow_le_pow_right (by decide) (by omega)
    exact this
  intro t
  induction t with
  | zero =>
    intro W n m hW f1 hr
    have hWe : W = 2 ^ (s - 2) := by omega
    rw [hWe] at hr ⊢
    have h9 := h m n f1 hr
    have hn := hr.1
    generalize 2 ^ (s - 2) = N at *
    refine vX5_made_15 h1024 hd hT ?_
    simp (disch := omega) only [forall_eq, true_and, and_true, false_and, and_false, forall_const, true_implies, implies_true, not_true_eq_false, not_false_eq_true, false_implies, if_true, if_false, ↓reduceIte, Int.toNat_natCast, Int.reduceEq, Int.reduceNe, Int.reduceLT, Int.reduceLE, Int.reduceToNat, Int.reduceAdd, Int.reduceSub, Int.reduceMul, Int.reduceNeg, Nat.reduceAdd, Nat.reduceMul, Nat.reduceSub, iI_lit, jI_lit, iI_add, iI_sub, iI_mul, iI_neg, jI_add, jI_sub, jI_mul, jI_neg, nI_i, lN_j, iI_le, iI_lt, iI_eq, jI_le, jI_lt, jI_eq, iI_in, iI_cl, iI_j, jI_i, cN, inN, wI_eq, wI_ne, wJ_1, wJ_eq, wJ_ne, wI_2, wJ_3, iI_div, iI_rem, jI_div, jI_rem, true_or, or_true, false_or, or_false, eq_self, Nat.add_zero, Int.le_refl]
    exact h9
  | succ t ih =>
    intro W n m hW f1 hr
    have nx := ih (W + 1)
    clear ih
    have hWl : W < 2 ^ (s - 2) := by omega
    obtain ⟨hnW, g, g1, g2, g3, g4⟩ := hr
    have bits : ∀ (t2 b : Nat), b + t2 = s - 2 → gX5_made_30 E L d vs (iI (s : Nat)) (iI ((2 ^ (s - 2) : Nat) : Int)) r (iI (n : Nat)) (iI (W : Nat)) (iI ((wv b W).1 : Nat)) (iI ((wv b W).2 : Nat)) (iI (b : Nat)) (2 ^ (s - 2)) m Q := by
      intro t2
      induction t2 with
      | zero =>
        intro b hb
        have hbs : b = s - 2 := by omega
        rw [hbs]
        obtain ⟨w1, w2, w3, w4⟩ := wv_is W (s - 2)
        have wb := wv_bd (k := s - 2) (w := W) (by omega)
        have hnm : nm ((wv (s - 2) W).1 : Int) ((wv (s - 2) W).2 : Int) = (((wv (s - 2) W).1 : Int), nmB ((wv (s - 2) W).1 : Int) ((wv (s - 2) W).2 : Int)) := by
          unfold nm
          rw [if_neg (by omega), if_neg (by omega), if_pos (by omega), Int.natAbs_natCast]
        have hN := (nmB_is (p := ((wv (s - 2) W).1 : Int)) (q := ((wv (s - 2) W).2 : Int)) (by omega) (gcd_cop w3)).bd
        have hcd : ((wv (s - 2) W).1 : Int) * 1024 + ((wv (s - 2) W).2 : Int) = ((cdW (s - 2) W : Nat) : Int) := by unfold cdW; omega
        have e2 : (s : Int) - 2 ≤ ((s - 2 : Nat) : Int) := by omega
        have gdiff : (gdW (s - 2) W) = (nmB ((wv (s - 2) W).1 : Int) ((wv (s - 2) W).2 : Int) = ((wv (s - 2) W).2 : Int)) := rfl
        have cinj := fun w' (hw' : w' < 2 ^ (s - 2)) => cdW_inj (k := s - 2) (w := w') (w' := W) (by omega) hw' hWl
        generalize 2 ^ (s - 2) = N at *
        refine vX5_made_30 h1024 hd hT ?_
        simp (disch := omega) only [forall_eq, true_and, and_true, false_and, and_false, forall_const, true_implies, implies_true, not_true_eq_false, not_false_eq_true, false_implies, if_true, if_false, ↓reduceIte, Int.toNat_natCast, Int.reduceEq, Int.reduceNe, Int.reduceLT, Int.reduceLE, Int.reduceToNat, Int.reduceAdd, Int.reduceSub, Int.reduceMul, Int.reduceNeg, Nat.reduceAdd, Nat.reduceMul, Nat.reduceSub, iI_lit, jI_lit, iI_add, iI_sub, iI_mul, iI_neg, jI_add, jI_sub, jI_mul, jI_neg, nI_i, lN_j, iI_le, iI_lt, iI_eq, jI_le, jI_lt, jI_eq, iI_in, iI_cl, iI_j, jI_i, cN, inN, wI_eq, wI_ne, wJ_1, wJ_eq, wJ_ne, wI_2, wJ_3, iI_div, iI_rem, jI_div, jI_rem, true_or, or_true, false_or, or_false, eq_self, Nat.add_zero, e2]
        refine c_named (by omega) (by omega) (by omega) (by omega) w3 (by omega) ?_
        rw [hnm]
        refine c_bottomOf (by omega) ?_
        simp (disch := omega) only [forall_eq, true_and, and_true, false_and, and_false, forall_const, true_implies, implies_true, not_true_eq_false, not_false_eq_true, false_implies, if_true, if_false, ↓reduceIte, Int.toNat_natCast, Int.reduceEq, Int.reduceNe, Int.reduceLT, Int.reduceLE, Int.reduceToNat, Int.reduceAdd, Int.reduceSub, Int.reduceMul, Int.reduceNeg, Nat.reduceAdd, Nat.reduceMul, Nat.reduceSub, iI_lit, jI_lit, iI_add, iI_sub, iI_mul, iI_neg, jI_add, jI_sub, jI_mul, jI_neg, nI_i, lN_j, iI_le, iI_lt, iI_eq, jI_le, jI_lt, jI_eq, iI_in, iI_cl, iI_j, jI_i, cN, inN, wI_eq, wI_ne, wJ_1, wJ_eq, wJ_ne, wI_2, wJ_3, iI_div, iI_rem, jI_div, jI_rem, true_or, or_true, false_or, or_false, eq_self, Nat.add_zero, hcd]
        refine ⟨fun q => ?_, fun q => ?_⟩
        · refine nx n m (by omega) f1 ⟨by omega, g, g1, fun i hi => ?_, fun w hw hg => ?_, g4⟩
          · obtain ⟨w, a1, a2⟩ := g2 i hi
            exact ⟨w, by omega, a2⟩
          · by_cases hwW : w = W
            · rw [hwW] at hg
              exact absurd hg q
            · exact g3 w (by omega) hg
        · refine ⟨by omega, nx (n + 1) (sm_wI m r n (iI ((cdW (s - 2) W : Nat) : Int))) (by omega) (f1.wI rfl) ⟨by omega, upN g n (cdW (s - 2) W), ?_, fun i hi => ?_, fun w hw hg => ?_, fun i j hi hj e => ?_⟩⟩
          · intro i hi
            rw [upN_at]
            by_cases hin : i = n
            · rw [if_pos hin, wI_eq rfl hin]
            · rw [if_neg hin, wI_ne (Or.inr hin)]
              exact g1 i (by omega)
          · rw [upN_at]
            by_cases hin : i = n
            · rw [if_pos hin]
              exact ⟨W, by omega, q, rfl⟩
            · rw [if_neg hin]
              obtain ⟨w, a1, a2⟩ := g2 i (by omega)
              exact ⟨w, by omega, a2⟩
          · by_cases hwW : w = W
            · exact ⟨n, by omega, by rw [upN_eq, hwW]⟩
            · obtain ⟨i, a1, a2⟩ := g3 w (by omega) hg
              exact ⟨i, by omega, by rw [upN_ne (by omega)]; exact a2⟩
          · rw [upN_at, upN_at] at e
            by_cases hin : i = n
            · by_cases hjn : j = n
              · omega
              · rw [if_pos hin, if_neg hjn] at e
                obtain ⟨w, a1, _, a3⟩ := g2 j (by omega)
                have := cinj w (by omega) (by omega)
                omega
            · rw [if_neg hin] at e
              by_cases hjn : j = n
              · rw [if_pos hjn] at e
                obtain ⟨w, a1, _, a3⟩ := g2 i (by omega)
                have := cinj w (by omega) (by omega)
                omega
              · rw [if_neg hjn] at e
                exact g4 i j (by omega) (by omega) e
      | succ t2 ih2 =>
        intro b hb
        have n2 := ih2 (b + 1) (by omega)
        clear ih2
        have e2 : ¬ ((s : Int) - 2 ≤ (b : Int)) := by omega
        have hbit := bit_all ⟨b, by omega⟩ ⟨W, by omega⟩
        simp only at hbit
        have hml : W / 2 ^ b % 2 < 2 := Nat.mod_lt _ (by decide)
        have e3 : wv (b + 1) W = ((wv b W).1 + (wv b W).2, if W / 2 ^ b % 2 = 0 then (wv b W).2 else (wv b W).1) := rfl
        rw [e3] at n2
        obtain ⟨w1, w2, w3, w4⟩ := wv_is W b
        have wb := wv_bd (k := b) (w := W) (by omega)
        generalize W / 2 ^ b % 2 = bt at *
        generalize 2 ^ (s - 2) = N at *
        refine vX5_made_30 h1024 hd hT ?_
        rw [hbit]
        simp (disch := omega) only [forall_eq, true_and, and_true, false_and, and_false, forall_const, true_implies, implies_true, not_true_eq_false, not_false_eq_true, false_implies, if_true, if_false, ↓reduceIte, Int.toNat_natCast, Int.reduceEq, Int.reduceNe, Int.reduceLT, Int.reduceLE, Int.reduceToNat, Int.reduceAdd, Int.reduceSub, Int.reduceMul, Int.reduceNeg, Nat.reduceAdd, Nat.reduceMul, Nat.reduceSub, iI_lit, jI_lit, iI_add, iI_sub, iI_mul, iI_neg, jI_add, jI_sub, jI_mul, jI_neg, nI_i, lN_j, iI_le, iI_lt, iI_eq, jI_le, jI_lt, jI_eq, iI_in, iI_cl, iI_j, jI_i, cN, inN, wI_eq, wI_ne, wJ_1, wJ_eq, wJ_ne, wI_2, wJ_3, iI_div, iI_rem, jI_div, jI_rem, true_or, or_true, false_or, or_false, eq_self, Nat.add_zero, e2]
        refine ⟨fun q => ?_, fun q => ?_⟩
        · rw [if_neg (by omega)] at n2
          exact n2
        · rw [if_pos (by omega)] at n2
          exact n2
    have u : ¬ (((2 ^ (s - 2) : Nat) : Int) ≤ (W : Int)) := by omega
    have b0 := bits (s - 2) 0 (by omega)
    generalize 2 ^ (s - 2) = N at *
    refine vX5_made_15 h1024 hd hT ?_
    simp (disch := omega) only [forall_eq, true_and, and_true, false_and, and_false, forall_const, true_implies, implies_true, not_true_eq_false, not_false_eq_true, false_implies, if_true, if_false, ↓reduceIte, Int.toNat_natCast, Int.reduceEq, Int.reduceNe, Int.reduceLT, Int.reduceLE, Int.reduceToNat, Int.reduceAdd, Int.reduceSub, Int.reduceMul, Int.reduceNeg, Nat.reduceAdd, Nat.reduceMul, Nat.reduceSub, iI_lit, jI_lit, iI_add, iI_sub, iI_mul, iI_neg, jI_add, jI_sub, jI_mul, jI_neg, nI_i, lN_j, iI_le, iI_lt, iI_eq, jI_le, jI_lt, jI_eq, iI_in, iI_cl, iI_j, jI_i, cN, inN, wI_eq, wI_ne, wJ_1, wJ_eq, wJ_ne, wI_2, wJ_3, iI_div, iI_rem, jI_div, jI_rem, true_or, or_true, false_or, or_false, eq_self, Nat.add_zero, u]
    exact b0
/-- all below the top stays -/
def sam (m m' : sm_M) (T : Nat) : Prop := ∀ a, a < T → m'.1 a = m.1 a ∧ m'.2.1 a = m.2.1 a ∧ m'.2.2.1 a = m.2.2.1 a ∧ sm_K m'.2.2 a = sm_K m.2.2 a ∧ sm_N m'.2.2 a = sm_N m.2.2 a
theorem c_made {Q : Nat → sm_M → Prop} {s : Nat} {m : sm_M} (hd : 3 ≤ d) (hs1 : 2 ≤ s) (hs2 : s ≤ 12) (h : ∀ m' q n g, sam m m' (sm_top m.2.2) → sm_top m.2.2 ≤ q → 149 ≤ q → sm_K m'.2.2 q = 11 → sm_N m'.2.2 q = n → enm s n g → (∀ k, k < n → m'.1 q k = iI (g k : Nat)) → Q q m') : sm_callA E lz mX5_made d 2 2048 [.int (iI (s : Nat))] m Q := by
  have h1024 : 2 ^ (s - 2) ≤ 1024 := by
    have : 2 ^ (s - 2) ≤ 2 ^ 10 := Nat.pow_le_pow_right (by decide) (by omega)
    exact this
  have hN2 : ∀ N : Nat, N ≤ 1024 → (¬ iI (N : Int) < 0) ∧ (iI (N : Int)).toNatClampNeg = N := fun N hN => ⟨by rw [iI_lit, iI_lt (by omega) (by omega) (by omega) (by omega)]; omega, by rw [iI_cl (by omega) (by omega)]; omega⟩
  have hsh := shl_all ⟨s, by omega⟩ hs1
  simp only at hsh
  refine sm_enter (by decide +kernel) (by simp [lg_sl, Value.category]) (sm_hyp (fun hwf hlz => ?_))
  have ht := ly_top hlz
  refine sm_iconst (Y := mX5_made) (pc := 0) 1 (by decide) dX5_made_0 ?_
  refine sm_iload_n (Y := mX5_made) (pc := 1) 0 0 rfl rfl dX5_made_1 ?_
  refine sm_iconst (Y := mX5_made) (pc := 2) 2 (by decide) dX5_made_2 ?_
  refine sm_isub (Y := mX5_made) (pc := 3) dX5_made_3 ?_
  refine sm_ishl (Y := mX5_made) (pc := 4) dX5_made_4 ?_
  refine sm_istore_n (Y := mX5_made) (pc := 5) (fun y => [(1, .int y), (0, .int (iI (s : Nat)))]) 1 rfl (by decide) (fun _ => rfl) dX5_made_5 (fun y ey => ?_)
  rw [hsh] at ey
  subst ey
  refine sm_iload_n (Y := mX5_made) (pc := 6) 0 1 rfl rfl dX5_made_6 ?_
  refine sm_newI (Y := mX5_made) (pc := 7) (N := 2 ^ (s - 2)) wa_int (hN2 _ h1024).1 (hN2 _ h1024).2 (by omega) (lz_nw (by decide)) (by omega) (by omega) dX5_made_7 (fun m1 e1 => ?_)
  obtain ⟨n1, n2, n3, n4, n5⟩ := sm_nw_at (m := m) (k := 11) (n := 2 ^ (s - 2))
  have hne := fun b (hb : b ≠ sm_top m.2.2) => sm_nw_ne (m := m) (k := 11) (n := 2 ^ (s - 2)) hb
  have htop : sm_top (sm_nw m 11 (2 ^ (s - 2))).2.2 = sm_top m.2.2 + 1 := rfl
  rw [← e1] at n1 n2 n3 n4 n5 htop
  obtain ⟨r, hr⟩ : ∃ r, r = sm_top m.2.2 := ⟨_, rfl⟩
  rw [← hr] at n1 n2 n3 n4 n5 htop ⊢
  refine sm_astore_n (Y := mX5_made) (pc := 9) [(2, .ref (sm_B E + r)), (1, .int (iI ((2 ^ (s - 2) : Nat) : Int))), (0, .int (iI (s : Nat)))] 2 rfl (by decide) rfl dX5_made_9 ?_
  refine sm_iconst (Y := mX5_made) (pc := 10) 0 (by decide) dX5_made_10 ?_
  refine sm_istore0_n (Y := mX5_made) (pc := 11) [(3, .int 0), (2, .ref (sm_B E + r)), (1, .int (iI ((2 ^ (s - 2) : Nat) : Int))), (0, .int (iI (s : Nat)))] 3 rfl (by decide) rfl dX5_made_11 ?_
  refine sm_iconst (Y := mX5_made) (pc := 12) 0 (by decide) dX5_made_12 ?_
  refine sm_istore0 (Y := mX5_made) (pc := 13) [(4, .int 0), (3, .int 0), (2, .ref (sm_B E + r)), (1, .int (iI ((2 ^ (s - 2) : Nat) : Int))), (0, .int (iI (s : Nat)))] 4 (by decide) rfl dX5_made_13 ?_
  refine sm_sub [4, 3, 2, 1, 0] rfl ?_
  refine sm_widen (k := 1) (n := 2 ^ (s - 2)) (by omega) (by omega) ?_
  refine sm_sw (L' := fun S => lz S ∧ sm_K S r = 11 ∧ sm_N S r = 2 ^ (s - 2)) (fun _ hl => ⟨hl, n4, n5⟩) (fun S hS => hS.1) ?_
  show gX5_made_15 E (fun S => lz S ∧ sm_K S r = 11 ∧ sm_N S r = 2 ^ (s - 2)) d [.int (iI (s : Nat))] (iI (s : Nat)) (iI ((2 ^ (s - 2) : Nat) : Int)) r (iI 0) (iI 0) (2 ^ (s - 2)) m1 Q
  refine c_ways (r := r) (s := s) (fun S hS => hS.2) hd hs1 hs2 (fun m2 n f2 hl2 => ?_) (2 ^ (s - 2)) 0 0 m1 (by omega) fr.rf ⟨Nat.le_refl _, fun _ => 0, fun i hi => absurd hi (Nat.not_lt_zero _), fun i hi => absurd hi (Nat.not_lt_zero _), fun w hw => absurd hw (Nat.not_lt_zero _), fun i j hi => absurd hi (Nat.not_lt_zero _)⟩
  obtain ⟨hnW, g, g1, g2, g3, g4⟩ := hl2
  refine c_sort (g0 := g) (fun S hS => hS.2) (by omega) hnW h1024 (fun k hk => ?_) g4 g1 (fun m3 g' f3 h3 hp hst => ?_)
  · obtain ⟨w, _, _, e⟩ := g2 k hk
    have b1 := wv_bd (k := s - 2) (w := w) (by omega)
    have b2 := (wv_is w (s - 2)).2.1
    rw [e]
    unfold cdW
    omega
  have sh3 : m3.2.2 = m1.2.2 := f3.2.trans f2.2
  have f13 : fr (fun b _ => b = r) m1 m3 := f2.tr f3
  rw [← nI_i]
  refine c_copyOf (n := 2 ^ (s - 2)) (by omega) (by rw [sh3]; exact n4) (by rw [sh3]; exact n5) (by rw [sh3, htop]; omega) hnW h1024 (fun k hk => ?_) (fun f hf => ?_)
  · have hne3 := sm_nw_ne (m := m3) (k := 11) (n := k) (b := r) (by rw [sh3, htop]; omega)
    exact ⟨lz_nw (by decide) hk.1, hne3.2.2.2.1.trans hk.2.1, hne3.2.2.2.2.trans hk.2.2⟩
  have ht3 : sm_top m3.2.2 = r + 1 := by rw [sh3, htop]
  obtain ⟨k1, k2, k3, k4, k5⟩ := sm_nw_at (m := m3) (k := 11) (n := n)
  have hkk : s - 2 + 2 = s := by omega
  refine h _ (sm_top m3.2.2) n g' (fun a ha => ?_) (by omega) (by omega) k4 k5 ⟨hst, fun i hi => ?_, fun a b hab => ?_⟩ (fun k hk => ?_)
  · have ha3 : a ≠ sm_top m3.2.2 := by omega
    obtain ⟨o1, o2, o3, o4, o5⟩ := sm_nw_ne (m := m3) (k := 11) (n := n) ha3
    obtain ⟨p1, p2, p3, p4, p5⟩ := hne a (by omega)
    have q1 : m3.1 a = m1.1 a := funext fun k => f13.i (by omega)
    have q2 : m3.2.1 a = m1.2.1 a := funext fun k => f13.j (by omega)
    rw [← e1] at p1 p2 p3 p4 p5
    refine ⟨?_, ?_, ?_, ?_, ?_⟩
    · show (if a = sm_top m3.2.2 then f else (sm_nw m3 11 n).1 a) = _
      rw [if_neg ha3, o1, q1, p1]
    · exact o2.trans (q2.trans p2)
    · exact o3.trans (by rw [sh3]; exact p3)
    · exact o4.trans (by rw [sh3]; exact p4)
    · exact o5.trans (by rw [sh3]; exact p5)
  · obtain ⟨k, hk, e⟩ := hp.1 i hi
    obtain ⟨w, hw, hg, e2⟩ := g2 k hk
    obtain ⟨w1, w2, w3, w4⟩ := wv_is w (s - 2)
    exact ⟨(wv (s - 2) w).1, (wv (s - 2) w).2, ⟨by omega, w1, w2, w3, by omega, hg⟩, by rw [e, e2]; rfl⟩
  · obtain ⟨a1, a2, a3, a4, a5, a6⟩ := hab
    obtain ⟨w, hw, e⟩ := wv_sur (s - 2) a b a2 a3 a4 (by omega)
    have hg : gdW (s - 2) w := by
      unfold gdW
      rw [e]
      exact a6
    obtain ⟨k, hk, e2⟩ := g3 w hw hg
    obtain ⟨i, hi, e3⟩ := hp.2.1 k hk
    refine ⟨i, hi, ?_⟩
    rw [e3, e2]
    unfold cdW
    rw [e]
  · show (if sm_top m3.2.2 = sm_top m3.2.2 then f else (sm_nw m3 11 n).1 (sm_top m3.2.2)) k = _
    rw [if_pos rfl, hf k hk]
    exact h3 k hk
end MD2
