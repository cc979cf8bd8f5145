/-! what the Statement gives at the start, in the words of the small machine -/
theorem lw_in {w : Cond} (i : Nat) (h : lw_tbl[i]? = some w) : w ∈ lw_tbl := List.mem_of_getElem? h
theorem sm_sub_tbl {w : Cond} (h : w ∈ sm_T) : w ∈ lw_tbl := (List.mem_filter.mp h).1
theorem li_0 : Cond.instantiable RX0 4 ∈ lw_tbl := lw_in 332 (by decide +kernel)
theorem li_1 : Cond.instantiable RX1 1 ∈ lw_tbl := lw_in 298 (by decide +kernel)
theorem li_2 : Cond.instantiable RX2 16 ∈ lw_tbl := lw_in 238 (by decide +kernel)
theorem li_3 : Cond.instantiable RX4 5 ∈ lw_tbl := lw_in 179 (by decide +kernel)
theorem li_4 : Cond.instantiable RX5 1 ∈ lw_tbl := lw_in 321 (by decide +kernel)
theorem li_5 : Cond.instantiable RX7 5 ∈ lw_tbl := lw_in 355 (by decide +kernel)
theorem li_6 : Cond.instantiable RX8 11 ∈ lw_tbl := lw_in 112 (by decide +kernel)
theorem li_7 : Cond.instantiable RX9 8 ∈ lw_tbl := lw_in 202 (by decide +kernel)
theorem li_8 : Cond.instantiable RX10 1 ∈ lw_tbl := lw_in 310 (by decide +kernel)
theorem li_9 : Cond.instantiable RX11 16 ∈ lw_tbl := lw_in 103 (by decide +kernel)
theorem li_10 : Cond.instantiable RX12 68 ∈ lw_tbl := lw_in 1154 (by decide +kernel)
theorem st_cls {args : Array Value} {s : State} (hts : ∀ w ∈ lw_tbl, w.before args s = true) : ∃ (dC : Nat → ClassId) (dI : Nat → Nat → Nat), ∀ (k : Nat) (q : vw_C), vwCl[k]? = some q → u_Kn s q.1 q.2.1 q.2.2 (dC k) (dI k) := by
  have h0 : ∀ k : Nat, ∃ z : ClassId × (Nat → Nat), ∀ q : vw_C, vwCl[k]? = some q → u_Kn s q.1 q.2.1 q.2.2 z.1 z.2 := by
    intro k
    match k with
    | 0 => obtain ⟨c, i, h⟩ := u_known (C := RX0) (T := TX0) (N := 4) (n := 4) hts (fun w hw => sm_sub_tbl (sm_inT0 w hw)) (hts _ li_0); exact ⟨(c, i), fun q hq => by cases hq; exact h⟩
    | 1 => obtain ⟨c, i, h⟩ := u_known (C := RX1) (T := TX1) (N := 1) (n := 1) hts (fun w hw => sm_sub_tbl (sm_inT1 w hw)) (hts _ li_1); exact ⟨(c, i), fun q hq => by cases hq; exact h⟩
    | 2 => obtain ⟨c, i, h⟩ := u_known (C := RX2) (T := TX2) (N := 16) (n := 16) hts (fun w hw => sm_sub_tbl (sm_inT2 w hw)) (hts _ li_2); exact ⟨(c, i), fun q hq => by cases hq; exact h⟩
    | 3 => obtain ⟨c, i, h⟩ := u_known (C := RX4) (T := TX4) (N := 5) (n := 5) hts (fun w hw => sm_sub_tbl (sm_inT3 w hw)) (hts _ li_3); exact ⟨(c, i), fun q hq => by cases hq; exact h⟩
    | 4 => obtain ⟨c, i, h⟩ := u_known (C := RX5) (T := TX5) (N := 1) (n := 1) hts (fun w hw => sm_sub_tbl (sm_inT4 w hw)) (hts _ li_4); exact ⟨(c, i), fun q hq => by cases hq; exact h⟩
    | 5 => obtain ⟨c, i, h⟩ := u_known (C := RX7) (T := TX7) (N := 5) (n := 5) hts (fun w hw => sm_sub_tbl (sm_inT5 w hw)) (hts _ li_5); exact ⟨(c, i), fun q hq => by cases hq; exact h⟩
    | 6 => obtain ⟨c, i, h⟩ := u_known (C := RX8) (T := TX8) (N := 11) (n := 11) hts (fun w hw => sm_sub_tbl (sm_inT6 w hw)) (hts _ li_6); exact ⟨(c, i), fun q hq => by cases hq; exact h⟩
    | 7 => obtain ⟨c, i, h⟩ := u_known (C := RX9) (T := TX9) (N := 8) (n := 8) hts (fun w hw => sm_sub_tbl (sm_inT7 w hw)) (hts _ li_7); exact ⟨(c, i), fun q hq => by cases hq; exact h⟩
    | 8 => obtain ⟨c, i, h⟩ := u_known (C := RX10) (T := TX10) (N := 1) (n := 1) hts (fun w hw => sm_sub_tbl (sm_inT8 w hw)) (hts _ li_8); exact ⟨(c, i), fun q hq => by cases hq; exact h⟩
    | 9 => obtain ⟨c, i, h⟩ := u_known (C := RX11) (T := TX11) (N := 16) (n := 16) hts (fun w hw => sm_sub_tbl (sm_inT9 w hw)) (hts _ li_9); exact ⟨(c, i), fun q hq => by cases hq; exact h⟩
    | 10 => obtain ⟨c, i, h⟩ := u_known (C := RX12) (T := TX12) (N := 68) (n := 68) hts (fun w hw => sm_sub_tbl (sm_inT10 w hw)) (hts _ li_10); exact ⟨(c, i), fun q hq => by cases hq; exact h⟩
    | k + 11 => exact ⟨(0, fun _ => 0), fun q hq => by simp [vwCl] at hq⟩
  obtain ⟨f, hf⟩ := Classical.axiomOfChoice h0
  exact ⟨fun k => (f k).1, fun k => (f k).2, fun k q hq => hf k q hq⟩
theorem st_arr {args : Array Value} {s : State} {ty : FieldType} (h : (Cond.arrayClass ty).before args s = true) (hn : ∀ C, ty ≠ .object C) : ∃ cA : ClassId, ArrOfT s cA ty ∧ va_RA s cA ty := by
  obtain ⟨c, k, comp, h1, h2, h3⟩ := Cond.arrayClass_spec h
  refine ⟨c, fun n z => ⟨(fun k h => by cases h), k, h2, comp, h3⟩, ?_⟩
  cases ty with
  | object C => exact absurd rfl (hn C)
  | _ => exact h1
theorem st_obj {args : Array Value} {s : State} {C : String} (h : (Cond.arrayOver (.object C)).before args s = true) : ∃ cA : ClassId, ArrOfT s cA (.object C) ∧ va_RA s cA (.object C) := by
  obtain ⟨comp, c, k, h1, h2, h3, h4, h5⟩ := Cond.arrayOver_spec h
  exact ⟨c, fun n z => ⟨(fun k h => by cases h), k, h3, comp, h4⟩, k, comp, h3, h4, h1, h5⟩
theorem st_tys {args : Array Value} {s : State} (hts : ∀ w ∈ lw_tbl, w.before args s = true) : ∃ ty : Nat → ClassId, (ArrOfT s (ty 0) .int ∧ va_RA s (ty 0) .int) ∧ (ArrOfT s (ty 1) .long ∧ va_RA s (ty 1) .long) ∧ (ArrOfT s (ty 2) .boolean ∧ va_RA s (ty 2) .boolean) ∧ (ArrOfT s (ty 3) (.object RX7) ∧ va_RA s (ty 3) (.object RX7)) ∧ (ArrOfT s (ty 4) (.object RX8) ∧ va_RA s (ty 4) (.object RX8)) ∧ (ArrOfT s (ty 5) (.array .int) ∧ va_RA s (ty 5) (.array .int)) ∧ ∃ k : Class, s.vm.classes[ty 5]? = some k ∧ k.kind = .array (ty 0) (.array .int) := by
  obtain ⟨c0, h0⟩ := st_arr (hts (.arrayClass .int) (lw_in 177 (by decide +kernel))) (fun C q => by cases q)
  obtain ⟨c1, h1⟩ := st_arr (hts (.arrayClass .long) (lw_in 352 (by decide +kernel))) (fun C q => by cases q)
  obtain ⟨c2, h2⟩ := st_arr (hts (.arrayClass .boolean) (lw_in 200 (by decide +kernel))) (fun C q => by cases q)
  obtain ⟨c3, h3⟩ := st_obj (hts (.arrayOver (.object RX7)) (lw_in 354 (by decide +kernel)))
  obtain ⟨c4, h4⟩ := st_obj (hts (.arrayOver (.object RX8)) (lw_in 111 (by decide +kernel)))
  obtain ⟨comp, c5, k, g1, g2, g3, g4⟩ := Cond.arrayOver_specA (hts (.arrayOver (.array .int)) (lw_in 304 (by decide +kernel)))
  have e0 : comp = c0 := Option.some.inj (g1.symm.trans h0.2)
  subst e0
  exact ⟨fun i => if i = 0 then comp else if i = 1 then c1 else if i = 2 then c2 else if i = 3 then c3 else if i = 4 then c4 else c5, h0, h1, h2, h3, h4, ⟨fun n z => ⟨(fun k h => by cases h), k, g2, comp, g3⟩, g4⟩, k, g2, g3⟩
theorem fl_w : ∀ j : Fin 42, Cond.eq (.elem (.static RX12 "WORDS" "[I") (.int (Int32.ofNat j.val))) (.int (sm_words.getD j.val 0)) ∈ flatC (Jvm.Cond.and given_1 narrow_1) := by decide +kernel
theorem fl_wl : Cond.eq (.length (.static RX12 "WORDS" "[I")) (.int 42) ∈ flatC (Jvm.Cond.and given_1 narrow_1) := by decide +kernel
theorem fl_wa : Cond.arrayOf (.static RX12 "WORDS" "[I") .int ∈ flatC (Jvm.Cond.and given_1 narrow_1) := by decide +kernel
theorem fl_cs : Cond.eq (.static "java/lang/String" "COMPACT_STRINGS" "Z") (.int 1) ∈ flatC (Jvm.Cond.and given_1 narrow_1) := by decide +kernel
theorem fl_si : Cond.isRef (.static "jdk/internal/util/Preconditions" "SIOOBE_FORMATTER" "Ljava/util/function/BiFunction;") ∈ flatC (Jvm.Cond.and given_1 narrow_1) := by decide +kernel
theorem fl_s1 : ∀ i : Fin 6, Cond.exactly (.string RX9 (94 + 2 * i.val)) "java/lang/String" ∈ flatC (Jvm.Cond.and given_1 narrow_1) := by decide +kernel
theorem fl_s2 : ∀ i : Fin 6, Cond.eq (.field (.string RX9 (94 + 2 * i.val)) "java/lang/String" "coder" "B") (.int 0) ∈ flatC (Jvm.Cond.and given_1 narrow_1) := by decide +kernel
theorem fl_s3 : ∀ i : Fin 6, Cond.arrayOf (.field (.string RX9 (94 + 2 * i.val)) "java/lang/String" "value" "[B") .byte ∈ flatC (Jvm.Cond.and given_1 narrow_1) := by decide +kernel
theorem fl_s4 : ∀ i : Fin 6, Cond.eq (.length (.field (.string RX9 (94 + 2 * i.val)) "java/lang/String" "value" "[B")) (.int (Int32.ofNat (sm_len.getD i.val 0))) ∈ flatC (Jvm.Cond.and given_1 narrow_1) := by decide +kernel
theorem fl_s5 : ∀ i : Fin 6, ∀ j : Fin 7, j.val < sm_len.getD i.val 0 → Cond.eq (.elem (.field (.string RX9 (94 + 2 * i.val)) "java/lang/String" "value" "[B") (.int (Int32.ofNat j.val))) (.int ((sm_byt.getD i.val []).getD j.val 0)) ∈ flatC (Jvm.Cond.and given_1 narrow_1) := by decide +kernel
theorem fl_s6 : ∀ i j : Fin 6, i.val < j.val → Cond.not (Cond.eq (.string RX9 (94 + 2 * i.val)) (.string RX9 (94 + 2 * j.val))) ∈ flatC (Jvm.Cond.and given_1 narrow_1) := by decide +kernel
theorem fl_s7 : ∀ i : Fin 6, sm_len.getD i.val 0 ≤ 7 := by decide +kernel
theorem wl_1 : Cond.laysStatic RX12 "WORDS" "[I" ∈ lw_tbl := lw_in 1482 (by decide +kernel)
theorem wl_2 : Cond.laysStatic "java/lang/String" "COMPACT_STRINGS" "Z" ∈ lw_tbl := lw_in 607 (by decide +kernel)
theorem wl_3 : Cond.laysStatic "jdk/internal/util/Preconditions" "SIOOBE_FORMATTER" "Ljava/util/function/BiFunction;" ∈ lw_tbl := lw_in 623 (by decide +kernel)
theorem wl_r0 : ∀ i : Fin 6, lw_tbl[588 + i.val]? = some (Cond.stringRef RX9 (94 + 2 * i.val) (sm_txt.getD i.val "")) := by decide +kernel
theorem wl_r (i : Fin 6) : Cond.stringRef RX9 (94 + 2 * i.val) (sm_txt.getD i.val "") ∈ lw_tbl := lw_in _ (wl_r0 i)
theorem wl_n : ∀ q ∈ sm_nest, Cond.methodLinkNest RX11 q.1 q.2 RX11 ∈ lw_tbl := by
  have h : ∀ q ∈ sm_nest, ∃ i ∈ [180, 203, 239, 299, 311, 322, 333, 356], lw_tbl[i]? = some (Cond.methodLinkNest RX11 q.1 q.2 RX11) := by decide +kernel
  intro q hq
  obtain ⟨i, _, e⟩ := h q hq
  exact lw_in i e
theorem hw1 : Cond.initialized RX12 ∈ lw_tbl := lw_in 93 (by decide +kernel)
theorem hw2 : Cond.initialized "java/lang/String" ∈ lw_tbl := lw_in 96 (by decide +kernel)
theorem hw3 : Cond.initialized "jdk/internal/util/Preconditions" ∈ lw_tbl := lw_in 98 (by decide +kernel)
theorem hw4 : Cond.castable "[I" "java/lang/Cloneable" ∈ lw_tbl := lw_in 995 (by decide +kernel)
theorem st_E {p : Program} {s : State} {m : MethodId} {meth : Method} {c : Code} {b L : Nat} {xs : Nat → Int32} (l : Launch) (C0 : lw_At p s m meth c b L xs) : ∃ E : sm_E, E.1 = l ∧ sm_B E = s.heap.size ∧ E.2.2.2.2.2.2.2.1 = b ∧ E.2.2.2.2.2.2.2.2.1 = L ∧ E.2.2.2.2.2.2.2.2.2 = xs ∧ va_K E.2.1 vwCl (sm_tys E) s ∧ sm_F E s s.heap := by
  obtain ⟨hx, hb, hr, hml, hown, hts, hX, hbl, hlocks, hgv⟩ := C0
  have hs := flat_of_before _ hgv
  have hA : ∀ a : Nat, a < s.heap.size → ¬ (fun q : Nat => s.heap.size ≤ q) a := fun a ha h => absurd ha (Nat.not_lt.mpr h)
  obtain ⟨dC, dI, hK⟩ := st_cls hts
  obtain ⟨ty, t0, t1, t2, t3, t4, t5, t6⟩ := st_tys hts
  obtain ⟨w, hw, hT⟩ := va_Tof (tm := .static RX12 "WORDS" "[I") (ty := .int) (N := 42) (f := fun j => .int (sm_words.getD j 0)) (A := fun q : Nat => s.heap.size ≤ q) (by decide) (hs _ fl_wa) (va_eqt (hs _ fl_wl)) (fun j hj => va_eqt (hs _ (fl_w ⟨j, hj⟩))) hA
  obtain ⟨adK, adV, hS, hR⟩ := vk_Sof (args := #[Value.ref b]) (s := s) (N := 6) (tm := fun i => .string RX9 (94 + 2 * i)) (len := sm_len) (byt := sm_byt) (A := fun q : Nat => s.heap.size ≤ q) (fun i hi => Nat.lt_of_le_of_lt (fl_s7 ⟨i, hi⟩) (by decide)) (fun i hi => hs _ (fl_s1 ⟨i, hi⟩)) (fun i hi => hs _ (fl_s2 ⟨i, hi⟩)) (fun i hi => hs _ (fl_s3 ⟨i, hi⟩)) (fun i hi => hs _ (fl_s4 ⟨i, hi⟩)) (fun i hi j hj => hs _ (fl_s5 ⟨i, hi⟩ ⟨j, Nat.lt_of_lt_of_le hj (fl_s7 ⟨i, hi⟩)⟩ hj)) (fun i j hi hj hij => by
    rcases Nat.lt_or_gt_of_ne hij with h | h
    · exact Or.inl (hs _ (fl_s6 ⟨i, hi⟩ ⟨j, hj⟩ h))
    · exact Or.inr (hs _ (fl_s6 ⟨j, hj⟩ ⟨i, hi⟩ h))) hA
  refine ⟨(l, (dC, dI), ty, s.heap.size, (w, adK, adV, b, L, xs)), rfl, rfl, rfl, rfl, rfl, ⟨hK, fun k q hq => ?_⟩, va_Zof (hts _ wl_1) (hts _ hw1) hw hA, hT, va_Zof (hts _ wl_2) (hts _ hw2) (va_eqt (hs _ fl_cs)) hA, va_Zqof (hts _ wl_3) (hts _ hw3) (hs _ fl_si) hA, hS, fun i hi => vk_R.of (hts _ (wl_r ⟨i, hi⟩)) (hR i hi), ⟨t6, fun q hq => va_Nw.of rfl (hts _ (wl_n q hq)), va_AO.of (hts _ (lw_in 354 (by decide +kernel))), va_AO.of (hts _ (lw_in 111 (by decide +kernel))), hts (.arrayOver (.array .int)) (lw_in 304 (by decide +kernel)), va_Nw.of rfl (hts _ hw4)⟩, hX, hbl⟩
  match k, hq with
  | 0, hq => cases hq; exact t0
  | 1, hq => cases hq; exact t1
  | 2, hq => cases hq; exact t2
  | 3, hq => cases hq; exact t3
  | 4, hq => cases hq; exact t4
  | 5, hq => cases hq; exact t5
  | k + 6, hq => simp [sm_tys] at hq
