/-! what the memory is when both objects stand -/
theorem ic_kn : ∀ a : Fin 149, sm_K imC.2.2 a.val = (ly_kn.getD a.val (0, 0)).1 ∧ sm_N imC.2.2 a.val = (ly_kn.getD a.val (0, 0)).2 := by decide +kernel
theorem ic_r : ∀ q ∈ ly_r, imC.2.2.1 q.1 q.2.1 = some q.2.2 := by decide +kernel
theorem ic_28 : ∀ i : Fin 24, imC.2.2.1 28 i.val = some (29 + i.val) := by decide +kernel
theorem ic_69 : ∀ i : Fin 13, imC.2.2.1 69 i.val = none := by decide +kernel
theorem ly_kn_len : ly_kn.length = 149 := by decide +kernel
theorem ic_ly : ly imC.2.2 := by
  refine ⟨fun a q ha => ?_, ic_r, fun i hi => ⟨i, hi, ic_28 ⟨i, hi⟩⟩, fun i r hi hr => ?_⟩
  · have hlt : a < 149 := by
      have := (List.getElem?_eq_some_iff.mp ha).1
      rw [ly_kn_len] at this
      exact this
    have h := ic_kn ⟨a, hlt⟩
    simp only at h
    rw [show ly_kn.getD a (0, 0) = q by rw [List.getD_eq_getElem?_getD, ha]; rfl] at h
    exact h
  · have := ic_69 ⟨i, hi⟩
    simp only at this
    rw [this] at hr
    cases hr
theorem ic_tan : ∀ i : Fin 6, imC.1 (77 + 4 * i.val) 1 = iI 1 ∧ imC.1 (77 + 4 * i.val) 2 = iI 1 ∧ imC.1 (77 + 4 * i.val) 3 = iI 0 ∧ imC.1 (77 + 4 * i.val) 4 = iI 1 ∧ imC.1 (77 + 4 * i.val) 5 = iI 0 ∧ imC.1 (77 + 4 * i.val) 6 = iI 1 ∧ imC.1 (77 + 4 * i.val) 7 = iI 1 ∧ imC.1 (77 + 4 * i.val) 8 = iI 1 ∧ imC.1 (77 + 4 * i.val) 9 = iI 0 ∧ imC.1 (77 + 4 * i.val) 10 = iI 1 ∧ imC.1 (77 + 4 * i.val + 1) 0 = iI 0 ∧ imC.1 112 i.val = iI 1 ∧ imC.1 111 (60 * i.val + 0) = iI 0 := by decide +kernel
theorem ic_rest : imC.1 0 13 = imC.1 109 7 ∧ imC.1 0 15 = 0 ∧ imC.1 109 9 = 0 ∧ imC.1 10 4 = iI 0 ∧ imC.1 109 11 = iI 0 ∧ imC.1 70 2 = iI 0 ∧ imC.1 109 15 = iI 0 ∧ imC.1 70 3 = iI 0 := by decide +kernel
theorem ic_sh : ∀ s : Fin 4, imC.1 (101 + 2 * s.val) 1 = iI 0 ∧ imC.1 121 s.val = iI 0 ∧ imC.1 (101 + 2 * s.val) 2 = iI 0 ∧ imC.1 122 s.val = iI 0 ∧ ∀ k : Fin 48, imC.2.1 (102 + 2 * s.val) k.val = imC.2.1 120 (48 * s.val + k.val) := by decide +kernel
theorem ic_er : ∀ k : Fin 7, imC.1 76 k.val = imC.1 110 k.val := by decide +kernel
theorem ic_Inv : Inv 0 imC := by
  obtain ⟨r1, r2, r3, r4, r5, r6, r7, r8⟩ := ic_rest
  refine ⟨by decide, ⟨fun i hi => ?_, fun h => absurd r2 h, ⟨r1, r2.trans r3.symm⟩, ⟨0, fun _ => 0, by decide, r4, r5, fun k hk => absurd hk (Nat.not_lt_zero _)⟩, ⟨0, fun _ => 0, fun _ => 0, fun _ => 0, by decide, r6, r7, fun k hk => absurd hk (Nat.not_lt_zero _), fun j k hj => absurd hj (Nat.not_lt_zero _), r8⟩, fun s hs => ?_, ⟨fun i j hi hj e => ?_, fun s r h1 h2 h3 => ?_⟩⟩, fun k hk => ic_er ⟨k, hk⟩⟩
  · obtain ⟨t1, t2, t3, t4, t5, t6, t7, t8, t9, t10, t11, t12, t13⟩ := ic_tan ⟨i, hi⟩
    simp only at t1 t2 t3 t4 t5 t6 t7 t8 t9 t10 t11 t12 t13
    have hv := vT_leaf (z := 0) (by decide) (by decide) (fun _ => 0)
    refine ⟨tup (fun _ => 0) 0 0, 1, hv, ⟨⟨t1, fun k hk => ?_, t2, t3, hv.1.tok⟩, ?_⟩, t12, fun k hk => ?_⟩
    · have : k = 0 := by omega
      subst this
      exact t11
    · unfold tgx
      exact ⟨t4, t5, t6, t7, t8, fun _ => ⟨t9, t10⟩⟩
    · have : k = 0 := by omega
      subst this
      exact t13
  · obtain ⟨s1, s2, s3, s4, s5⟩ := ic_sh ⟨s, hs⟩
    simp only at s1 s2 s3 s4 s5
    exact ⟨0, 0, Or.inl rfl, by decide, s1, s2, s3, s4, fun k hk => s5 ⟨k, hk⟩⟩
  · have e1 := ic_28 ⟨i, hi⟩
    have e2 := ic_28 ⟨j, hj⟩
    simp only at e1 e2
    rw [e1, e2] at e
    have e3 := Option.some.inj e
    omega
  · have := ic_69 ⟨s, by omega⟩
    simp only at this
    rw [this] at h3
    cases h3
