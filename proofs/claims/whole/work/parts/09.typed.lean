/-! typed answers -/
abbrev sm_QI (Q : Int32 → sm_M → Prop) : Option Value → sm_M → Prop := fun r m => ∃ x, r = some (.int x) ∧ Q x m
abbrev sm_QJ (Q : Int64 → sm_M → Prop) : Option Value → sm_M → Prop := fun r m => ∃ x, r = some (.long x) ∧ Q x m
abbrev sm_QV (Q : sm_M → Prop) : Option Value → sm_M → Prop := fun r m => r = none ∧ Q m
abbrev sm_QA (E : sm_E) (Q : Nat → sm_M → Prop) : Option Value → sm_M → Prop := fun r m => ∃ a, r = some (.ref (sm_B E + a)) ∧ Q a m
abbrev sm_QS (E : sm_E) (Q : Nat → sm_M → Prop) : Option Value → sm_M → Prop := fun r m => ∃ i, i < 6 ∧ r = some (.ref (E.2.2.2.2.2.1 i)) ∧ Q i m
abbrev sm_callI (E : sm_E) (L : sm_S → Prop) (Y : sm_Y) (d mc ms : Nat) (vs : List Value) (m : sm_M) (Q : Int32 → sm_M → Prop) : Prop := sm_call E L Y d mc ms vs m (sm_QI Q)
abbrev sm_callJ (E : sm_E) (L : sm_S → Prop) (Y : sm_Y) (d mc ms : Nat) (vs : List Value) (m : sm_M) (Q : Int64 → sm_M → Prop) : Prop := sm_call E L Y d mc ms vs m (sm_QJ Q)
abbrev sm_callV (E : sm_E) (L : sm_S → Prop) (Y : sm_Y) (d mc ms : Nat) (vs : List Value) (m : sm_M) (Q : sm_M → Prop) : Prop := sm_call E L Y d mc ms vs m (sm_QV Q)
abbrev sm_callA (E : sm_E) (L : sm_S → Prop) (Y : sm_Y) (d mc ms : Nat) (vs : List Value) (m : sm_M) (Q : Nat → sm_M → Prop) : Prop := sm_call E L Y d mc ms vs m (sm_QA E Q)
abbrev sm_callS (E : sm_E) (L : sm_S → Prop) (Y : sm_Y) (d mc ms : Nat) (vs : List Value) (m : sm_M) (Q : Nat → sm_M → Prop) : Prop := sm_call E L Y d mc ms vs m (sm_QS E Q)
section SMT
variable {E : sm_E} {L : sm_S → Prop} {Y Y' : sm_Y} {d mc ms d' mc' ms' : Nat} {vs : List Value} {pc : Nat} {lv : List (Nat × Value)} {rest : List Value} {m : sm_M} {cells slots : Nat} {Q : List Frame → State → State → Prop}
theorem sm_monoI {Q1 Q2 : Int32 → sm_M → Prop} (h : sm_callI E L Y d mc ms vs m Q1) (f : ∀ x m', Q1 x m' → Q2 x m') : sm_callI E L Y d mc ms vs m Q2 := sm_mono h (fun r m' ⟨x, e, h⟩ => ⟨x, e, f x m' h⟩)
theorem sm_monoJ {Q1 Q2 : Int64 → sm_M → Prop} (h : sm_callJ E L Y d mc ms vs m Q1) (f : ∀ x m', Q1 x m' → Q2 x m') : sm_callJ E L Y d mc ms vs m Q2 := sm_mono h (fun r m' ⟨x, e, h⟩ => ⟨x, e, f x m' h⟩)
theorem sm_monoA {Q1 Q2 : Nat → sm_M → Prop} (h : sm_callA E L Y d mc ms vs m Q1) (f : ∀ x m', Q1 x m' → Q2 x m') : sm_callA E L Y d mc ms vs m Q2 := sm_mono h (fun r m' ⟨x, e, h⟩ => ⟨x, e, f x m' h⟩)
theorem sm_monoS {Q1 Q2 : Nat → sm_M → Prop} (h : sm_callS E L Y d mc ms vs m Q1) (f : ∀ x m', x < 6 → Q1 x m' → Q2 x m') : sm_callS E L Y d mc ms vs m Q2 := sm_mono h (fun r m' ⟨x, hi, e, h⟩ => ⟨x, hi, e, f x m' hi h⟩)
theorem sm_monoV {Q1 Q2 : sm_M → Prop} (h : sm_callV E L Y d mc ms vs m Q1) (f : ∀ m', Q1 m' → Q2 m') : sm_callV E L Y d mc ms vs m Q2 := sm_mono h (fun r m' ⟨e, h⟩ => ⟨e, f m' h⟩)
theorem sm_iv_I {C : String} {n idx a ci : Nat} {q : vw_C} {As : List Value} (hm : sm_mi Y' C n) (hlink : Cond.methodLink Y.1.cls idx Y'.1 ∈ sm_T) (hK : ∀ S, L S → sm_K S a = ci) (hci : ci < 11) (hq : vwCl[ci]? = some q) (hC : q.1 = C) (hn : As.length = n) (hdd : d' + 1 ≤ d) (hw : (rest.map fun v => v.category).sum ≤ 8) (hf : cells + mc' ≤ mc ∧ slots + ms' ≤ ms) (hdec : decode Y.2.1 pc = .ok (.invokevirtual idx, 3)) {st : List Value} (hst : st = As.reverse ++ .ref (sm_B E + a) :: rest) (hc : sm_callI E L Y' d' mc' ms' (.ref (sm_B E + a) :: As) m (fun x m' => sm_go E L Y d mc ms vs (pc + 3) lv (.int x :: rest) m' (cells + mc') (slots + ms') Q)) : sm_go E L Y d mc ms vs pc lv st m cells slots Q :=
  sm_iv hm hlink hK hci hq hC hn hdd hw hf hdec hst (sm_mono hc (fun r m' ⟨x, e, h⟩ => by subst e; exact h))
theorem sm_iv_J {C : String} {n idx a ci : Nat} {q : vw_C} {As : List Value} (hm : sm_mi Y' C n) (hlink : Cond.methodLink Y.1.cls idx Y'.1 ∈ sm_T) (hK : ∀ S, L S → sm_K S a = ci) (hci : ci < 11) (hq : vwCl[ci]? = some q) (hC : q.1 = C) (hn : As.length = n) (hdd : d' + 1 ≤ d) (hw : (rest.map fun v => v.category).sum ≤ 8) (hf : cells + mc' ≤ mc ∧ slots + ms' ≤ ms) (hdec : decode Y.2.1 pc = .ok (.invokevirtual idx, 3)) {st : List Value} (hst : st = As.reverse ++ .ref (sm_B E + a) :: rest) (hc : sm_callJ E L Y' d' mc' ms' (.ref (sm_B E + a) :: As) m (fun x m' => sm_go E L Y d mc ms vs (pc + 3) lv (.long x :: rest) m' (cells + mc') (slots + ms') Q)) : sm_go E L Y d mc ms vs pc lv st m cells slots Q :=
  sm_iv hm hlink hK hci hq hC hn hdd hw hf hdec hst (sm_mono hc (fun r m' ⟨x, e, h⟩ => by subst e; exact h))
theorem sm_iv_A {C : String} {n idx a ci : Nat} {q : vw_C} {As : List Value} (hm : sm_mi Y' C n) (hlink : Cond.methodLink Y.1.cls idx Y'.1 ∈ sm_T) (hK : ∀ S, L S → sm_K S a = ci) (hci : ci < 11) (hq : vwCl[ci]? = some q) (hC : q.1 = C) (hn : As.length = n) (hdd : d' + 1 ≤ d) (hw : (rest.map fun v => v.category).sum ≤ 8) (hf : cells + mc' ≤ mc ∧ slots + ms' ≤ ms) (hdec : decode Y.2.1 pc = .ok (.invokevirtual idx, 3)) {st : List Value} (hst : st = As.reverse ++ .ref (sm_B E + a) :: rest) (hc : sm_callA E L Y' d' mc' ms' (.ref (sm_B E + a) :: As) m (fun x m' => sm_go E L Y d mc ms vs (pc + 3) lv (.ref (sm_B E + x) :: rest) m' (cells + mc') (slots + ms') Q)) : sm_go E L Y d mc ms vs pc lv st m cells slots Q :=
  sm_iv hm hlink hK hci hq hC hn hdd hw hf hdec hst (sm_mono hc (fun r m' ⟨x, e, h⟩ => by subst e; exact h))
theorem sm_iv_S {C : String} {n idx a ci : Nat} {q : vw_C} {As : List Value} (hm : sm_mi Y' C n) (hlink : Cond.methodLink Y.1.cls idx Y'.1 ∈ sm_T) (hK : ∀ S, L S → sm_K S a = ci) (hci : ci < 11) (hq : vwCl[ci]? = some q) (hC : q.1 = C) (hn : As.length = n) (hdd : d' + 1 ≤ d) (hw : (rest.map fun v => v.category).sum ≤ 8) (hf : cells + mc' ≤ mc ∧ slots + ms' ≤ ms) (hdec : decode Y.2.1 pc = .ok (.invokevirtual idx, 3)) {st : List Value} (hst : st = As.reverse ++ .ref (sm_B E + a) :: rest) (hc : sm_callS E L Y' d' mc' ms' (.ref (sm_B E + a) :: As) m (fun x m' => x < 6 → sm_go E L Y d mc ms vs (pc + 3) lv (.ref (E.2.2.2.2.2.1 x) :: rest) m' (cells + mc') (slots + ms') Q)) : sm_go E L Y d mc ms vs pc lv st m cells slots Q :=
  sm_iv hm hlink hK hci hq hC hn hdd hw hf hdec hst (sm_mono hc (fun r m' ⟨x, hi, e, h⟩ => by subst e; exact h hi))
theorem sm_iv_V {C : String} {n idx a ci : Nat} {q : vw_C} {As : List Value} (hm : sm_mi Y' C n) (hlink : Cond.methodLink Y.1.cls idx Y'.1 ∈ sm_T) (hK : ∀ S, L S → sm_K S a = ci) (hci : ci < 11) (hq : vwCl[ci]? = some q) (hC : q.1 = C) (hn : As.length = n) (hdd : d' + 1 ≤ d) (hw : (rest.map fun v => v.category).sum ≤ 8) (hf : cells + mc' ≤ mc ∧ slots + ms' ≤ ms) (hdec : decode Y.2.1 pc = .ok (.invokevirtual idx, 3)) {st : List Value} (hst : st = As.reverse ++ .ref (sm_B E + a) :: rest) (hc : sm_callV E L Y' d' mc' ms' (.ref (sm_B E + a) :: As) m (fun m' => sm_go E L Y d mc ms vs (pc + 3) lv rest m' (cells + mc') (slots + ms') Q)) : sm_go E L Y d mc ms vs pc lv st m cells slots Q :=
  sm_iv hm hlink hK hci hq hC hn hdd hw hf hdec hst (sm_mono hc (fun r m' ⟨e, h⟩ => by subst e; exact h))
theorem sm_is_I {n idx : Nat} {As : List Value} (hm : sm_mt Y' n) (hlink : Cond.methodLink Y.1.cls idx Y'.1 ∈ sm_T) (hn : As.length = n) (hdd : d' + 1 ≤ d) (hw : (rest.map fun v => v.category).sum ≤ 8) (hf : cells + mc' ≤ mc ∧ slots + ms' ≤ ms) (hdec : decode Y.2.1 pc = .ok (.invokestatic idx, 3)) {st : List Value} (hst : st = As.reverse ++ rest) (hc : sm_callI E L Y' d' mc' ms' As m (fun x m' => sm_go E L Y d mc ms vs (pc + 3) lv (.int x :: rest) m' (cells + mc') (slots + ms') Q)) : sm_go E L Y d mc ms vs pc lv st m cells slots Q :=
  sm_is hm hlink hn hdd hw hf hdec hst (sm_mono hc (fun r m' ⟨x, e, h⟩ => by subst e; exact h))
theorem sm_is_J {n idx : Nat} {As : List Value} (hm : sm_mt Y' n) (hlink : Cond.methodLink Y.1.cls idx Y'.1 ∈ sm_T) (hn : As.length = n) (hdd : d' + 1 ≤ d) (hw : (rest.map fun v => v.category).sum ≤ 8) (hf : cells + mc' ≤ mc ∧ slots + ms' ≤ ms) (hdec : decode Y.2.1 pc = .ok (.invokestatic idx, 3)) {st : List Value} (hst : st = As.reverse ++ rest) (hc : sm_callJ E L Y' d' mc' ms' As m (fun x m' => sm_go E L Y d mc ms vs (pc + 3) lv (.long x :: rest) m' (cells + mc') (slots + ms') Q)) : sm_go E L Y d mc ms vs pc lv st m cells slots Q :=
  sm_is hm hlink hn hdd hw hf hdec hst (sm_mono hc (fun r m' ⟨x, e, h⟩ => by subst e; exact h))
theorem sm_is_A {n idx : Nat} {As : List Value} (hm : sm_mt Y' n) (hlink : Cond.methodLink Y.1.cls idx Y'.1 ∈ sm_T) (hn : As.length = n) (hdd : d' + 1 ≤ d) (hw : (rest.map fun v => v.category).sum ≤ 8) (hf : cells + mc' ≤ mc ∧ slots + ms' ≤ ms) (hdec : decode Y.2.1 pc = .ok (.invokestatic idx, 3)) {st : List Value} (hst : st = As.reverse ++ rest) (hc : sm_callA E L Y' d' mc' ms' As m (fun x m' => sm_go E L Y d mc ms vs (pc + 3) lv (.ref (sm_B E + x) :: rest) m' (cells + mc') (slots + ms') Q)) : sm_go E L Y d mc ms vs pc lv st m cells slots Q :=
  sm_is hm hlink hn hdd hw hf hdec hst (sm_mono hc (fun r m' ⟨x, e, h⟩ => by subst e; exact h))
theorem sm_is_S {n idx : Nat} {As : List Value} (hm : sm_mt Y' n) (hlink : Cond.methodLink Y.1.cls idx Y'.1 ∈ sm_T) (hn : As.length = n) (hdd : d' + 1 ≤ d) (hw : (rest.map fun v => v.category).sum ≤ 8) (hf : cells + mc' ≤ mc ∧ slots + ms' ≤ ms) (hdec : decode Y.2.1 pc = .ok (.invokestatic idx, 3)) {st : List Value} (hst : st = As.reverse ++ rest) (hc : sm_callS E L Y' d' mc' ms' As m (fun x m' => x < 6 → sm_go E L Y d mc ms vs (pc + 3) lv (.ref (E.2.2.2.2.2.1 x) :: rest) m' (cells + mc') (slots + ms') Q)) : sm_go E L Y d mc ms vs pc lv st m cells slots Q :=
  sm_is hm hlink hn hdd hw hf hdec hst (sm_mono hc (fun r m' ⟨x, hi, e, h⟩ => by subst e; exact h hi))
theorem sm_is_V {n idx : Nat} {As : List Value} (hm : sm_mt Y' n) (hlink : Cond.methodLink Y.1.cls idx Y'.1 ∈ sm_T) (hn : As.length = n) (hdd : d' + 1 ≤ d) (hw : (rest.map fun v => v.category).sum ≤ 8) (hf : cells + mc' ≤ mc ∧ slots + ms' ≤ ms) (hdec : decode Y.2.1 pc = .ok (.invokestatic idx, 3)) {st : List Value} (hst : st = As.reverse ++ rest) (hc : sm_callV E L Y' d' mc' ms' As m (fun m' => sm_go E L Y d mc ms vs (pc + 3) lv rest m' (cells + mc') (slots + ms') Q)) : sm_go E L Y d mc ms vs pc lv st m cells slots Q :=
  sm_is hm hlink hn hdd hw hf hdec hst (sm_mono hc (fun r m' ⟨e, h⟩ => by subst e; exact h))
theorem sm_ivS_I {n idx i : Nat} {As : List Value} (hi : i < 6) (hm : sm_mi Y' "java/lang/String" n) (hlink : Cond.methodLink Y.1.cls idx Y'.1 ∈ sm_T) (hn : As.length = n) (hdd : d' + 1 ≤ d) (hw : (rest.map fun v => v.category).sum ≤ 8) (hf : cells + mc' ≤ mc ∧ slots + ms' ≤ ms) (hdec : decode Y.2.1 pc = .ok (.invokevirtual idx, 3)) {st : List Value} (hst : st = As.reverse ++ .ref (E.2.2.2.2.2.1 i) :: rest) (hc : sm_callI E L Y' d' mc' ms' (.ref (E.2.2.2.2.2.1 i) :: As) m (fun x m' => sm_go E L Y d mc ms vs (pc + 3) lv (.int x :: rest) m' (cells + mc') (slots + ms') Q)) : sm_go E L Y d mc ms vs pc lv st m cells slots Q :=
  sm_ivS hi hm hlink hn hdd hw hf hdec hst (sm_mono hc (fun r m' ⟨x, e, h⟩ => by subst e; exact h))
theorem sm_in0_V {n idx a : Nat} {As : List Value} (hm : sm_mn Y' n) (hlink : Cond.methodLink Y.1.cls idx Y'.1 ∈ sm_T) (hn : As.length = n) (hdd : d' + 1 ≤ d) (hw : (rest.map fun v => v.category).sum ≤ 8) (hf : cells + mc' ≤ mc ∧ slots + ms' ≤ ms) (hdec : decode Y.2.1 pc = .ok (.invokespecial idx, 3)) {st : List Value} (hst : st = As.reverse ++ .ref (sm_B E + a) :: rest) (hc : sm_callV E L Y' d' mc' ms' (.ref (sm_B E + a) :: As) m (fun m' => sm_go E L Y d mc ms vs (pc + 3) lv rest m' (cells + mc') (slots + ms') Q)) : sm_go E L Y d mc ms vs pc lv st m cells slots Q :=
  sm_in0 hm hlink hn hdd hw hf hdec hst (sm_mono hc (fun r m' ⟨e, h⟩ => by subst e; exact h))
theorem sm_in1_V {n idx a : Nat} {As : List Value} (hm : sm_mn Y' n) (hlink : (idx, Y'.1) ∈ sm_nest) (hY : Y.1.cls = RX11) (hn : As.length = n) (hdd : d' + 1 ≤ d) (hw : (rest.map fun v => v.category).sum ≤ 8) (hf : cells + mc' ≤ mc ∧ slots + ms' ≤ ms) (hdec : decode Y.2.1 pc = .ok (.invokespecial idx, 3)) {st : List Value} (hst : st = As.reverse ++ .ref (sm_B E + a) :: rest) (hc : sm_callV E L Y' d' mc' ms' (.ref (sm_B E + a) :: As) m (fun m' => sm_go E L Y d mc ms vs (pc + 3) lv rest m' (cells + mc') (slots + ms') Q)) : sm_go E L Y d mc ms vs pc lv st m cells slots Q :=
  sm_in1 hm hlink hY hn hdd hw hf hdec hst (sm_mono hc (fun r m' ⟨e, h⟩ => by subst e; exact h))
theorem sm_lc_lt (x y : Int64) : lg_cmp x y < 0 ↔ x < y := by
  unfold lg_cmp
  by_cases h : x > y
  · rw [if_pos h]
    exact ⟨fun h1 => absurd h1 (by decide), fun h1 => absurd h1 (by have := Int64.lt_iff_toInt_lt.mp h; rw [Int64.lt_iff_toInt_lt]; omega)⟩
  · rw [if_neg h]
    by_cases h2 : x = y
    · rw [if_pos h2, h2]
      exact ⟨fun h1 => absurd h1 (by decide), fun h1 => absurd h1 (by rw [Int64.lt_iff_toInt_lt]; omega)⟩
    · rw [if_neg h2]
      refine ⟨fun _ => ?_, fun _ => by decide⟩
      rw [Int64.lt_iff_toInt_lt]
      have h3 : ¬ y.toInt < x.toInt := fun q => h (Int64.lt_iff_toInt_lt.mpr q)
      have h4 : x.toInt ≠ y.toInt := fun q => h2 (Int64.toInt_inj.mp q)
      omega
theorem sm_lc_eq (x y : Int64) : lg_cmp x y = 0 ↔ x = y := by
  unfold lg_cmp
  by_cases h : x > y
  · rw [if_pos h]
    exact ⟨fun h1 => absurd h1 (by decide), fun h1 => absurd h (by rw [h1]; show ¬ y < y; rw [Int64.lt_iff_toInt_lt]; omega)⟩
  · rw [if_neg h]
    by_cases h2 : x = y
    · rw [if_pos h2]
      exact ⟨fun _ => h2, fun _ => rfl⟩
    · rw [if_neg h2]
      exact ⟨fun h1 => absurd h1 (by decide), fun h1 => absurd h1 h2⟩
theorem sm_lc_gt (x y : Int64) : 0 < lg_cmp x y ↔ y < x := by
  unfold lg_cmp
  by_cases h : x > y
  · rw [if_pos h]
    exact ⟨fun _ => h, fun _ => by decide⟩
  · rw [if_neg h]
    refine ⟨fun h1 => ?_, fun h1 => absurd h1 h⟩
    by_cases h2 : x = y
    · rw [if_pos h2] at h1
      exact absurd h1 (by decide)
    · rw [if_neg h2] at h1
      exact absurd h1 (by decide)
theorem sm_lc_ge (x y : Int64) : 0 ≤ lg_cmp x y ↔ y ≤ x := by
  have h := sm_lc_lt x y
  rw [Int32.lt_iff_toInt_lt, Int64.lt_iff_toInt_lt] at h
  rw [Int32.le_iff_toInt_le, Int64.le_iff_toInt_le]
  have h0 : (0 : Int32).toInt = 0 := by decide
  omega
theorem sm_lc_le (x y : Int64) : lg_cmp x y ≤ 0 ↔ x ≤ y := by
  have h := sm_lc_gt x y
  rw [Int32.lt_iff_toInt_lt, Int64.lt_iff_toInt_lt] at h
  rw [Int32.le_iff_toInt_le, Int64.le_iff_toInt_le]
  have h0 : (0 : Int32).toInt = 0 := by decide
  omega
theorem sm_lif_eq {x y : Int64} {off : Int} (tgt : Nat) (ht : ((pc + 1 : Nat) : Int) + off = (tgt : Int)) (hdec : decode Y.2.1 pc = .ok (.lcmp, 1)) (hdec2 : decode Y.2.1 (pc + 1) = .ok (.ifCond .eq off, 3)) (kt : x = y → sm_go E L Y d mc ms vs tgt lv rest m cells slots Q) (kf : ¬ x = y → sm_go E L Y d mc ms vs (pc + 4) lv rest m cells slots Q) : sm_go E L Y d mc ms vs pc lv (.long y :: .long x :: rest) m cells slots Q :=
  sm_lcmp hdec (sm_if_eq tgt ht hdec2 (fun h => kt ((sm_lc_eq x y).mp h)) (fun h => kf (fun q => h ((sm_lc_eq x y).mpr q))))
theorem sm_lif_ne {x y : Int64} {off : Int} (tgt : Nat) (ht : ((pc + 1 : Nat) : Int) + off = (tgt : Int)) (hdec : decode Y.2.1 pc = .ok (.lcmp, 1)) (hdec2 : decode Y.2.1 (pc + 1) = .ok (.ifCond .ne off, 3)) (kt : ¬ x = y → sm_go E L Y d mc ms vs tgt lv rest m cells slots Q) (kf : x = y → sm_go E L Y d mc ms vs (pc + 4) lv rest m cells slots Q) : sm_go E L Y d mc ms vs pc lv (.long y :: .long x :: rest) m cells slots Q :=
  sm_lcmp hdec (sm_if_ne tgt ht hdec2 (fun h => kt (fun q => h ((sm_lc_eq x y).mpr q))) (fun h => kf ((sm_lc_eq x y).mp h)))
theorem sm_lif_lt {x y : Int64} {off : Int} (tgt : Nat) (ht : ((pc + 1 : Nat) : Int) + off = (tgt : Int)) (hdec : decode Y.2.1 pc = .ok (.lcmp, 1)) (hdec2 : decode Y.2.1 (pc + 1) = .ok (.ifCond .lt off, 3)) (kt : x < y → sm_go E L Y d mc ms vs tgt lv rest m cells slots Q) (kf : ¬ x < y → sm_go E L Y d mc ms vs (pc + 4) lv rest m cells slots Q) : sm_go E L Y d mc ms vs pc lv (.long y :: .long x :: rest) m cells slots Q :=
  sm_lcmp hdec (sm_if_lt tgt ht hdec2 (fun h => kt ((sm_lc_lt x y).mp h)) (fun h => kf (fun q => h ((sm_lc_lt x y).mpr q))))
theorem sm_lif_ge {x y : Int64} {off : Int} (tgt : Nat) (ht : ((pc + 1 : Nat) : Int) + off = (tgt : Int)) (hdec : decode Y.2.1 pc = .ok (.lcmp, 1)) (hdec2 : decode Y.2.1 (pc + 1) = .ok (.ifCond .ge off, 3)) (kt : y ≤ x → sm_go E L Y d mc ms vs tgt lv rest m cells slots Q) (kf : ¬ y ≤ x → sm_go E L Y d mc ms vs (pc + 4) lv rest m cells slots Q) : sm_go E L Y d mc ms vs pc lv (.long y :: .long x :: rest) m cells slots Q :=
  sm_lcmp hdec (sm_if_ge tgt ht hdec2 (fun h => kt ((sm_lc_ge x y).mp h)) (fun h => kf (fun q => h ((sm_lc_ge x y).mpr q))))
theorem sm_lif_gt {x y : Int64} {off : Int} (tgt : Nat) (ht : ((pc + 1 : Nat) : Int) + off = (tgt : Int)) (hdec : decode Y.2.1 pc = .ok (.lcmp, 1)) (hdec2 : decode Y.2.1 (pc + 1) = .ok (.ifCond .gt off, 3)) (kt : y < x → sm_go E L Y d mc ms vs tgt lv rest m cells slots Q) (kf : ¬ y < x → sm_go E L Y d mc ms vs (pc + 4) lv rest m cells slots Q) : sm_go E L Y d mc ms vs pc lv (.long y :: .long x :: rest) m cells slots Q :=
  sm_lcmp hdec (sm_if_gt tgt ht hdec2 (fun h => kt ((sm_lc_gt x y).mp h)) (fun h => kf (fun q => h ((sm_lc_gt x y).mpr q))))
theorem sm_lif_le {x y : Int64} {off : Int} (tgt : Nat) (ht : ((pc + 1 : Nat) : Int) + off = (tgt : Int)) (hdec : decode Y.2.1 pc = .ok (.lcmp, 1)) (hdec2 : decode Y.2.1 (pc + 1) = .ok (.ifCond .le off, 3)) (kt : x ≤ y → sm_go E L Y d mc ms vs tgt lv rest m cells slots Q) (kf : ¬ x ≤ y → sm_go E L Y d mc ms vs (pc + 4) lv rest m cells slots Q) : sm_go E L Y d mc ms vs pc lv (.long y :: .long x :: rest) m cells slots Q :=
  sm_lcmp hdec (sm_if_le tgt ht hdec2 (fun h => kt ((sm_lc_le x y).mp h)) (fun h => kf (fun q => h ((sm_lc_le x y).mpr q))))
end SMT
theorem sm_tout {x : Int32} {lo : Int} : ∀ (n : Nat), (∀ j : Nat, j < n → ¬ x.toInt = lo + j) → x.toInt < lo ∨ lo + n - 1 < x.toInt
  | 0, _ => by omega
  | n + 1, h => by
    have h1 := sm_tout n (fun j hj => h j (by omega))
    have h2 := h n (by omega)
    omega
/-- where the shape stays as it is: what L says of it stays -/
theorem sm_fix {E : sm_E} {L : sm_S → Prop} {Y : sm_Y} {d mc ms : Nat} {vs : List Value} {m : sm_M} {Q : Option Value → sm_M → Prop} (h : L m.2.2 → sm_call E (fun S => S = m.2.2) Y d mc ms vs m Q) : sm_call E L Y d mc ms vs m (fun r m' => Q r m' ∧ m'.2.2 = m.2.2) := by
  intro p e ha hc hk s x args below hf hap hp hK
  obtain ⟨rfl, p1, p2, p3⟩ := hp
  obtain ⟨n, o, h1, h2, h3, ⟨⟨r, m', e1, e2, e3⟩, e4⟩, h5⟩ := h p3.2.2.2 p e ha hc hk s x vs.toArray below hf hap ⟨rfl, p1, p2, p3.1, p3.2.1, p3.2.2.1, rfl⟩ hK
  exact ⟨n, o, h1, h2, h3, ⟨⟨r, m', e1, ⟨e2, e3.2.2.2⟩, e3.1, e3.2.1, e3.2.2.1, by rw [e3.2.2.2]; exact p3.2.2.2⟩, e4⟩, h5⟩
/-! the layout: where the cells of both objects lie -/
def ly_kn : List (Nat × Nat) := [(9, 0), (15, 6), (15, 6), (6, 0), (11, 60), (3, 0), (11, 24), (11, 24), (11, 24), (13, 24), (7, 0), (11, 100), (11, 100), (11, 100), (6, 0), (11, 100), (2, 0), (11, 48), (11, 192), (13, 192), (11, 96), (11, 24), (13, 24), (11, 48), (11, 49), (11, 48), (13, 48), (1, 0), (16, 24), (11, 48), (11, 48), (11, 48), (11, 48), (11, 48), (11, 48), (11, 48), (11, 48), (11, 48), (11, 48), (11, 48), (11, 48), (11, 48), (11, 48), (11, 48), (11, 48), (11, 48), (11, 48), (11, 48), (11, 48), (11, 48), (11, 48), (11, 48), (11, 48), (8, 0), (16, 13), (11, 12), (11, 12), (11, 12), (11, 12), (11, 12), (11, 12), (11, 12), (11, 12), (11, 12), (11, 12), (11, 12), (11, 12), (11, 12), (4, 0), (16, 13), (0, 0), (12, 40), (11, 40), (14, 4), (5, 0), (12, 48), (11, 7), (6, 0), (11, 60), (6, 0), (11, 60), (6, 0), (11, 60), (6, 0), (11, 60), (6, 0), (11, 60), (6, 0), (11, 60), (6, 0), (11, 60), (6, 0), (11, 60), (6, 0), (11, 60), (6, 0), (11, 60), (6, 0), (11, 60), (6, 0), (11, 60), (5, 0), (12, 48), (5, 0), (12, 48), (5, 0), (12, 48), (5, 0), (12, 48), (10, 0), (11, 7), (11, 360), (11, 6), (11, 360), (11, 6), (11, 200), (11, 100), (11, 40), (11, 40), (11, 40), (12, 192), (11, 4), (11, 4), (12, 200), (12, 200), (13, 200), (11, 200), (12, 64), (11, 192), (11, 192), (11, 24), (11, 64), (11, 64), (11, 64), (11, 64), (11, 64), (11, 48), (11, 48), (11, 48), (11, 50), (13, 192), (11, 24), (11, 24), (11, 24), (11, 1920), (12, 160), (11, 10), (12, 48), (12, 64)]
def ly_r : List (Nat × Nat × Nat) := [(0, 0, 1), (0, 1, 2), (0, 2, 3), (0, 3, 5), (0, 4, 10), (0, 5, 16), (0, 6, 27), (0, 7, 53), (0, 8, 68), (0, 9, 70), (0, 10, 73), (0, 11, 74), (0, 12, 76), (1, 0, 77), (1, 1, 81), (1, 2, 85), (1, 3, 89), (1, 4, 93), (1, 5, 97), (2, 0, 79), (2, 1, 83), (2, 2, 87), (2, 3, 91), (2, 4, 95), (2, 5, 99), (3, 0, 4), (5, 0, 6), (5, 1, 7), (5, 2, 8), (5, 3, 9), (10, 0, 11), (10, 1, 12), (10, 2, 13), (10, 3, 14), (14, 0, 15), (16, 0, 17), (16, 1, 18), (16, 2, 19), (16, 3, 20), (16, 4, 21), (16, 5, 22), (16, 6, 23), (16, 7, 24), (16, 8, 25), (16, 9, 26), (27, 0, 28), (53, 0, 54), (54, 0, 55), (54, 1, 56), (54, 2, 57), (54, 3, 58), (54, 4, 59), (54, 5, 60), (54, 6, 61), (54, 7, 62), (54, 8, 63), (54, 9, 64), (54, 10, 65), (54, 11, 66), (54, 12, 67), (68, 0, 69), (70, 0, 71), (70, 1, 72), (73, 0, 101), (73, 1, 103), (73, 2, 105), (73, 3, 107), (74, 0, 75), (77, 0, 78), (79, 0, 80), (81, 0, 82), (83, 0, 84), (85, 0, 86), (87, 0, 88), (89, 0, 90), (91, 0, 92), (93, 0, 94), (95, 0, 96), (97, 0, 98), (99, 0, 100), (101, 0, 102), (103, 0, 104), (105, 0, 106), (107, 0, 108), (109, 0, 110), (109, 1, 111), (109, 2, 112), (109, 3, 113), (109, 4, 114), (109, 5, 115), (109, 10, 116), (109, 12, 117), (109, 13, 118), (109, 14, 119), (109, 16, 120), (109, 17, 121), (109, 18, 122), (109, 19, 123), (109, 20, 124), (109, 21, 125), (109, 22, 126), (109, 35, 127), (109, 37, 128), (109, 38, 129), (109, 39, 130), (109, 40, 131), (109, 41, 132), (109, 42, 133), (109, 43, 134), (109, 44, 135), (109, 47, 136), (109, 48, 137), (109, 49, 138), (109, 50, 139), (109, 51, 140), (109, 55, 141), (109, 56, 142), (109, 57, 143), (109, 59, 144), (109, 62, 145), (109, 63, 146), (109, 65, 147), (109, 66, 148)]
/-- the shape of the memory once both objects are made; the grid's rows may be in any order, the lists of names come later -/
def ly (S : sm_S) : Prop := (∀ a q, ly_kn[a]? = some q → sm_K S a = q.1 ∧ sm_N S a = q.2) ∧ (∀ q ∈ ly_r, S.1 q.1 q.2.1 = some q.2.2) ∧ (∀ i, i < 24 → ∃ j, j < 24 ∧ S.1 28 i = some (29 + j)) ∧ (∀ i r, i < 13 → S.1 69 i = some r → 149 ≤ r ∧ sm_K S r = 11)
def sm_tan (L : sm_S → Prop) (a n : Nat) : Prop := ∀ S, L S → sm_K S a = 6 ∧ S.1 a 0 = some (a + 1) ∧ sm_K S (a + 1) = 11 ∧ sm_N S (a + 1) = n
def sm_she (L : sm_S → Prop) (a : Nat) : Prop := ∀ S, L S → sm_K S a = 5 ∧ S.1 a 0 = some (a + 1) ∧ sm_K S (a + 1) = 12 ∧ sm_N S (a + 1) = 48
theorem ly_o {L : sm_S → Prop} (hly : ∀ S, L S → ly S) (a k : Nat) {n : Nat} (h : ly_kn[a]? = some (k, n)) : ∀ S, L S → sm_K S a = k := fun S hS => ((hly S hS).1 a _ h).1
theorem ly_a {L : sm_S → Prop} (hly : ∀ S, L S → ly S) (a k n : Nat) (h : ly_kn[a]? = some (k, n)) : ∀ S, L S → sm_K S a = k ∧ sm_N S a = n := fun S hS => (hly S hS).1 a _ h
theorem ly_f {L : sm_S → Prop} (hly : ∀ S, L S → ly S) (j : Nat) {a k b : Nat} (h : ly_r[j]? = some (a, k, b)) : ∀ S, L S → S.1 a k = some b := fun S hS => (hly S hS).2.1 (a, k, b) (List.mem_of_getElem? h)
theorem ly_t {L : sm_S → Prop} (hly : ∀ S, L S → ly S) (a : Nat) {n j : Nat} (h1 : ly_kn[a]? = some (6, 0)) (h2 : ly_kn[a + 1]? = some (11, n)) (h3 : ly_r[j]? = some (a, 0, a + 1)) : sm_tan L a n := fun S hS => ⟨ly_o hly a 6 h1 S hS, ly_f hly j h3 S hS, ly_a hly (a + 1) 11 n h2 S hS⟩
theorem ly_s {L : sm_S → Prop} (hly : ∀ S, L S → ly S) (a : Nat) {j : Nat} (h1 : ly_kn[a]? = some (5, 0)) (h2 : ly_kn[a + 1]? = some (12, 48)) (h3 : ly_r[j]? = some (a, 0, a + 1)) : sm_she L a := fun S hS => ⟨ly_o hly a 5 h1 S hS, ly_f hly j h3 S hS, ly_a hly (a + 1) 12 48 h2 S hS⟩
theorem sm_lt6 {i : Nat} {P : Nat → Prop} (h : i < 6) (h0 : P 0) (h1 : P 1) (h2 : P 2) (h3 : P 3) (h4 : P 4) (h5 : P 5) : P i := by
  rcases (show i = 0 ∨ i = 1 ∨ i = 2 ∨ i = 3 ∨ i = 4 ∨ i = 5 by omega) with rfl | rfl | rfl | rfl | rfl | rfl <;> assumption
theorem sm_lt4 {i : Nat} {P : Nat → Prop} (h : i < 4) (h0 : P 0) (h1 : P 1) (h2 : P 2) (h3 : P 3) : P i := by
  rcases (show i = 0 ∨ i = 1 ∨ i = 2 ∨ i = 3 by omega) with rfl | rfl | rfl | rfl <;> assumption
theorem sm_inlt {i : Int32} {n : Nat} (h : vp_in i n) : i.toNatClampNeg < n := Nat.not_le.mp fun q => h (Or.inr q)
theorem ly_slotR {L : sm_S → Prop} (hly : ∀ S, L S → ly S) {i : Nat} (h : i < 6) : ∀ S, L S → S.1 1 i = some (77 + 4 * i) := sm_lt6 (P := fun i => ∀ S, L S → S.1 1 i = some (77 + 4 * i)) h (ly_f hly 13 rfl) (ly_f hly 14 rfl) (ly_f hly 15 rfl) (ly_f hly 16 rfl) (ly_f hly 17 rfl) (ly_f hly 18 rfl)
theorem ly_slotT {L : sm_S → Prop} (hly : ∀ S, L S → ly S) {i : Nat} (h : i < 6) : sm_tan L (77 + 4 * i) 60 := sm_lt6 (P := fun i => sm_tan L (77 + 4 * i) 60) h (ly_t hly 77 rfl rfl (j := 68) rfl) (ly_t hly 81 rfl rfl (j := 70) rfl) (ly_t hly 85 rfl rfl (j := 72) rfl) (ly_t hly 89 rfl rfl (j := 74) rfl) (ly_t hly 93 rfl rfl (j := 76) rfl) (ly_t hly 97 rfl rfl (j := 78) rfl)
theorem ly_keptR {L : sm_S → Prop} (hly : ∀ S, L S → ly S) {i : Nat} (h : i < 6) : ∀ S, L S → S.1 2 i = some (79 + 4 * i) := sm_lt6 (P := fun i => ∀ S, L S → S.1 2 i = some (79 + 4 * i)) h (ly_f hly 19 rfl) (ly_f hly 20 rfl) (ly_f hly 21 rfl) (ly_f hly 22 rfl) (ly_f hly 23 rfl) (ly_f hly 24 rfl)
theorem ly_keptT {L : sm_S → Prop} (hly : ∀ S, L S → ly S) {i : Nat} (h : i < 6) : sm_tan L (79 + 4 * i) 60 := sm_lt6 (P := fun i => sm_tan L (79 + 4 * i) 60) h (ly_t hly 79 rfl rfl (j := 69) rfl) (ly_t hly 83 rfl rfl (j := 71) rfl) (ly_t hly 87 rfl rfl (j := 73) rfl) (ly_t hly 91 rfl rfl (j := 75) rfl) (ly_t hly 95 rfl rfl (j := 77) rfl) (ly_t hly 99 rfl rfl (j := 79) rfl)
theorem ly_sheetR {L : sm_S → Prop} (hly : ∀ S, L S → ly S) {i : Nat} (h : i < 4) : ∀ S, L S → S.1 73 i = some (101 + 2 * i) := sm_lt4 (P := fun i => ∀ S, L S → S.1 73 i = some (101 + 2 * i)) h (ly_f hly 63 rfl) (ly_f hly 64 rfl) (ly_f hly 65 rfl) (ly_f hly 66 rfl)
theorem ly_sheetT {L : sm_S → Prop} (hly : ∀ S, L S → ly S) {i : Nat} (h : i < 4) : sm_she L (101 + 2 * i) := sm_lt4 (P := fun i => sm_she L (101 + 2 * i)) h (ly_s hly 101 rfl rfl (j := 80) rfl) (ly_s hly 103 rfl rfl (j := 81) rfl) (ly_s hly 105 rfl rfl (j := 82) rfl) (ly_s hly 107 rfl rfl (j := 83) rfl)
theorem sm_lt13 {i : Nat} {P : Nat → Prop} (h : i < 13) (hp : P 0 ∧ P 1 ∧ P 2 ∧ P 3 ∧ P 4 ∧ P 5 ∧ P 6 ∧ P 7 ∧ P 8 ∧ P 9 ∧ P 10 ∧ P 11 ∧ P 12) : P i := by
  rcases (show i = 0 ∨ i = 1 ∨ i = 2 ∨ i = 3 ∨ i = 4 ∨ i = 5 ∨ i = 6 ∨ i = 7 ∨ i = 8 ∨ i = 9 ∨ i = 10 ∨ i = 11 ∨ i = 12 by omega) with rfl | rfl | rfl | rfl | rfl | rfl | rfl | rfl | rfl | rfl | rfl | rfl | rfl
  · exact hp.1
  · exact hp.2.1
  · exact hp.2.2.1
  · exact hp.2.2.2.1
  · exact hp.2.2.2.2.1
  · exact hp.2.2.2.2.2.1
  · exact hp.2.2.2.2.2.2.1
  · exact hp.2.2.2.2.2.2.2.1
  · exact hp.2.2.2.2.2.2.2.2.1
  · exact hp.2.2.2.2.2.2.2.2.2.1
  · exact hp.2.2.2.2.2.2.2.2.2.2.1
  · exact hp.2.2.2.2.2.2.2.2.2.2.2.1
  · exact hp.2.2.2.2.2.2.2.2.2.2.2.2
theorem sm_lt24 {i : Nat} {P : Nat → Prop} (h : i < 24) (hp : P 0 ∧ P 1 ∧ P 2 ∧ P 3 ∧ P 4 ∧ P 5 ∧ P 6 ∧ P 7 ∧ P 8 ∧ P 9 ∧ P 10 ∧ P 11 ∧ P 12 ∧ P 13 ∧ P 14 ∧ P 15 ∧ P 16 ∧ P 17 ∧ P 18 ∧ P 19 ∧ P 20 ∧ P 21 ∧ P 22 ∧ P 23) : P i := by
  rcases (show i = 0 ∨ i = 1 ∨ i = 2 ∨ i = 3 ∨ i = 4 ∨ i = 5 ∨ i = 6 ∨ i = 7 ∨ i = 8 ∨ i = 9 ∨ i = 10 ∨ i = 11 ∨ i = 12 ∨ i = 13 ∨ i = 14 ∨ i = 15 ∨ i = 16 ∨ i = 17 ∨ i = 18 ∨ i = 19 ∨ i = 20 ∨ i = 21 ∨ i = 22 ∨ i = 23 by omega) with rfl | rfl | rfl | rfl | rfl | rfl | rfl | rfl | rfl | rfl | rfl | rfl | rfl | rfl | rfl | rfl | rfl | rfl | rfl | rfl | rfl | rfl | rfl | rfl
  · exact hp.1
  · exact hp.2.1
  · exact hp.2.2.1
  · exact hp.2.2.2.1
  · exact hp.2.2.2.2.1
  · exact hp.2.2.2.2.2.1
  · exact hp.2.2.2.2.2.2.1
  · exact hp.2.2.2.2.2.2.2.1
  · exact hp.2.2.2.2.2.2.2.2.1
  · exact hp.2.2.2.2.2.2.2.2.2.1
  · exact hp.2.2.2.2.2.2.2.2.2.2.1
  · exact hp.2.2.2.2.2.2.2.2.2.2.2.1
  · exact hp.2.2.2.2.2.2.2.2.2.2.2.2.1
  · exact hp.2.2.2.2.2.2.2.2.2.2.2.2.2.1
  · exact hp.2.2.2.2.2.2.2.2.2.2.2.2.2.2.1
  · exact hp.2.2.2.2.2.2.2.2.2.2.2.2.2.2.2.1
  · exact hp.2.2.2.2.2.2.2.2.2.2.2.2.2.2.2.2.1
  · exact hp.2.2.2.2.2.2.2.2.2.2.2.2.2.2.2.2.2.1
  · exact hp.2.2.2.2.2.2.2.2.2.2.2.2.2.2.2.2.2.2.1
  · exact hp.2.2.2.2.2.2.2.2.2.2.2.2.2.2.2.2.2.2.2.1
  · exact hp.2.2.2.2.2.2.2.2.2.2.2.2.2.2.2.2.2.2.2.2.1
  · exact hp.2.2.2.2.2.2.2.2.2.2.2.2.2.2.2.2.2.2.2.2.2.1
  · exact hp.2.2.2.2.2.2.2.2.2.2.2.2.2.2.2.2.2.2.2.2.2.2.1
  · exact hp.2.2.2.2.2.2.2.2.2.2.2.2.2.2.2.2.2.2.2.2.2.2.2
theorem ly_urowR {L : sm_S → Prop} (hly : ∀ S, L S → ly S) {i : Nat} (h : i < 13) : ∀ S, L S → S.1 54 i = some (55 + i) := sm_lt13 (P := fun i => ∀ S, L S → S.1 54 i = some (55 + i)) h ⟨ly_f hly 47 rfl, ly_f hly 48 rfl, ly_f hly 49 rfl, ly_f hly 50 rfl, ly_f hly 51 rfl, ly_f hly 52 rfl, ly_f hly 53 rfl, ly_f hly 54 rfl, ly_f hly 55 rfl, ly_f hly 56 rfl, ly_f hly 57 rfl, ly_f hly 58 rfl, ly_f hly 59 rfl⟩
theorem ly_urowA {L : sm_S → Prop} (hly : ∀ S, L S → ly S) {i : Nat} (h : i < 13) : ∀ S, L S → sm_K S (55 + i) = 11 ∧ sm_N S (55 + i) = 12 := sm_lt13 (P := fun i => ∀ S, L S → sm_K S (55 + i) = 11 ∧ sm_N S (55 + i) = 12) h ⟨ly_a hly 55 11 12 rfl, ly_a hly 56 11 12 rfl, ly_a hly 57 11 12 rfl, ly_a hly 58 11 12 rfl, ly_a hly 59 11 12 rfl, ly_a hly 60 11 12 rfl, ly_a hly 61 11 12 rfl, ly_a hly 62 11 12 rfl, ly_a hly 63 11 12 rfl, ly_a hly 64 11 12 rfl, ly_a hly 65 11 12 rfl, ly_a hly 66 11 12 rfl, ly_a hly 67 11 12 rfl⟩
theorem ly_growA {L : sm_S → Prop} (hly : ∀ S, L S → ly S) {i : Nat} (h : i < 24) : ∀ S, L S → sm_K S (29 + i) = 11 ∧ sm_N S (29 + i) = 48 := sm_lt24 (P := fun i => ∀ S, L S → sm_K S (29 + i) = 11 ∧ sm_N S (29 + i) = 48) h ⟨ly_a hly 29 11 48 rfl, ly_a hly 30 11 48 rfl, ly_a hly 31 11 48 rfl, ly_a hly 32 11 48 rfl, ly_a hly 33 11 48 rfl, ly_a hly 34 11 48 rfl, ly_a hly 35 11 48 rfl, ly_a hly 36 11 48 rfl, ly_a hly 37 11 48 rfl, ly_a hly 38 11 48 rfl, ly_a hly 39 11 48 rfl, ly_a hly 40 11 48 rfl, ly_a hly 41 11 48 rfl, ly_a hly 42 11 48 rfl, ly_a hly 43 11 48 rfl, ly_a hly 44 11 48 rfl, ly_a hly 45 11 48 rfl, ly_a hly 46 11 48 rfl, ly_a hly 47 11 48 rfl, ly_a hly 48 11 48 rfl, ly_a hly 49 11 48 rfl, ly_a hly 50 11 48 rfl, ly_a hly 51 11 48 rfl, ly_a hly 52 11 48 rfl⟩
theorem sm_lin {i : Int32} {n : Nat} (h : ¬ (i < 0 ∨ n ≤ i.toNatClampNeg)) : vp_in i n := h
section SMG
variable {E : sm_E} {L : sm_S → Prop} {Y Y' : sm_Y} {d mc ms d' mc' ms' : Nat} {vs : List Value} {pc : Nat} {lv : List (Nat × Value)} {rest : List Value} {m : sm_M} {cells slots : Nat} {Q : List Frame → State → State → Prop}
/-- a row of the grid, wherever it now stands -/
theorem sm_aaldR {i : Int32} (hly : ∀ S, L S → ly S) (hin : vp_in i 24) (hdec : decode Y.2.1 pc = .ok (.aaload, 1)) (kk : ∀ j, j < 24 → m.2.2.1 28 i.toNatClampNeg = some (29 + j) → sm_go E L Y d mc ms vs (pc + 1) lv (.ref (sm_B E + (29 + j)) :: rest) m cells slots Q) : sm_go E L Y d mc ms vs pc lv (.int i :: .ref (sm_B E + 28) :: rest) m cells slots Q := by
  intro p e s x below meth c H locs ls hat hP hS hl
  obtain ⟨j, hj, hr⟩ := (hly _ hP.2.2.2).2.2.1 _ (sm_inlt hin)
  exact sm_aaldA (n := 24) (b := 29 + j) (fun h => ly_a hly 28 16 24 rfl _ h) hin (fun _ => hr) hdec (kk j hj hr) p e s x below meth c H locs ls hat hP hS hl
end SMG
abbrev sm_rem (x y : Int32) : Int32 := x - x / y * y
abbrev sm_remL (x y : Int64) : Int64 := x - x / y * y
abbrev sm_ushr (x y : Int32) : Int32 := (x.toUInt32 >>> (y.toUInt32 &&& Int32.toUInt32 31)).toInt32
abbrev sm_ushrL (x : Int64) (y : Int32) : Int64 := (x.toUInt64 >>> (y.toInt64.toUInt64 &&& Int64.toUInt64 63)).toInt64
theorem sm_enterF {E : sm_E} {L : sm_S → Prop} {Y : sm_Y} {d mc ms : Nat} {vs : List Value} {m : sm_M} {Q : Option Value → sm_M → Prop} (hy : plainFor Y.1 = true) (hn : (lg_sl vs).length ≤ Y.2.2.1)
    (h : sm_go E L Y d mc ms vs 0 (lv_args 0 vs) [] m 0 0 (sm_Z E L vs mc ms Q)) : sm_call E L Y d mc ms vs m Q := by
  unfold sm_call
  refine va_MetF (cc := Y.2.1) (maxL := Y.2.2.1) (ret := Y.2.2.2) hy rfl ?_
  intro p e s x args below meth c s₁ B hml hv
  obtain ⟨rfl, hK, hF, hP⟩ := hv
  have hts := atoms_spec (ws := Cond.code Y.1 Y.2.1 Y.2.2.1 Y.2.2.2 :: sm_T) B.pre
  have hl := lv_entry vs (n := Y.2.2.1) hn
  rw [lg_entry_eq]
  exact h p e s x below meth c s.heap [] _ ⟨B.exec, B.bytes, hml, B.returns, B.notSynchronized, (name_of_methodNamed B.named B.method).1, findClass_of_methodNamed B.named, fun w hw => hts w (List.mem_cons_of_mem _ hw), hK, hF, by rw [hP.2.1]; exact Nat.le_add_right _ _⟩ hP va_S.rf hl
section SMX
variable {E : sm_E} {L : sm_S → Prop} {Y Y' : sm_Y} {d mc ms d' mc' ms' : Nat} {vs : List Value} {pc : Nat} {lv : List (Nat × Value)} {rest : List Value} {m : sm_M} {cells slots : Nat} {Q : List Frame → State → State → Prop}
theorem sm_istore0_n {k : Fin 4} {v : Int32} (lv2 : List (Nat × Value)) (i : Nat) (hi : (k : Nat) = i) (hn : i < Y.2.2.1) (hf : (i, Value.int v) :: lv.filter (fun q => !(q.1 == i) && !(q.1 + 1 == i && q.2.category == 2)) = lv2) (hdec : decode Y.2.1 pc = .ok (.istore_n k, 1)) (kk : sm_go E L Y d mc ms vs (pc + 1) lv2 rest m cells slots Q) : sm_go E L Y d mc ms vs pc lv (.int v :: rest) m cells slots Q :=
  sm_istore_n (fun y => (i, Value.int y) :: lv.filter (fun q => !(q.1 == i) && !(q.1 + 1 == i && q.2.category == 2))) i hi hn (fun _ => rfl) hdec (fun y e => by subst e; rw [hf]; exact kk)
theorem sm_istore0 {v : Int32} (lv2 : List (Nat × Value)) (i : Nat) (hn : i < Y.2.2.1) (hf : (i, Value.int v) :: lv.filter (fun q => !(q.1 == i) && !(q.1 + 1 == i && q.2.category == 2)) = lv2) (hdec : decode Y.2.1 pc = .ok (.istore i, 2)) (kk : sm_go E L Y d mc ms vs (pc + 2) lv2 rest m cells slots Q) : sm_go E L Y d mc ms vs pc lv (.int v :: rest) m cells slots Q :=
  sm_istore (fun y => (i, Value.int y) :: lv.filter (fun q => !(q.1 == i) && !(q.1 + 1 == i && q.2.category == 2))) i hn (fun _ => rfl) hdec (fun y e => by subst e; rw [hf]; exact kk)
theorem sm_lstore0_n {k : Fin 4} {v : Int64} (lv2 : List (Nat × Value)) (i : Nat) (hi : (k : Nat) = i) (hn : i + 1 < Y.2.2.1) (hf : (i, Value.long v) :: lv.filter (fun q => !(q.1 == i) && (!(q.1 == i + 1) && !(q.1 + 1 == i && q.2.category == 2))) = lv2) (hdec : decode Y.2.1 pc = .ok (.lstore_n k, 1)) (kk : sm_go E L Y d mc ms vs (pc + 1) lv2 rest m cells slots Q) : sm_go E L Y d mc ms vs pc lv (.long v :: rest) m cells slots Q :=
  sm_lstore_n (fun y => (i, Value.long y) :: lv.filter (fun q => !(q.1 == i) && (!(q.1 == i + 1) && !(q.1 + 1 == i && q.2.category == 2)))) i hi hn (fun _ => rfl) hdec (fun y e => by subst e; rw [hf]; exact kk)
theorem sm_lstore0 {v : Int64} (lv2 : List (Nat × Value)) (i : Nat) (hn : i + 1 < Y.2.2.1) (hf : (i, Value.long v) :: lv.filter (fun q => !(q.1 == i) && (!(q.1 == i + 1) && !(q.1 + 1 == i && q.2.category == 2))) = lv2) (hdec : decode Y.2.1 pc = .ok (.lstore i, 2)) (kk : sm_go E L Y d mc ms vs (pc + 2) lv2 rest m cells slots Q) : sm_go E L Y d mc ms vs pc lv (.long v :: rest) m cells slots Q :=
  sm_lstore (fun y => (i, Value.long y) :: lv.filter (fun q => !(q.1 == i) && (!(q.1 == i + 1) && !(q.1 + 1 == i && q.2.category == 2)))) i hn (fun _ => rfl) hdec (fun y e => by subst e; rw [hf]; exact kk)
end SMX
