section SMM
variable {E : sm_E} {Y : sm_Y} {d mc ms : Nat} {vs : List Value} {pc : Nat} {lv : List (Nat × Value)} {rest : List Value} {m : sm_M} {cells slots : Nat} {Q : List Frame → State → State → Prop}
/-- N rows of K ints, and the row of them before -/
def sm_nwm (m : sm_M) (N K : Nat) : sm_M := (fun x => if sm_top m.2.2 ≤ x then fun _ => 0 else m.1 x, fun x => if sm_top m.2.2 ≤ x then fun _ => 0 else m.2.1 x, (fun x => if x = sm_top m.2.2 then (fun i => if i < N then some (sm_top m.2.2 + 1 + i) else none) else if sm_top m.2.2 ≤ x then fun _ => none else m.2.2.1 x), (fun x => if x = sm_top m.2.2 then 16 else if sm_top m.2.2 ≤ x then (if x ≤ sm_top m.2.2 + N then 11 else 100) else sm_K m.2.2 x), (fun x => if x = sm_top m.2.2 then N else if sm_top m.2.2 ≤ x then K else sm_N m.2.2 x), sm_top m.2.2 + 1 + N)
theorem sm_outer (c : ClassId) (N h0 i : Nat) : Jvm.Free.Multi.outerC c N h0 i = arrV c N (fun j => va_rf (if j < i then some (h0 + 1 + j) else none)) := by
  induction i with
  | zero =>
    show ({ cls := c, slots := Array.replicate N .null, vm := .none } : Cell) = _
    rw [arrV_new]
    congr 1
  | succ i ih =>
    show (Jvm.Free.Multi.outerC c N h0 i).setSlot i (.ref (h0 + 1 + i)) = _
    rw [ih, arrV_store]
    congr 1
    funext j
    rcases Nat.lt_trichotomy j i with h | h | h
    · simp [updV, Nat.ne_of_lt h, h, Nat.lt_succ_of_lt h]
    · subst h
      simp [updV, va_rf]
    · simp [updV, Nat.ne_of_gt h, show ¬ j < i by omega, show ¬ j < i + 1 by omega]
theorem sm_mna {n k : Int32} {N K idx : Nat} (hcl : Cond.classLink Y.1.cls idx "[[I" ∈ sm_T) (harr : Cond.arrayClass .int ∈ sm_T) (hn : ¬ n < 0) (hk : ¬ k < 0) (hN : n.toNatClampNeg = N) (hM : k.toNatClampNeg = K) (hb1 : N * 4 ≤ 536870912) (hb2 : K * 4 ≤ 536870912) (hc : cells + (1 + N) ≤ mc) (hs : slots + (N + N * K) ≤ ms) (hdec : decode Y.2.1 pc = .ok (.multianewarray idx 2, 4))
    (kk : ∀ m1, m1 = sm_nwm m N K → sm_go E sm_L0 Y d mc ms vs (pc + 4) lv (.ref (sm_B E + sm_top m.2.2) :: rest) m1 (cells + (1 + N)) (slots + (N + N * K)) Q) : sm_go E sm_L0 Y d mc ms vs pc lv (.int k :: .int n :: rest) m cells slots Q := by
  intro p e s x below meth c H locs ls hat hP hS hl
  obtain ⟨hx, hb, hml, hr, hlk, hnm, hown, hts, hKK, hF, hB⟩ := id hat
  subst hN
  subst hM
  have hs0 : "[" ++ (FieldType.array .int).toString = "[[I" := by decide +kernel
  intro T hT Xs
  obtain ⟨vm₁, cA, comp, -, fA, fC, -, -, X', step⟩ := Xs.multianewarray2F hx (ty := .int) hown (by rw [hs0]; exact hts _ hcl) (over_moved (Vm.Alike.refl s.vm) hF.2.2.2.2.2.2.1.2.2.2.2.1) (hts _ harr) (g := F0 x pc ls (.int k :: .int n :: rest)) rfl (by rw [hb]; exact hdec) rfl hn hk hb1 hb2 (by omega) rfl rfl hc hs
  have hcA : cA = E.2.2.1 5 := Option.some.inj (fA.symm.trans (hKK.2 5 _ rfl).2)
  have hcC : comp = E.2.2.1 0 := Option.some.inj (fC.symm.trans (hKK.2 0 _ rfl).2)
  subst hcA
  subst hcC
  generalize hG : Jvm.Free.Multi.fill (T.setVm vm₁) (E.2.2.1 5) (E.2.2.1 0) n.toNatClampNeg k.toNatClampNeg (defaultValue .int) n.toNatClampNeg = G at X' step
  have hTh : (T.setVm vm₁).heap = H := hT
  obtain ⟨f1, f2, -, -⟩ := Jvm.Free.Multi.fill_facts (T.setVm vm₁) (E.2.2.1 5) (E.2.2.1 0) n.toNatClampNeg k.toNatClampNeg (defaultValue .int) n.toNatClampNeg
  have hold : ∀ q : Nat, q < H.size → G.heap[q]? = H[q]? := fun q hq => by
    have h := Jvm.Free.Multi.fill_old (T.setVm vm₁) (E.2.2.1 5) (E.2.2.1 0) n.toNatClampNeg k.toNatClampNeg (defaultValue .int) (a := q) (by rw [hTh]; exact hq) n.toNatClampNeg
    rw [hG, hTh] at h
    exact h
  have hrow : ∀ j : Nat, j < n.toNatClampNeg → G.heap[H.size + 1 + j]? = some (Jvm.Free.Multi.innerC (E.2.2.1 0) k.toNatClampNeg (defaultValue .int)) := fun j hj => by
    have h := Jvm.Free.Multi.fill_inner (T.setVm vm₁) (E.2.2.1 5) (E.2.2.1 0) n.toNatClampNeg k.toNatClampNeg (defaultValue .int) n.toNatClampNeg j hj
    rw [hG, hTh] at h
    exact h
  rw [hG, hTh] at f1 f2
  rw [sm_outer] at f2
  have hsz := hP.2.1
  have hP1 : sm_P E sm_L0 (sm_nwm m n.toNatClampNeg k.toNatClampNeg) G.heap := by
    refine ⟨fun j q hj => ?_, ?_, fun b hb9 => ?_, trivial⟩
    · obtain ⟨hj1, rfl⟩ := sm_ws_some hj
      have hj2 : j < sm_top m.2.2 + 1 + n.toNatClampNeg := hj1
      rcases Nat.lt_trichotomy j (sm_top m.2.2) with h | h | h
      · have h0 : ¬ sm_top m.2.2 ≤ j := by omega
        have h1 : ¬ j = sm_top m.2.2 := by omega
        have h8 : sm_cell E (sm_nwm m n.toNatClampNeg k.toNatClampNeg) j = sm_cell E m j := sm_cell_congr (by simp [sm_nwm, h0]) (by simp [sm_nwm, h0]) (by simp [sm_nwm, h0, h1]) (by simp [sm_nwm, h0, h1, sm_K]) (by simp [sm_nwm, h0, h1, sm_N])
        rw [h8]
        have h9 := hP.1 j _ (sm_ws_get h)
        exact h9.kept (hold _ h9.lt)
      · subst h
        have hk9 : sm_K (sm_nwm m n.toNatClampNeg k.toNatClampNeg).2.2 (sm_top m.2.2) = 16 := by simp [sm_nwm, sm_K]
        rw [sm_cell_A hk9]
        show G.heap[sm_B E + sm_top m.2.2]? = some (vp_cell _ _)
        rw [← hsz, f2, vp_cell_q]
        congr 1
        have hNN : sm_N (sm_nwm m n.toNatClampNeg k.toNatClampNeg).2.2 (sm_top m.2.2) = n.toNatClampNeg := by simp [sm_nwm, sm_N]
        rw [hNN]
        congr 1
        funext i
        by_cases hi : i < n.toNatClampNeg
        · simp [sm_nwm, hi, sm_rf, hsz, Nat.add_assoc]
        · simp [sm_nwm, hi, sm_rf]
      · have h0 : sm_top m.2.2 ≤ j := by omega
        have h1 : ¬ j = sm_top m.2.2 := by omega
        have h2 : j ≤ sm_top m.2.2 + n.toNatClampNeg := by omega
        have hk9 : sm_K (sm_nwm m n.toNatClampNeg k.toNatClampNeg).2.2 j = 11 := by simp [sm_nwm, sm_K, h0, h1, h2]
        rw [sm_cell_I hk9]
        show G.heap[sm_B E + j]? = some (vp_cell _ _)
        have h3 := hrow (j - (sm_top m.2.2 + 1)) (by omega)
        rw [show H.size + 1 + (j - (sm_top m.2.2 + 1)) = sm_B E + j by rw [hsz]; omega] at h3
        rw [h3, vp_cell_i]
        have hNN : sm_N (sm_nwm m n.toNatClampNeg k.toNatClampNeg).2.2 j = k.toNatClampNeg := by simp [sm_nwm, sm_N, h0, h1]
        have hII : (sm_nwm m n.toNatClampNeg k.toNatClampNeg).1 j = fun _ => 0 := by simp [sm_nwm, h0]
        rw [hNN, hII, ← arrV_new]
        rfl
    · rw [f1, hsz]
      show _ = sm_B E + (sm_top m.2.2 + 1 + n.toNatClampNeg)
      omega
    · show b < sm_top m.2.2 + 1 + n.toNatClampNeg
      apply Classical.byContradiction
      intro hb1
      have h0 : sm_top m.2.2 ≤ b := by omega
      have h1 : ¬ b = sm_top m.2.2 := by omega
      have h2 : ¬ b ≤ sm_top m.2.2 + n.toNatClampNeg := by omega
      simp [sm_nwm, sm_K, h0, h1, h2] at hb9
  have hS1 : va_S (sm_A E) s.heap G.heap locs := ⟨Nat.le_trans hS.1 (by rw [f1]; omega), fun q h1 h2 => (hold q (Nat.lt_of_lt_of_le h1 hS.1)).trans (hS.2.1 q h1 h2), hS.2.2⟩
  have h9 := kk _ rfl p e s x below meth c G.heap locs ls hat hP1 hS1 hl
  rw [← Nat.add_assoc cells, ← Nat.add_assoc slots, ← hsz] at h9
  obtain ⟨t, a1, b1⟩ := h9 G rfl X'
  rw [← hT] at a1
  exact ⟨t, step t a1, b1⟩
end SMM
