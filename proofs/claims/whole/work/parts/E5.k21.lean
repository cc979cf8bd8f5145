/-! listed: the call -/
theorem Inv.ls {c : Nat} {m m' : sm_M} (h : Inv c m) (hs : ∀ a, a < 149 → m'.1 a = m.1 a ∧ m'.2.1 a = m.2.1 a) (hL : LI m') : Inv c m' := by
  have hf : frw (fun a _ => 149 ≤ a) m ((m'.1, m'.2.1, m.2.2) : sm_M) := ⟨fun a k hn => ⟨congrFun (hs a (by omega)).1 k, congrFun (hs a (by omega)).2 k⟩, fun b _ => rfl, rfl, fun q => q⟩
  obtain ⟨h0, ⟨a1, a2, a3, a4, a5, a6, a7⟩, h2⟩ := h
  have b1 : SL ((m'.1, m'.2.1, m.2.2) : sm_M) := a1.frw hf (fun a k _ _ => by omega) (fun k => by omega)
  have b2 : KP ((m'.1, m'.2.1, m.2.2) : sm_M) := a2.frw hf (fun a k _ _ => by omega) (fun k => by omega) (by omega)
  have b3 : ZZ ((m'.1, m'.2.1, m.2.2) : sm_M) := a3.frw hf (by omega)
  have b4 : TP ((m'.1, m'.2.1, m.2.2) : sm_M) := a4.frw hf ⟨by omega, by omega, fun k => by omega⟩
  have b5 : BK c ((m'.1, m'.2.1, m.2.2) : sm_M) := a5.frw hf ⟨by omega, by omega, by omega, fun k => by omega⟩
  have b6 : SH ((m'.1, m'.2.1, m.2.2) : sm_M) := a6.frw hf (fun s hs => ⟨by omega, by omega, by omega, by omega, fun k => by omega⟩)
  refine ⟨h0, ⟨b1, b2, b3, b4, b5, b6, hL⟩, fun k hk => ?_⟩
  rw [(hs 76 (by omega)).1, (hs 110 (by omega)).1]
  exact h2 k hk
theorem enm_bd {s n : Nat} {g : Nat → Nat} (hs : s ≤ 12) (h : enm s n g) : n ≤ 300000 ∧ ∀ k, k < n → g k < 300000 := by
  have hg : ∀ k, k < n → g k < 299999 := fun k hk => by
    obtain ⟨a, b, h1, h2⟩ := h.2.1 k hk
    have hbd := eS_bd h1.2.1 h1.2.2.1 h1.2.2.2.1 (by rw [h1.2.2.2.2.1]; exact hs)
    have hlt := h1.2.2.1
    omega
  have hle : ∀ k, k < n → k ≤ g k := by
    intro k
    induction k with
    | zero => exact fun _ => Nat.zero_le _
    | succ k ih =>
      intro hk
      have a1 := ih (by omega)
      have a2 := h.1 k (k + 1) (by omega) hk
      omega
  refine ⟨?_, fun k hk => by have := hg k hk; omega⟩
  apply Classical.byContradiction
  intro hn
  have a1 := hle (n - 1) (by omega)
  have a2 := hg (n - 1) (by omega)
  omega
section K21
variable {E : sm_E} {d d1 d2 : Nat} {m : sm_M} {c : Nat}
theorem c_codesOf {Q : Nat → sm_M → Prop} {s : Nat} (hd : 4 ≤ d) (hs1 : 2 ≤ s) (hs2 : s ≤ 12) (hLI : LI m) (h : ∀ m' r, (∀ a, a < 149 → m'.1 a = m.1 a ∧ m'.2.1 a = m.2.1 a) → LI m' → m'.2.2.1 69 s = some r → Q r m') : sm_callA E lz mX5_codesOf d 2 2048 [.ref (sm_B E + 68), .int (iI (s : Nat))] m Q := by
  have hcl : (iI (s : Int)).toNatClampNeg = s := cN (by omega)
  have hin : vp_in (iI (s : Int)) 13 := (inN (by omega)).mpr (by omega)
  have hms : min (max (s : Int) 2) 12 = (s : Int) := by omega
  have tail : ∀ (m' : sm_M) (r cells slots : Nat), cells ≤ 2 → slots ≤ 2048 → m'.2.2.1 69 s = some r → Q r m' → sm_go E lz mX5_codesOf d 2 2048 [.ref (sm_B E + 68), .int (iI (s : Nat))] 30 [(2, .int (iI (s : Nat))), (0, .ref (sm_B E + 68)), (1, .int (iI (s : Nat)))] [] m' cells slots (sm_Z E lz [.ref (sm_B E + 68), .int (iI (s : Nat))] 2 2048 (sm_QA E Q)) := by
    intro m' r cells slots hc hsl hr hQ
    refine sm_aload_n (Y := mX5_codesOf) (pc := 30) 1 0 rfl rfl dX5_codesOf_30 ?_
    refine gf_RX5_11 (Y := mX5_codesOf) (pc := 31) (b := 69) rfl (lk_68 lz_ly _) (lf_68_0 lz_ly _) dX5_codesOf_31 ?_
    refine sm_iload_n (Y := mX5_codesOf) (pc := 34) 0 2 rfl rfl dX5_codesOf_34 ?_
    refine sm_aaldA (Y := mX5_codesOf) (pc := 35) (b := r) (la_69 lz_ly _) hin (fun _ => by rw [hcl]; exact hr) dX5_codesOf_35 ?_
    refine sm_widen (k := 2) (n := 2048) hc hsl ?_
    exact sm_aret (Y := mX5_codesOf) (pc := 36) rfl (Or.inr ⟨_, rfl⟩) rfl rfl dX5_codesOf_36 ⟨_, rfl, hQ⟩
  refine sm_enter (by decide +kernel) (by simp [lg_sl, Value.category]) (sm_hyp (fun hwf hlz => ?_))
  have ht := ly_top hlz
  refine sm_iload_n (Y := mX5_codesOf) (pc := 0) 1 1 rfl rfl dX5_codesOf_0 ?_
  refine sm_iconst (Y := mX5_codesOf) (pc := 1) 2 (by decide) dX5_codesOf_1 ?_
  refine sm_is_I (Y := mX5_codesOf) (pc := 2) (d' := 1) (mc' := 0) (ms' := 0) (As := [.int (iI (s : Nat)), .int 2]) fJ9_max_7cf53 wRX5_21 rfl (by omega) (Nat.le_of_ble_eq_true rfl) ⟨by omega, by omega⟩ dX5_codesOf_2 rfl (c_max (a := (s : Int)) (b := 2) (by omega) (by omega) (by omega) (by omega) (by omega) ?_)
  refine sm_bipush (Y := mX5_codesOf) (pc := 5) 12 (by decide) dX5_codesOf_5 ?_
  refine sm_is_I (Y := mX5_codesOf) (pc := 7) (d' := 1) (mc' := 0) (ms' := 0) (As := [.int (iI (max (s : Int) 2)), .int 12]) fJ9_min_7cf53 wRX5_27 rfl (by omega) (Nat.le_of_ble_eq_true rfl) ⟨by omega, by omega⟩ dX5_codesOf_7 rfl (c_min (a := max (s : Int) 2) (b := 12) (by omega) (by omega) (by omega) (by omega) (by omega) ?_)
  rw [hms]
  refine sm_istore_n (Y := mX5_codesOf) (pc := 10) (fun y => [(2, .int y), (0, .ref (sm_B E + 68)), (1, .int (iI (s : Nat)))]) 2 rfl (by decide) (fun _ => rfl) dX5_codesOf_10 (fun y ey => ?_)
  subst ey
  refine sm_aload_n (Y := mX5_codesOf) (pc := 11) 1 0 rfl rfl dX5_codesOf_11 ?_
  refine gf_RX5_11 (Y := mX5_codesOf) (pc := 12) (b := 69) rfl (lk_68 lz_ly _) (lf_68_0 lz_ly _) dX5_codesOf_12 ?_
  refine sm_iload_n (Y := mX5_codesOf) (pc := 15) 0 2 rfl rfl dX5_codesOf_15 ?_
  refine sm_aaldA0 (Y := mX5_codesOf) (pc := 16) (la_69 lz_ly _) hin dX5_codesOf_16 ?_
  rw [hcl]
  cases h69 : m.2.2.1 69 s with
  | some r =>
    exact sm_ifnonnull (Y := mX5_codesOf) (pc := 17) (a := sm_B E + r) 30 (by decide) dX5_codesOf_17 (tail m r _ _ (by omega) (by omega) h69 (h m r (fun a _ => ⟨rfl, rfl⟩) hLI h69))
  | none =>
    refine sm_ifnonnullN (Y := mX5_codesOf) (pc := 17) dX5_codesOf_17 ?_
    refine sm_aload_n (Y := mX5_codesOf) (pc := 20) 1 0 rfl rfl dX5_codesOf_20 ?_
    refine gf_RX5_11 (Y := mX5_codesOf) (pc := 21) (b := 69) rfl (lk_68 lz_ly _) (lf_68_0 lz_ly _) dX5_codesOf_21 ?_
    refine sm_iload_n (Y := mX5_codesOf) (pc := 24) 0 2 rfl rfl dX5_codesOf_24 ?_
    refine sm_iload_n (Y := mX5_codesOf) (pc := 25) 0 2 rfl rfl dX5_codesOf_25 ?_
    refine sm_is_A (Y := mX5_codesOf) (pc := 26) (d' := 3) (mc' := 2) (ms' := 2048) (As := [.int (iI (s : Nat))]) fX5_made wRX5_30 rfl (by omega) (Nat.le_of_ble_eq_true rfl) ⟨by omega, by omega⟩ dX5_codesOf_26 rfl (c_made (by omega) hs1 hs2 (fun m2 q n g hsam hq1 hq2 hK hN he hv => ?_))
    refine sm_aastA (Y := mX5_codesOf) (pc := 29) (la_69 lz_ly _) hin (fun _ => hK) (fun hl => lz_wR hq2 hK hl) dX5_codesOf_29 (fun m3 e3 => ?_)
    rw [hcl] at e3
    have r3 : m3.2.2.1 69 s = some q := by rw [e3]; simp [sm_wR, sm_u]
    have r3' : ∀ s', s' ≠ s → m3.2.2.1 69 s' = m.2.2.1 69 s' := fun s' hs' => by
      have : m3.2.2.1 69 s' = m2.2.2.1 69 s' := by rw [e3]; simp [sm_wR, sm_u, hs']
      rw [this, (hsam 69 (by omega)).2.2.1]
    have v3 : m3.1 = m2.1 := by rw [e3]; rfl
    have v3' : m3.2.1 = m2.2.1 := by rw [e3]; rfl
    have s3 : m3.2.2.2 = m2.2.2.2 := by rw [e3]; rfl
    have L3 : LI m3 := by
      refine ⟨?_, fun s' r h1 h2 h3 => ?_⟩
      · have e28 : m3.2.2.1 28 = m.2.2.1 28 := by
          have : m3.2.2.1 28 = m2.2.2.1 28 := by rw [e3]; exact sm_u_ne (f := m2.2.2.1) (a := 69) (i := s) (v := some q) (b := 28) (by decide)
          rw [this, (hsam 28 (by omega)).2.2.1]
        have := hLI.1
        unfold inj28 at *
        rw [e28]
        exact this
      · have eN : sm_N m3.2.2 = sm_N m2.2.2 := by
          show m3.2.2.2.2.1 = m2.2.2.2.2.1
          rw [s3]
        by_cases hss : s' = s
        · subst hss
          rw [r3] at h3
          injection h3 with h4
          subst h4
          obtain ⟨en, eg⟩ := enm_eq he (lcode_enm hs2)
          refine ⟨hq2, by rw [eN, hN]; exact en, fun k hk => ?_⟩
          rw [v3, hv k (by omega), eg k (by omega)]
        · rw [r3' s' hss] at h3
          obtain ⟨a1, a2, a3⟩ := hLI.2 s' r h1 h2 h3
          have hrt : r < sm_top m.2.2 := hlz.2 r (by rw [(hlz.1.2.2.2 s' r (by omega) h3).2]; decide)
          obtain ⟨p1, p2, p3, p4, p5⟩ := hsam r hrt
          refine ⟨a1, by rw [eN, p5]; exact a2, fun k hk => ?_⟩
          rw [v3, p1]
          exact a3 k hk
    exact tail m3 q _ _ (by omega) (by omega) r3 (h m3 q (fun a ha => ⟨by rw [v3, (hsam a (by omega)).1], by rw [v3', (hsam a (by omega)).2.1]⟩) L3 r3)
theorem c_lengthOf {Q : Int32 → sm_M → Prop} {s : Nat} (hd : 5 ≤ d) (hs1 : 2 ≤ s) (hs2 : s ≤ 12) (hLI : LI m) (h : ∀ m', (∀ a, a < 149 → m'.1 a = m.1 a ∧ m'.2.1 a = m.2.1 a) → LI m' → Q (iI ((lcode s).length : Nat)) m') : sm_callI E lz mX5_lengthOf d 2 2048 [.ref (sm_B E + 68), .int (iI (s : Nat))] m Q := by
  refine sm_enter (by decide +kernel) (by simp [lg_sl, Value.category]) ?_
  refine sm_aload_n (Y := mX5_lengthOf) (pc := 0) 0 0 rfl rfl dX5_lengthOf_0 ?_
  refine sm_iload_n (Y := mX5_lengthOf) (pc := 1) 1 1 rfl rfl dX5_lengthOf_1 ?_
  refine sm_iv_A (Y := mX5_lengthOf) (pc := 2) (d' := 4) (mc' := 2) (ms' := 2048) (As := [.int (iI (s : Nat))]) (a := 68) fX5_codesOf wRX5_17 (lk_68 lz_ly) (by decide) rfl rfl rfl (by omega) (Nat.le_of_ble_eq_true rfl) ⟨by omega, by omega⟩ dX5_lengthOf_2 rfl (c_codesOf (by omega) hs1 hs2 hLI (fun m' r f1 hL hr => ?_))
  refine sm_alenI (Y := mX5_lengthOf) (pc := 5) (n := (lcode s).length) (fun hl => ⟨(hl.1.2.2.2 s r (by omega) hr).2, (hL.2 s r hs1 hs2 hr).2.1⟩) dX5_lengthOf_5 ?_
  have h9 := h m' f1 hL
  rw [← nI_i] at h9
  exact sm_iret (Y := mX5_lengthOf) (pc := 6) rfl rfl rfl dX5_lengthOf_6 ⟨_, rfl, h9⟩
theorem c_topAt {Q : Int32 → sm_M → Prop} {s i : Nat} (hd : 5 ≤ d) (hs1 : 2 ≤ s) (hs2 : s ≤ 12) (hi : i < (lcode s).length) (hLI : LI m) (h : ∀ m', (∀ a, a < 149 → m'.1 a = m.1 a ∧ m'.2.1 a = m.2.1 a) → LI m' → Q (iI (((lcode s).getD i 0 / 1024 : Nat) : Int)) m') : sm_callI E lz mX5_topAt d 2 2048 [.ref (sm_B E + 68), .int (iI (s : Nat)), .int (iI (i : Nat))] m Q := by
  have hb := enm_bd hs2 (lcode_enm hs2)
  have hgi := hb.2 i hi
  refine sm_enter (by decide +kernel) (by simp [lg_sl, Value.category]) ?_
  refine sm_aload_n (Y := mX5_topAt) (pc := 0) 0 0 rfl rfl dX5_topAt_0 ?_
  refine sm_iload_n (Y := mX5_topAt) (pc := 1) 1 1 rfl rfl dX5_topAt_1 ?_
  refine sm_iv_A (Y := mX5_topAt) (pc := 2) (d' := 4) (mc' := 2) (ms' := 2048) (As := [.int (iI (s : Nat))]) (a := 68) fX5_codesOf wRX5_17 (lk_68 lz_ly) (by decide) rfl rfl rfl (by omega) (Nat.le_of_ble_eq_true rfl) ⟨by omega, by omega⟩ dX5_topAt_2 rfl (c_codesOf (by omega) hs1 hs2 hLI (fun m' r f1 hL hr => ?_))
  have hA : lz m'.2.2 → sm_K m'.2.2 r = 11 ∧ sm_N m'.2.2 r = (lcode s).length := fun hl => ⟨(hl.1.2.2.2 s r (by omega) hr).2, (hL.2 s r hs1 hs2 hr).2.1⟩
  refine sm_astore_n (Y := mX5_topAt) (pc := 5) [(3, .ref (sm_B E + r)), (0, .ref (sm_B E + 68)), (1, .int (iI (s : Nat))), (2, .int (iI (i : Nat)))] 3 rfl (by decide) rfl dX5_topAt_5 ?_
  refine sm_iload_n (Y := mX5_topAt) (pc := 6) 3 2 rfl rfl dX5_topAt_6 ?_
  refine sm_if_lt (Y := mX5_topAt) (pc := 7) 26 (by decide) dX5_topAt_7 (fun hc => ?_) (fun _ => ?_)
  · rw [iI_lit, iI_lt (by omega) (by omega) (by omega) (by omega)] at hc
    omega
  refine sm_iload_n (Y := mX5_topAt) (pc := 10) 3 2 rfl rfl dX5_topAt_10 ?_
  refine sm_aload_n (Y := mX5_topAt) (pc := 11) 0 3 rfl rfl dX5_topAt_11 ?_
  refine sm_alenI (Y := mX5_topAt) (pc := 12) hA dX5_topAt_12 ?_
  refine sm_icmp_ge (Y := mX5_topAt) (pc := 13) 26 (by decide) dX5_topAt_13 (fun hc => ?_) (fun _ => ?_)
  · rw [nI_i, iI_le (by omega) (by omega) (by omega) (by omega)] at hc
    omega
  refine sm_aload_n (Y := mX5_topAt) (pc := 16) 0 3 rfl rfl dX5_topAt_16 ?_
  refine sm_iload_n (Y := mX5_topAt) (pc := 17) 3 2 rfl rfl dX5_topAt_17 ?_
  refine sm_iald (Y := mX5_topAt) (pc := 18) hA ((inN (by omega)).mpr hi) dX5_topAt_18 ?_
  refine sm_sipush (Y := mX5_topAt) (pc := 19) 1024 (by decide) dX5_topAt_19 ?_
  refine sm_idiv (Y := mX5_topAt) (pc := 22) (by decide) dX5_topAt_22 ?_
  refine sm_goto (Y := mX5_topAt) (pc := 23) 27 (by decide) dX5_topAt_23 ?_
  have h9 := h m' f1 hL
  have e : m'.1 r (iI (i : Int)).toNatClampNeg / 1024 = iI (((lcode s).getD i 0 / 1024 : Nat) : Int) := by
    rw [cN (by omega), (hL.2 s r hs1 hs2 hr).2.2 i hi, iI_lit, iI_div (by omega) (by omega) (by omega) (by omega), Int.tdiv_eq_ediv_of_nonneg (by omega)]
    rfl
  rw [e]
  exact sm_iret (Y := mX5_topAt) (pc := 27) rfl rfl rfl dX5_topAt_27 ⟨_, rfl, h9⟩
theorem c_bottomAt {Q : Int32 → sm_M → Prop} {s i : Nat} (hd : 5 ≤ d) (hs1 : 2 ≤ s) (hs2 : s ≤ 12) (hi : i < (lcode s).length) (hLI : LI m) (h : ∀ m', (∀ a, a < 149 → m'.1 a = m.1 a ∧ m'.2.1 a = m.2.1 a) → LI m' → Q (iI (((lcode s).getD i 0 % 1024 : Nat) : Int)) m') : sm_callI E lz mX5_bottomAt d 2 2048 [.ref (sm_B E + 68), .int (iI (s : Nat)), .int (iI (i : Nat))] m Q := by
  have hb := enm_bd hs2 (lcode_enm hs2)
  have hgi := hb.2 i hi
  refine sm_enter (by decide +kernel) (by simp [lg_sl, Value.category]) ?_
  refine sm_aload_n (Y := mX5_bottomAt) (pc := 0) 0 0 rfl rfl dX5_bottomAt_0 ?_
  refine sm_iload_n (Y := mX5_bottomAt) (pc := 1) 1 1 rfl rfl dX5_bottomAt_1 ?_
  refine sm_iv_A (Y := mX5_bottomAt) (pc := 2) (d' := 4) (mc' := 2) (ms' := 2048) (As := [.int (iI (s : Nat))]) (a := 68) fX5_codesOf wRX5_17 (lk_68 lz_ly) (by decide) rfl rfl rfl (by omega) (Nat.le_of_ble_eq_true rfl) ⟨by omega, by omega⟩ dX5_bottomAt_2 rfl (c_codesOf (by omega) hs1 hs2 hLI (fun m' r f1 hL hr => ?_))
  have hA : lz m'.2.2 → sm_K m'.2.2 r = 11 ∧ sm_N m'.2.2 r = (lcode s).length := fun hl => ⟨(hl.1.2.2.2 s r (by omega) hr).2, (hL.2 s r hs1 hs2 hr).2.1⟩
  refine sm_astore_n (Y := mX5_bottomAt) (pc := 5) [(3, .ref (sm_B E + r)), (0, .ref (sm_B E + 68)), (1, .int (iI (s : Nat))), (2, .int (iI (i : Nat)))] 3 rfl (by decide) rfl dX5_bottomAt_5 ?_
  refine sm_iload_n (Y := mX5_bottomAt) (pc := 6) 3 2 rfl rfl dX5_bottomAt_6 ?_
  refine sm_if_lt (Y := mX5_bottomAt) (pc := 7) 26 (by decide) dX5_bottomAt_7 (fun hc => ?_) (fun _ => ?_)
  · rw [iI_lit, iI_lt (by omega) (by omega) (by omega) (by omega)] at hc
    omega
  refine sm_iload_n (Y := mX5_bottomAt) (pc := 10) 3 2 rfl rfl dX5_bottomAt_10 ?_
  refine sm_aload_n (Y := mX5_bottomAt) (pc := 11) 0 3 rfl rfl dX5_bottomAt_11 ?_
  refine sm_alenI (Y := mX5_bottomAt) (pc := 12) hA dX5_bottomAt_12 ?_
  refine sm_icmp_ge (Y := mX5_bottomAt) (pc := 13) 26 (by decide) dX5_bottomAt_13 (fun hc => ?_) (fun _ => ?_)
  · rw [nI_i, iI_le (by omega) (by omega) (by omega) (by omega)] at hc
    omega
  refine sm_aload_n (Y := mX5_bottomAt) (pc := 16) 0 3 rfl rfl dX5_bottomAt_16 ?_
  refine sm_iload_n (Y := mX5_bottomAt) (pc := 17) 3 2 rfl rfl dX5_bottomAt_17 ?_
  refine sm_iald (Y := mX5_bottomAt) (pc := 18) hA ((inN (by omega)).mpr hi) dX5_bottomAt_18 ?_
  refine sm_sipush (Y := mX5_bottomAt) (pc := 19) 1024 (by decide) dX5_bottomAt_19 ?_
  refine sm_irem (Y := mX5_bottomAt) (pc := 22) (by decide) dX5_bottomAt_22 ?_
  refine sm_goto (Y := mX5_bottomAt) (pc := 23) 27 (by decide) dX5_bottomAt_23 ?_
  have h9 := h m' f1 hL
  have e : sm_rem (m'.1 r (iI (i : Int)).toNatClampNeg) 1024 = iI (((lcode s).getD i 0 % 1024 : Nat) : Int) := by
    rw [cN (by omega), (hL.2 s r hs1 hs2 hr).2.2 i hi, iI_lit, iI_rem (by omega) (by omega) (by omega) (by omega), Int.tmod_eq_emod_of_nonneg (by omega)]
    rfl
  show sm_go E lz mX5_bottomAt d 2 2048 [.ref (sm_B E + 68), .int (iI (s : Nat)), .int (iI (i : Nat))] 27 [(3, .ref (sm_B E + r)), (0, .ref (sm_B E + 68)), (1, .int (iI (s : Nat))), (2, .int (iI (i : Nat)))] [.int (sm_rem (m'.1 r (iI (i : Int)).toNatClampNeg) 1024)] m' (0 + 2) (0 + 2048) (sm_Z E lz [.ref (sm_B E + 68), .int (iI (s : Nat)), .int (iI (i : Nat))] 2 2048 (sm_QI Q))
  rw [e]
  exact sm_iret (Y := mX5_bottomAt) (pc := 27) rfl rfl rfl dX5_bottomAt_27 ⟨_, rfl, h9⟩
theorem k_listed {x1 x2 x3 : Int32} (hd1 : 6 ≤ d1) (hd2 : 3 ≤ d2) (hI : Inv c m) : sm_callI E lz mX11_listed d1 4 4096 [.ref (sm_B E + 0), .int x1, .int x2, .int x3] m (fun r m1 => sm_callI E lz mX12_listed d2 0 0 [.ref (sm_B E + 109), .int x1, .int x2, .int x3] m1 (fun r2 m2 => r = r2 ∧ Inv c m2)) := by
  obtain ⟨sz, s1, s2, rfl⟩ := iI_ex x1
  obtain ⟨i, i1, i2, rfl⟩ := iI_ex x2
  obtain ⟨w, w1, w2, rfl⟩ := iI_ex x3
  have hly : ∀ S, lz S → ly S := lz_ly
  have bad : ¬ (2 ≤ sz ∧ sz ≤ 12 ∧ -1 ≤ w ∧ w ≤ 1 ∧ (0 ≤ w → 0 ≤ i)) → sm_callI E lz mX11_error 1 0 0 [.ref (sm_B E + 0), .int (iI 1)] m (fun r m1 => sm_callI E lz mX12_listed d2 0 0 [.ref (sm_B E + 109), .int (iI sz), .int (iI i), .int (iI w)] m1 (fun r2 m2 => r = r2 ∧ Inv c m2)) := by
    intro hb
    refine c_error (e := 1) hly (by decide) (by omega) (vX12_listed_0 hly hd2 ?_)
    simp (disch := omega) only [forall_eq, true_and, and_true, false_and, and_false, forall_const, true_implies, implies_true, not_true_eq_false, not_false_eq_true, false_implies, if_true, if_false, ↓reduceIte, Int.toNat_natCast, Int.reduceEq, Int.reduceNe, Int.reduceLT, Int.reduceLE, Int.reduceToNat, Int.reduceAdd, Int.reduceSub, Int.reduceMul, Int.reduceNeg, Nat.reduceAdd, Nat.reduceMul, Nat.reduceSub, iI_lit, jI_lit, iI_add, iI_sub, iI_mul, iI_neg, jI_add, jI_sub, jI_mul, jI_neg, nI_i, lN_j, iI_le, iI_lt, iI_eq, jI_le, jI_lt, jI_eq, iI_in, iI_cl, iI_j, jI_i, cN, inN, wI_eq, wI_ne, wJ_1, wJ_eq, wJ_ne, wI_2, wJ_3, iI_div, iI_rem, jI_div, jI_rem, true_or, or_true, false_or, or_false, eq_self, Nat.add_zero]
    refine c12_isIn (by omega) (by omega) (by omega) (by omega) (by omega) (by omega) (by omega) ?_
    by_cases h1 : 2 ≤ sz ∧ sz ≤ 12
    · rw [if_pos h1]
      simp (disch := omega) only [forall_eq, true_and, and_true, false_and, and_false, forall_const, true_implies, implies_true, not_true_eq_false, not_false_eq_true, false_implies, if_true, if_false, ↓reduceIte, Int.toNat_natCast, Int.reduceEq, Int.reduceNe, Int.reduceLT, Int.reduceLE, Int.reduceToNat, Int.reduceAdd, Int.reduceSub, Int.reduceMul, Int.reduceNeg, Nat.reduceAdd, Nat.reduceMul, Nat.reduceSub, iI_lit, jI_lit, iI_add, iI_sub, iI_mul, iI_neg, jI_add, jI_sub, jI_mul, jI_neg, nI_i, lN_j, iI_le, iI_lt, iI_eq, jI_le, jI_lt, jI_eq, iI_in, iI_cl, iI_j, jI_i, cN, inN, wI_eq, wI_ne, wJ_1, wJ_eq, wJ_ne, wI_2, wJ_3, iI_div, iI_rem, jI_div, jI_rem, true_or, or_true, false_or, or_false, eq_self, Nat.add_zero]
      refine c12_isIn (by omega) (by omega) (by omega) (by omega) (by omega) (by omega) (by omega) ?_
      by_cases h2 : -1 ≤ w ∧ w ≤ 1
      · rw [if_pos h2]
        have u1 : ¬ (w < 0) := by omega
        have u2 : ¬ (0 ≤ i) := by omega
        simp (disch := omega) only [forall_eq, true_and, and_true, false_and, and_false, forall_const, true_implies, implies_true, not_true_eq_false, not_false_eq_true, false_implies, if_true, if_false, ↓reduceIte, Int.toNat_natCast, Int.reduceEq, Int.reduceNe, Int.reduceLT, Int.reduceLE, Int.reduceToNat, Int.reduceAdd, Int.reduceSub, Int.reduceMul, Int.reduceNeg, Nat.reduceAdd, Nat.reduceMul, Nat.reduceSub, iI_lit, jI_lit, iI_add, iI_sub, iI_mul, iI_neg, jI_add, jI_sub, jI_mul, jI_neg, nI_i, lN_j, iI_le, iI_lt, iI_eq, jI_le, jI_lt, jI_eq, iI_in, iI_cl, iI_j, jI_i, cN, inN, wI_eq, wI_ne, wJ_1, wJ_eq, wJ_ne, wI_2, wJ_3, iI_div, iI_rem, jI_div, jI_rem, true_or, or_true, false_or, or_false, eq_self, Nat.add_zero, u1, u2]
        exact c12_finds (e := 1) hly (by decide) (by omega) ⟨rfl, hI.er frw.rf frw.rf⟩
      · rw [if_neg h2]
        simp (disch := omega) only [forall_eq, true_and, and_true, false_and, and_false, forall_const, true_implies, implies_true, not_true_eq_false, not_false_eq_true, false_implies, if_true, if_false, ↓reduceIte, Int.toNat_natCast, Int.reduceEq, Int.reduceNe, Int.reduceLT, Int.reduceLE, Int.reduceToNat, Int.reduceAdd, Int.reduceSub, Int.reduceMul, Int.reduceNeg, Nat.reduceAdd, Nat.reduceMul, Nat.reduceSub, iI_lit, jI_lit, iI_add, iI_sub, iI_mul, iI_neg, jI_add, jI_sub, jI_mul, jI_neg, nI_i, lN_j, iI_le, iI_lt, iI_eq, jI_le, jI_lt, jI_eq, iI_in, iI_cl, iI_j, jI_i, cN, inN, wI_eq, wI_ne, wJ_1, wJ_eq, wJ_ne, wI_2, wJ_3, iI_div, iI_rem, jI_div, jI_rem, true_or, or_true, false_or, or_false, eq_self, Nat.add_zero]
        exact c12_finds (e := 1) hly (by decide) (by omega) ⟨rfl, hI.er frw.rf frw.rf⟩
    · rw [if_neg h1]
      simp (disch := omega) only [forall_eq, true_and, and_true, false_and, and_false, forall_const, true_implies, implies_true, not_true_eq_false, not_false_eq_true, false_implies, if_true, if_false, ↓reduceIte, Int.toNat_natCast, Int.reduceEq, Int.reduceNe, Int.reduceLT, Int.reduceLE, Int.reduceToNat, Int.reduceAdd, Int.reduceSub, Int.reduceMul, Int.reduceNeg, Nat.reduceAdd, Nat.reduceMul, Nat.reduceSub, iI_lit, jI_lit, iI_add, iI_sub, iI_mul, iI_neg, jI_add, jI_sub, jI_mul, jI_neg, nI_i, lN_j, iI_le, iI_lt, iI_eq, jI_le, jI_lt, jI_eq, iI_in, iI_cl, iI_j, jI_i, cN, inN, wI_eq, wI_ne, wJ_1, wJ_eq, wJ_ne, wI_2, wJ_3, iI_div, iI_rem, jI_div, jI_rem, true_or, or_true, false_or, or_false, eq_self, Nat.add_zero]
      exact c12_finds (e := 1) hly (by decide) (by omega) ⟨rfl, hI.er frw.rf frw.rf⟩
  have model : ∀ s : Nat, sz = (s : Int) → 2 ≤ s → s ≤ 12 → -1 ≤ w → w ≤ 1 → (0 ≤ w → 0 ≤ i) → ∀ (m1 : sm_M) (Q : Int32 → sm_M → Prop), (w = -1 → ∀ m', frw scM m1 m' → Q (iI ((lcode s).length : Nat)) m') → (0 ≤ w → ∀ k : Nat, i = (k : Int) → k < (lcode s).length → ∀ m', frw scM m1 m' → Q (iI (if w = 0 then (((lcode s).getD k 0 / 1024 : Nat) : Int) else (((lcode s).getD k 0 % 1024 : Nat) : Int))) m') → (0 ≤ w → (((lcode s).length : Nat) : Int) ≤ i → ∀ m', frw scM m1 m' → Q (iI (-1000000000 - (2 : Nat))) (sm_wI m' 110 2 (m'.1 110 2 + 1))) → sm_callI E lz mX12_listed d2 0 0 [.ref (sm_B E + 109), .int (iI sz), .int (iI i), .int (iI w)] m1 Q := by
    intro s hs hs1 hs2 hw1 hw2 hi0 m1 Q q1 q2 q3
    have he := lcode_enm (s := s) hs2
    have hb := enm_bd hs2 he
    have hc0 : lct (lcode s).length (fun k => (lcode s).getD k 0) 2 1 0 := by
      intro j hj
      obtain ⟨a, b, h1, h2⟩ := he.2.1 j hj
      have e1 := h1.1
      have e2 := h1.2.1
      simp only at h2 ⊢
      omega
    have go : ∀ vs, gX12_listed_46 E lz d2 vs (iI (s : Nat)) (iI i) (iI w) (iI 0) (iI 2) m1 Q := fun vs => c12_lrows (g := fun k => (lcode s).getD k 0) hly hd2 hs1 hs2 he (by omega) i1 i2 hw1 hw2 hi0 (fun z m' f' => q1 z m' (f'.w.mono (fun a k h => mlP_sc h))) (fun z k hk hkn m' f' => q2 z k hk hkn m' (f'.w.mono (fun a k h => mlP_sc h))) (fun z hn m' f' => c12_finds (e := 2) hly (by decide) (by omega) (q3 z hn m' (f'.w.mono (fun a k h => mlP_sc h)))) 399 2 0 m1 (by omega) (by omega) fr.rf hc0 (Nat.zero_le _) (fun z => hi0 z)
    refine vX12_listed_0 hly hd2 ?_
    simp (disch := omega) only [forall_eq, true_and, and_true, false_and, and_false, forall_const, true_implies, implies_true, not_true_eq_false, not_false_eq_true, false_implies, if_true, if_false, ↓reduceIte, Int.toNat_natCast, Int.reduceEq, Int.reduceNe, Int.reduceLT, Int.reduceLE, Int.reduceToNat, Int.reduceAdd, Int.reduceSub, Int.reduceMul, Int.reduceNeg, Nat.reduceAdd, Nat.reduceMul, Nat.reduceSub, iI_lit, jI_lit, iI_add, iI_sub, iI_mul, iI_neg, jI_add, jI_sub, jI_mul, jI_neg, nI_i, lN_j, iI_le, iI_lt, iI_eq, jI_le, jI_lt, jI_eq, iI_in, iI_cl, iI_j, jI_i, cN, inN, wI_eq, wI_ne, wJ_1, wJ_eq, wJ_ne, wI_2, wJ_3, iI_div, iI_rem, jI_div, jI_rem, true_or, or_true, false_or, or_false, eq_self, Nat.add_zero]
    refine c12_isIn (by omega) (by omega) (by omega) (by omega) (by omega) (by omega) (by omega) ?_
    rw [if_pos (by omega)]
    simp (disch := omega) only [forall_eq, true_and, and_true, false_and, and_false, forall_const, true_implies, implies_true, not_true_eq_false, not_false_eq_true, false_implies, if_true, if_false, ↓reduceIte, Int.toNat_natCast, Int.reduceEq, Int.reduceNe, Int.reduceLT, Int.reduceLE, Int.reduceToNat, Int.reduceAdd, Int.reduceSub, Int.reduceMul, Int.reduceNeg, Nat.reduceAdd, Nat.reduceMul, Nat.reduceSub, iI_lit, jI_lit, iI_add, iI_sub, iI_mul, iI_neg, jI_add, jI_sub, jI_mul, jI_neg, nI_i, lN_j, iI_le, iI_lt, iI_eq, jI_le, jI_lt, jI_eq, iI_in, iI_cl, iI_j, jI_i, cN, inN, wI_eq, wI_ne, wJ_1, wJ_eq, wJ_ne, wI_2, wJ_3, iI_div, iI_rem, jI_div, jI_rem, true_or, or_true, false_or, or_false, eq_self, Nat.add_zero]
    refine c12_isIn (by omega) (by omega) (by omega) (by omega) (by omega) (by omega) (by omega) ?_
    rw [if_pos (by omega)]
    simp (disch := omega) only [forall_eq, true_and, and_true, false_and, and_false, forall_const, true_implies, implies_true, not_true_eq_false, not_false_eq_true, false_implies, if_true, if_false, ↓reduceIte, Int.toNat_natCast, Int.reduceEq, Int.reduceNe, Int.reduceLT, Int.reduceLE, Int.reduceToNat, Int.reduceAdd, Int.reduceSub, Int.reduceMul, Int.reduceNeg, Nat.reduceAdd, Nat.reduceMul, Nat.reduceSub, iI_lit, jI_lit, iI_add, iI_sub, iI_mul, iI_neg, jI_add, jI_sub, jI_mul, jI_neg, nI_i, lN_j, iI_le, iI_lt, iI_eq, jI_le, jI_lt, jI_eq, iI_in, iI_cl, iI_j, jI_i, cN, inN, wI_eq, wI_ne, wJ_1, wJ_eq, wJ_ne, wI_2, wJ_3, iI_div, iI_rem, jI_div, jI_rem, true_or, or_true, false_or, or_false, eq_self, Nat.add_zero]
    rw [hs]
    exact ⟨fun q => go _, fun q => ⟨fun _ => go _, fun q2 => by omega⟩⟩
  refine vX11_listed_r hly hd1 ?_
  simp (disch := omega) only [forall_eq, true_and, and_true, false_and, and_false, forall_const, true_implies, implies_true, not_true_eq_false, not_false_eq_true, false_implies, if_true, if_false, ↓reduceIte, Int.toNat_natCast, Int.reduceEq, Int.reduceNe, Int.reduceLT, Int.reduceLE, Int.reduceToNat, Int.reduceAdd, Int.reduceSub, Int.reduceMul, Int.reduceNeg, Nat.reduceAdd, Nat.reduceMul, Nat.reduceSub, iI_lit, jI_lit, iI_add, iI_sub, iI_mul, iI_neg, jI_add, jI_sub, jI_mul, jI_neg, nI_i, lN_j, iI_le, iI_lt, iI_eq, jI_le, jI_lt, jI_eq, iI_in, iI_cl, iI_j, jI_i, cN, inN, wI_eq, wI_ne, wJ_1, wJ_eq, wJ_ne, wI_2, wJ_3, iI_div, iI_rem, jI_div, jI_rem, true_or, or_true, false_or, or_false, eq_self, Nat.add_zero]
  refine ⟨fun q => bad (by omega), fun q => ⟨fun q2 => bad (by omega), fun q2 => ⟨fun q3 => bad (by omega), fun q3 => ⟨fun q4 => ?_, fun q4 => bad (by omega)⟩⟩⟩⟩
  obtain ⟨s, rfl⟩ : ∃ s : Nat, sz = (s : Int) := ⟨sz.toNat, by omega⟩
  have hLI : LI m := hI.2.1.2.2.2.2.2.2
  have hb := enm_bd (s := s) (by omega) (lcode_enm (s := s) (by omega))
  refine ⟨fun q5 => ⟨fun q6 => ?_, fun q6 => bad (by omega)⟩, fun q5 => ?_⟩
  · refine c_lengthOf (by omega) (by omega) (by omega) hLI (fun m1 f1 L1 => ?_)
    have I1 : Inv c m1 := hI.ls f1 L1
    simp (disch := omega) only [forall_eq, true_and, and_true, false_and, and_false, forall_const, true_implies, implies_true, not_true_eq_false, not_false_eq_true, false_implies, if_true, if_false, ↓reduceIte, Int.toNat_natCast, Int.reduceEq, Int.reduceNe, Int.reduceLT, Int.reduceLE, Int.reduceToNat, Int.reduceAdd, Int.reduceSub, Int.reduceMul, Int.reduceNeg, Nat.reduceAdd, Nat.reduceMul, Nat.reduceSub, iI_lit, jI_lit, iI_add, iI_sub, iI_mul, iI_neg, jI_add, jI_sub, jI_mul, jI_neg, nI_i, lN_j, iI_le, iI_lt, iI_eq, jI_le, jI_lt, jI_eq, iI_in, iI_cl, iI_j, jI_i, cN, inN, wI_eq, wI_ne, wJ_1, wJ_eq, wJ_ne, wI_2, wJ_3, iI_div, iI_rem, jI_div, jI_rem, true_or, or_true, false_or, or_false, eq_self, Nat.add_zero]
    refine ⟨fun q7 => ?_, fun q7 => ?_⟩
    · obtain ⟨k, rfl⟩ : ∃ k : Nat, i = (k : Int) := ⟨i.toNat, by omega⟩
      refine ⟨fun q8 => ?_, fun q8 => ?_⟩
      · refine c_bottomAt (by omega) (by omega) (by omega) (by omega) L1 (fun m2 f2 L2 => ?_)
        have I2 : Inv c m2 := I1.ls f2 L2
        refine model s rfl (by omega) (by omega) (by omega) (by omega) (fun _ => by omega) m2 _ (fun z => by omega) (fun z k' hk' hkn m' f' => ?_) (fun z hn => by omega)
        have e : k' = k := by omega
        subst e
        rw [if_neg q8]
        exact ⟨rfl, I2.sc frw.rf f'⟩
      · refine c_topAt (by omega) (by omega) (by omega) (by omega) L1 (fun m2 f2 L2 => ?_)
        have I2 : Inv c m2 := I1.ls f2 L2
        refine model s rfl (by omega) (by omega) (by omega) (by omega) (fun _ => by omega) m2 _ (fun z => by omega) (fun z k' hk' hkn m' f' => ?_) (fun z hn => by omega)
        have e : k' = k := by omega
        subst e
        rw [if_pos q8]
        exact ⟨rfl, I2.sc frw.rf f'⟩
    · refine c_error (e := 2) hly (by decide) (by omega) (model s rfl (by omega) (by omega) (by omega) (by omega) (fun _ => by omega) _ _ (fun z => by omega) (fun z k' hk' hkn => by omega) (fun z hn m' f' => ⟨rfl, I1.er frw.rf f'⟩))
  · refine c_lengthOf (by omega) (by omega) (by omega) hLI (fun m1 f1 L1 => ?_)
    have I1 : Inv c m1 := hI.ls f1 L1
    exact model s rfl (by omega) (by omega) (by omega) (by omega) (fun z => by omega) m1 _ (fun _ m' f' => ⟨rfl, I1.sc frw.rf f'⟩) (fun z => by omega) (fun z => by omega)
end K21
