/-! the law's loop -/
theorem lw_exit {E : sm_E} {nm : String} {i : Int32} {m : sm_M} {cells slots : Nat} (h1 : cells ≤ 600000) (h2 : slots ≤ 7302250) : lwG E nm 1561 i m cells slots (lwZ E) := by
  refine sm_iconst (Y := lwY nm) (pc := 1561) 1 (by decide) dL_law_1561 ?_
  exact lw_fin h1 h2 dL_law_1562
theorem lw_next {E : sm_E} {nm : String} {j : Nat} {m : sm_M} {Q : List Frame → State → State → Prop} (h : lwG E nm 18 (iI ((6 * (j + 1) : Nat) : Int)) m (149 + 4 * (j + 1)) (10176 + 4096 * (j + 1)) Q) : lwG E nm 1555 (iI ((6 * j : Nat) : Int)) m (149 + 4 * j + 4) (10176 + 4096 * j + 4096) Q := by
  refine sm_iinc (Y := lwY nm) (pc := 1555) (fun y => [(3, .int y), (2, .ref (sm_B E + 109)), (1, .ref (sm_B E + 0)), (0, .ref (lwb E))]) 0 3 rfl (show 3 < 4 by decide) (fun _ => rfl) dL_law_1555 (fun y ey => ?_)
  refine sm_goto (Y := lwY nm) (pc := 1558) 18 (by decide) dL_law_1558 ?_
  have e1 : y = iI ((6 * (j + 1) : Nat) : Int) := by
    rw [ey]
    show iI _ + iI 6 = _
    rw [iI_add]
    congr 1
  have e2 : 149 + 4 * j + 4 = 149 + 4 * (j + 1) := by omega
  have e3 : 10176 + 4096 * j + 4096 = 10176 + 4096 * (j + 1) := by omega
  rw [e1, e2, e3]
  exact h
theorem lw_case {E : sm_E} {nm : String} {i op : Int32} {m : sm_M} {c cells slots : Nat} {Q : List Frame → State → State → Prop} (hI : Inv c m) (hc : c + 1 ≤ 1000) (hin : lwI E i) (h1 : cells + 4 ≤ 600000) (h2 : slots + 4096 ≤ 7302250) (hn : ∀ m2, Inv (c + 1) m2 → lwG E nm 1555 i m2 (cells + 4) (slots + 4096) Q) : sm_go E lz (lwY nm) 100 600000 7302250 [.ref (lwb E)] 33 [(3, .int i), (2, .ref (sm_B E + 109)), (1, .ref (sm_B E + 0)), (0, .ref (lwb E))] [.int op] m cells slots Q := by
  by_cases hs0 : op = 0
  · refine sm_tableIn (Y := lwY nm) (pc := 33) 188 (by rw [hs0]; decide) (by rw [hs0]; decide) (by first | (rw [hs0]; done) | (rw [hs0]; rfl)) (by decide) dL_law_33 ?_
    exact lc_0 hI hc hin h1 h2 hn
  by_cases hs1 : op = 1
  · refine sm_tableIn (Y := lwY nm) (pc := 33) 221 (by rw [hs1]; decide) (by rw [hs1]; decide) (by first | (rw [hs1]; done) | (rw [hs1]; rfl)) (by decide) dL_law_33 ?_
    exact lc_1 hI hc hin h1 h2 hn
  by_cases hs2 : op = 2
  · refine sm_tableIn (Y := lwY nm) (pc := 33) 254 (by rw [hs2]; decide) (by rw [hs2]; decide) (by first | (rw [hs2]; done) | (rw [hs2]; rfl)) (by decide) dL_law_33 ?_
    exact lc_2 hI hc hin h1 h2 hn
  by_cases hs3 : op = 3
  · refine sm_tableIn (Y := lwY nm) (pc := 33) 307 (by rw [hs3]; decide) (by rw [hs3]; decide) (by first | (rw [hs3]; done) | (rw [hs3]; rfl)) (by decide) dL_law_33 ?_
    exact lc_3 hI hc hin h1 h2 hn
  by_cases hs4 : op = 4
  · refine sm_tableIn (Y := lwY nm) (pc := 33) 340 (by rw [hs4]; decide) (by rw [hs4]; decide) (by first | (rw [hs4]; done) | (rw [hs4]; rfl)) (by decide) dL_law_33 ?_
    exact lc_4 hI hc hin h1 h2 hn
  by_cases hs5 : op = 5
  · refine sm_tableIn (Y := lwY nm) (pc := 33) 403 (by rw [hs5]; decide) (by rw [hs5]; decide) (by first | (rw [hs5]; done) | (rw [hs5]; rfl)) (by decide) dL_law_33 ?_
    exact lc_5 hI hc hin h1 h2 hn
  by_cases hs6 : op = 6
  · refine sm_tableIn (Y := lwY nm) (pc := 33) 426 (by rw [hs6]; decide) (by rw [hs6]; decide) (by first | (rw [hs6]; done) | (rw [hs6]; rfl)) (by decide) dL_law_33 ?_
    exact lc_6 hI hc hin h1 h2 hn
  by_cases hs7 : op = 7
  · refine sm_tableIn (Y := lwY nm) (pc := 33) 449 (by rw [hs7]; decide) (by rw [hs7]; decide) (by first | (rw [hs7]; done) | (rw [hs7]; rfl)) (by decide) dL_law_33 ?_
    exact lc_7 hI hc hin h1 h2 hn
  by_cases hs8 : op = 8
  · refine sm_tableIn (Y := lwY nm) (pc := 33) 482 (by rw [hs8]; decide) (by rw [hs8]; decide) (by first | (rw [hs8]; done) | (rw [hs8]; rfl)) (by decide) dL_law_33 ?_
    exact lc_8 hI hc hin h1 h2 hn
  by_cases hs9 : op = 9
  · refine sm_tableIn (Y := lwY nm) (pc := 33) 515 (by rw [hs9]; decide) (by rw [hs9]; decide) (by first | (rw [hs9]; done) | (rw [hs9]; rfl)) (by decide) dL_law_33 ?_
    exact lc_9 hI hc hin h1 h2 hn
  by_cases hs10 : op = 10
  · refine sm_tableIn (Y := lwY nm) (pc := 33) 568 (by rw [hs10]; decide) (by rw [hs10]; decide) (by first | (rw [hs10]; done) | (rw [hs10]; rfl)) (by decide) dL_law_33 ?_
    exact lc_10 hI hc hin h1 h2 hn
  by_cases hs11 : op = 11
  · refine sm_tableIn (Y := lwY nm) (pc := 33) 611 (by rw [hs11]; decide) (by rw [hs11]; decide) (by first | (rw [hs11]; done) | (rw [hs11]; rfl)) (by decide) dL_law_33 ?_
    exact lc_11 hI hc hin h1 h2 hn
  by_cases hs12 : op = 12
  · refine sm_tableIn (Y := lwY nm) (pc := 33) 664 (by rw [hs12]; decide) (by rw [hs12]; decide) (by first | (rw [hs12]; done) | (rw [hs12]; rfl)) (by decide) dL_law_33 ?_
    exact lc_12 hI hc hin h1 h2 hn
  by_cases hs13 : op = 13
  · refine sm_tableIn (Y := lwY nm) (pc := 33) 717 (by rw [hs13]; decide) (by rw [hs13]; decide) (by first | (rw [hs13]; done) | (rw [hs13]; rfl)) (by decide) dL_law_33 ?_
    exact lc_13 hI hc hin h1 h2 hn
  by_cases hs14 : op = 14
  · refine sm_tableIn (Y := lwY nm) (pc := 33) 770 (by rw [hs14]; decide) (by rw [hs14]; decide) (by first | (rw [hs14]; done) | (rw [hs14]; rfl)) (by decide) dL_law_33 ?_
    exact lc_14 hI hc hin h1 h2 hn
  by_cases hs15 : op = 15
  · refine sm_tableIn (Y := lwY nm) (pc := 33) 813 (by rw [hs15]; decide) (by rw [hs15]; decide) (by first | (rw [hs15]; done) | (rw [hs15]; rfl)) (by decide) dL_law_33 ?_
    exact lc_15 hI hc hin h1 h2 hn
  by_cases hs16 : op = 16
  · refine sm_tableIn (Y := lwY nm) (pc := 33) 856 (by rw [hs16]; decide) (by rw [hs16]; decide) (by first | (rw [hs16]; done) | (rw [hs16]; rfl)) (by decide) dL_law_33 ?_
    exact lc_16 hI hc hin h1 h2 hn
  by_cases hs17 : op = 17
  · refine sm_tableIn (Y := lwY nm) (pc := 33) 909 (by rw [hs17]; decide) (by rw [hs17]; decide) (by first | (rw [hs17]; done) | (rw [hs17]; rfl)) (by decide) dL_law_33 ?_
    exact lc_17 hI hc hin h1 h2 hn
  by_cases hs18 : op = 18
  · refine sm_tableIn (Y := lwY nm) (pc := 33) 952 (by rw [hs18]; decide) (by rw [hs18]; decide) (by first | (rw [hs18]; done) | (rw [hs18]; rfl)) (by decide) dL_law_33 ?_
    exact lc_18 hI hc hin h1 h2 hn
  by_cases hs19 : op = 19
  · refine sm_tableIn (Y := lwY nm) (pc := 33) 985 (by rw [hs19]; decide) (by rw [hs19]; decide) (by first | (rw [hs19]; done) | (rw [hs19]; rfl)) (by decide) dL_law_33 ?_
    exact lc_19 hI hc hin h1 h2 hn
  by_cases hs20 : op = 20
  · refine sm_tableIn (Y := lwY nm) (pc := 33) 1018 (by rw [hs20]; decide) (by rw [hs20]; decide) (by first | (rw [hs20]; done) | (rw [hs20]; rfl)) (by decide) dL_law_33 ?_
    exact lc_20 hI hc hin h1 h2 hn
  by_cases hs21 : op = 21
  · refine sm_tableIn (Y := lwY nm) (pc := 33) 1051 (by rw [hs21]; decide) (by rw [hs21]; decide) (by first | (rw [hs21]; done) | (rw [hs21]; rfl)) (by decide) dL_law_33 ?_
    exact lc_21 hI hc hin h1 h2 hn
  by_cases hs22 : op = 22
  · refine sm_tableIn (Y := lwY nm) (pc := 33) 1084 (by rw [hs22]; decide) (by rw [hs22]; decide) (by first | (rw [hs22]; done) | (rw [hs22]; rfl)) (by decide) dL_law_33 ?_
    exact lc_22 hI hc hin h1 h2 hn
  by_cases hs23 : op = 23
  · refine sm_tableIn (Y := lwY nm) (pc := 33) 1127 (by rw [hs23]; decide) (by rw [hs23]; decide) (by first | (rw [hs23]; done) | (rw [hs23]; rfl)) (by decide) dL_law_33 ?_
    exact lc_23 hI hc hin h1 h2 hn
  by_cases hs24 : op = 24
  · refine sm_tableIn (Y := lwY nm) (pc := 33) 1200 (by rw [hs24]; decide) (by rw [hs24]; decide) (by first | (rw [hs24]; done) | (rw [hs24]; rfl)) (by decide) dL_law_33 ?_
    exact lc_24 hI hc hin h1 h2 hn
  by_cases hs25 : op = 25
  · refine sm_tableIn (Y := lwY nm) (pc := 33) 1234 (by rw [hs25]; decide) (by rw [hs25]; decide) (by first | (rw [hs25]; done) | (rw [hs25]; rfl)) (by decide) dL_law_33 ?_
    exact lc_25 hI hc hin h1 h2 hn
  by_cases hs26 : op = 26
  · refine sm_tableIn (Y := lwY nm) (pc := 33) 1297 (by rw [hs26]; decide) (by rw [hs26]; decide) (by first | (rw [hs26]; done) | (rw [hs26]; rfl)) (by decide) dL_law_33 ?_
    exact lc_26 hI hc hin h1 h2 hn
  by_cases hs27 : op = 27
  · refine sm_tableIn (Y := lwY nm) (pc := 33) 1350 (by rw [hs27]; decide) (by rw [hs27]; decide) (by first | (rw [hs27]; done) | (rw [hs27]; rfl)) (by decide) dL_law_33 ?_
    exact lc_27 hI hc hin h1 h2 hn
  by_cases hs28 : op = 28
  · refine sm_tableIn (Y := lwY nm) (pc := 33) 1394 (by rw [hs28]; decide) (by rw [hs28]; decide) (by first | (rw [hs28]; done) | (rw [hs28]; rfl)) (by decide) dL_law_33 ?_
    exact lc_28 hI hc hin h1 h2 hn
  by_cases hs29 : op = 29
  · refine sm_tableIn (Y := lwY nm) (pc := 33) 1427 (by rw [hs29]; decide) (by rw [hs29]; decide) (by first | (rw [hs29]; done) | (rw [hs29]; rfl)) (by decide) dL_law_33 ?_
    exact lc_29 hI hc hin h1 h2 hn
  by_cases hs30 : op = 30
  · refine sm_tableIn (Y := lwY nm) (pc := 33) 1450 (by rw [hs30]; decide) (by rw [hs30]; decide) (by first | (rw [hs30]; done) | (rw [hs30]; rfl)) (by decide) dL_law_33 ?_
    exact lc_30 hI hc hin h1 h2 hn
  by_cases hs31 : op = 31
  · refine sm_tableIn (Y := lwY nm) (pc := 33) 1483 (by rw [hs31]; decide) (by rw [hs31]; decide) (by first | (rw [hs31]; done) | (rw [hs31]; rfl)) (by decide) dL_law_33 ?_
    exact lc_31 hI hc hin h1 h2 hn
  by_cases hs32 : op = 32
  · refine sm_tableIn (Y := lwY nm) (pc := 33) 1496 (by rw [hs32]; decide) (by rw [hs32]; decide) (by first | (rw [hs32]; done) | (rw [hs32]; rfl)) (by decide) dL_law_33 ?_
    exact lc_32 hI hc hin h1 h2 hn
  by_cases hs33 : op = 33
  · refine sm_tableIn (Y := lwY nm) (pc := 33) 1509 (by rw [hs33]; decide) (by rw [hs33]; decide) (by first | (rw [hs33]; done) | (rw [hs33]; rfl)) (by decide) dL_law_33 ?_
    exact lc_33 hI hc hin h1 h2 hn
  by_cases hs34 : op = 34
  · refine sm_tableIn (Y := lwY nm) (pc := 33) 1532 (by rw [hs34]; decide) (by rw [hs34]; decide) (by first | (rw [hs34]; done) | (rw [hs34]; rfl)) (by decide) dL_law_33 ?_
    exact lc_34 hI hc hin h1 h2 hn
  refine sm_tableOut (Y := lwY nm) (pc := 33) 1555 (sm_tout (lo := 0) 35 (fun j hj => by
      match j, hj with
      | 0, _ => exact lv_neT hs0 (by decide)
      | 1, _ => exact lv_neT hs1 (by decide)
      | 2, _ => exact lv_neT hs2 (by decide)
      | 3, _ => exact lv_neT hs3 (by decide)
      | 4, _ => exact lv_neT hs4 (by decide)
      | 5, _ => exact lv_neT hs5 (by decide)
      | 6, _ => exact lv_neT hs6 (by decide)
      | 7, _ => exact lv_neT hs7 (by decide)
      | 8, _ => exact lv_neT hs8 (by decide)
      | 9, _ => exact lv_neT hs9 (by decide)
      | 10, _ => exact lv_neT hs10 (by decide)
      | 11, _ => exact lv_neT hs11 (by decide)
      | 12, _ => exact lv_neT hs12 (by decide)
      | 13, _ => exact lv_neT hs13 (by decide)
      | 14, _ => exact lv_neT hs14 (by decide)
      | 15, _ => exact lv_neT hs15 (by decide)
      | 16, _ => exact lv_neT hs16 (by decide)
      | 17, _ => exact lv_neT hs17 (by decide)
      | 18, _ => exact lv_neT hs18 (by decide)
      | 19, _ => exact lv_neT hs19 (by decide)
      | 20, _ => exact lv_neT hs20 (by decide)
      | 21, _ => exact lv_neT hs21 (by decide)
      | 22, _ => exact lv_neT hs22 (by decide)
      | 23, _ => exact lv_neT hs23 (by decide)
      | 24, _ => exact lv_neT hs24 (by decide)
      | 25, _ => exact lv_neT hs25 (by decide)
      | 26, _ => exact lv_neT hs26 (by decide)
      | 27, _ => exact lv_neT hs27 (by decide)
      | 28, _ => exact lv_neT hs28 (by decide)
      | 29, _ => exact lv_neT hs29 (by decide)
      | 30, _ => exact lv_neT hs30 (by decide)
      | 31, _ => exact lv_neT hs31 (by decide)
      | 32, _ => exact lv_neT hs32 (by decide)
      | 33, _ => exact lv_neT hs33 (by decide)
      | 34, _ => exact lv_neT hs34 (by decide)
      | j + 35, hj => exact absurd hj (by omega))) (by decide) dL_law_33 ?_
  exact sm_widen (by omega) (by omega) (hn m (hI.up (by omega) hc))
theorem lw_loop {E : sm_E} {nm : String} (hL : lwl E ≤ 3072) : ∀ (n j : Nat) (m : sm_M), j + n = 512 → Inv j m → lwG E nm 18 (iI ((6 * j : Nat) : Int)) m (149 + 4 * j) (10176 + 4096 * j) (lwZ E) := by
  intro n
  induction n with
  | zero =>
    intro j m hj hI
    refine sm_iload_n (Y := lwY nm) (pc := 18) 0 3 rfl rfl dL_law_18 ?_
    refine sm_aload_n (Y := lwY nm) (pc := 19) 3 0 rfl rfl dL_law_19 ?_
    refine sm_slen (Y := lwY nm) (pc := 20) dL_law_20 ?_
    refine sm_bipush (Y := lwY nm) (pc := 21) 6 (by decide) dL_law_21 ?_
    refine sm_isub (Y := lwY nm) (pc := 23) dL_law_23 ?_
    refine sm_icmp_gt (Y := lwY nm) (pc := 24) 1561 (by decide) dL_law_24 (fun _ => lw_exit (by omega) (by omega)) (fun hle => ?_)
    exfalso
    have e : nI (lwl E) - 6 = iI ((lwl E : Int) - 6) := by rw [nI_i, show (6 : Int32) = iI 6 from iI_lit 6, iI_sub]
    rw [e, iI_lt (by omega) (by omega) (by omega) (by omega)] at hle
    omega
  | succ n ih =>
    intro j m hj hI
    refine sm_iload_n (Y := lwY nm) (pc := 18) 0 3 rfl rfl dL_law_18 ?_
    refine sm_aload_n (Y := lwY nm) (pc := 19) 3 0 rfl rfl dL_law_19 ?_
    refine sm_slen (Y := lwY nm) (pc := 20) dL_law_20 ?_
    refine sm_bipush (Y := lwY nm) (pc := 21) 6 (by decide) dL_law_21 ?_
    refine sm_isub (Y := lwY nm) (pc := 23) dL_law_23 ?_
    refine sm_icmp_gt (Y := lwY nm) (pc := 24) 1561 (by decide) dL_law_24 (fun _ => lw_exit (by omega) (by omega)) (fun hle => ?_)
    have hle2 : 6 * j + 6 ≤ lwl E := by
      have e : nI (lwl E) - 6 = iI ((lwl E : Int) - 6) := by rw [nI_i, show (6 : Int32) = iI 6 from iI_lit 6, iI_sub]
      rw [e, iI_lt (by omega) (by omega) (by omega) (by omega)] at hle
      omega
    have hk : ∀ (x : Int32) (k : Nat), x = iI (k : Int) → k < 6 → vp_in (iI ((6 * j : Nat) : Int) + x) (lwl E) := by
      intro x k e hk
      rw [e, iI_add, iI_in (by omega) (by omega)]
      omega
    have h0 : vp_in (iI ((6 * j : Nat) : Int)) (lwl E) := by
      rw [iI_in (by omega) (by omega)]
      omega
    refine sm_aload_n (Y := lwY nm) (pc := 27) 3 0 rfl rfl dL_law_27 ?_
    refine sm_iload_n (Y := lwY nm) (pc := 28) 0 3 rfl rfl dL_law_28 ?_
    refine sm_sld (Y := lwY nm) (pc := 29) h0 dL_law_29 ?_
    refine sm_bipush (Y := lwY nm) (pc := 30) 63 (by decide) dL_law_30 ?_
    refine sm_iand (Y := lwY nm) (pc := 32) dL_law_32 ?_
    exact lw_case hI (by omega) ⟨hk 1 1 (by decide) (by decide), hk 2 2 (by decide) (by decide), hk 3 3 (by decide) (by decide), hk 4 4 (by decide) (by decide), hk 5 5 (by decide) (by decide)⟩ (by omega) (by omega) (fun m2 h2 => lw_next (ih (j + 1) m2 (by omega) h2))
theorem ic_topA : sm_top imA.2.2 = 109 := by decide +kernel
theorem lw_go {E : sm_E} {nm : String} (hL : lwl E ≤ 3072) : sm_go E sm_L0 (lwY nm) 100 600000 7302250 [.ref (lwb E)] 0 [(0, .ref (lwb E))] [] im0 0 0 (lwZ E) := by
  refine sm_new (Y := lwY nm) (pc := 0) (ci := 9) (N := 16) (by decide) rfl rfl wRL_7 (sm_in 103 (by decide +kernel) (by decide +kernel)) fX11_slot.2.2.2.1 (fun _ => trivial) (by decide) (by decide) dL_law_0 (fun m1 e1 => ?_)
  obtain rfl : m1 = im1 := e1
  change sm_go E sm_L0 (lwY nm) 100 600000 7302250 [.ref (lwb E)] 3 [(0, .ref (lwb E))] [.ref (sm_B E + 0)] im1 1 16 (lwZ E)
  refine sm_dup (Y := lwY nm) (pc := 3) rfl dL_law_3 ?_
  refine sm_in0_V (Y := lwY nm) (pc := 4) (d' := 99) (mc' := 108) (ms' := 4481) (As := []) (a := 0) fX11_init wRL_9 rfl (by decide) (Nat.le_of_ble_eq_true rfl) ⟨by decide, by decide⟩ dL_law_4 rfl (mk_X11 (by decide) ?_)
  refine sm_astore_n (Y := lwY nm) (pc := 7) [(1, .ref (sm_B E + 0)), (0, .ref (lwb E))] 1 rfl (show 1 < 4 by decide) rfl dL_law_7 ?_
  refine sm_new (Y := lwY nm) (pc := 8) (ci := 10) (N := 68) (by decide) rfl rfl wRL_10 (sm_in 1154 (by decide +kernel) (by decide +kernel)) fX12_slot.2.2.2.1 (fun _ => trivial) (by decide) (by decide) dL_law_8 (fun m1 e1 => ?_)
  obtain rfl : m1 = imB := e1
  rw [ic_topA]
  refine sm_dup (Y := lwY nm) (pc := 11) rfl dL_law_11 ?_
  refine sm_in0_V (Y := lwY nm) (pc := 12) (d' := 99) (mc' := 39) (ms' := 5611) (As := []) (a := 109) fX12_init wRL_12 rfl (by decide) (Nat.le_of_ble_eq_true rfl) ⟨by decide, by decide⟩ dL_law_12 rfl (mk_X12 (by decide) ?_)
  refine sm_astore_n (Y := lwY nm) (pc := 15) [(2, .ref (sm_B E + 109)), (1, .ref (sm_B E + 0)), (0, .ref (lwb E))] 2 rfl (show 2 < 4 by decide) rfl dL_law_15 ?_
  refine sm_iconst (Y := lwY nm) (pc := 16) 0 (by decide) dL_law_16 ?_
  refine sm_istore0_n (Y := lwY nm) (pc := 17) [(3, .int 0), (2, .ref (sm_B E + 109)), (1, .ref (sm_B E + 0)), (0, .ref (lwb E))] 3 rfl (show 3 < 4 by decide) rfl dL_law_17 ?_
  refine lw_sw (L' := lz) (fun hw _ => ⟨ic_ly, hw⟩) ?_
  have h := lw_loop (E := E) (nm := nm) hL 512 0 imC (by decide) ic_Inv
  rw [show iI ((6 * 0 : Nat) : Int) = (0 : Int32) by decide] at h
  exact sm_widen (by decide) (by decide) h
