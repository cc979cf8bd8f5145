abbrev mJ7_copyOf_59c91 : sm_Y := (yJ7_copyOf_59c91, cJ7_copyOf_59c91, 3, (some (FieldType.array FieldType.int)))
theorem fJ7_copyOf_59c91 : sm_mt mJ7_copyOf_59c91 2 := ⟨sm_in 989 (by decide +kernel) (by decide +kernel), sm_in 988 (by decide +kernel) (by decide +kernel), sm_in 100 (by decide +kernel) (by decide +kernel), ⟨by decide +kernel, by decide +kernel, by decide +kernel⟩, by decide⟩
theorem dJ7_copyOf_59c91_0 : decode cJ7_copyOf_59c91 0 = .ok (.iload_n 1, 1) := dk_iload_n_1 (by decide +kernel)
theorem dJ7_copyOf_59c91_1 : decode cJ7_copyOf_59c91 1 = .ok (.aload_n 0, 1) := dk_aload_n_0 (by decide +kernel)
theorem dJ7_copyOf_59c91_2 : decode cJ7_copyOf_59c91 2 = .ok (.arraylength, 1) := dk_arraylength (by decide +kernel)
theorem dJ7_copyOf_59c91_3 : decode cJ7_copyOf_59c91 3 = .ok (.if_icmp .ne 11, 3) := dk_if_icmp_ne 11 (b1 := 0) (b2 := 11) (by decide +kernel) (by decide +kernel) (by decide +kernel) (by decide +kernel)
theorem dJ7_copyOf_59c91_6 : decode cJ7_copyOf_59c91 6 = .ok (.aload_n 0, 1) := dk_aload_n_0 (by decide +kernel)
theorem dJ7_copyOf_59c91_7 : decode cJ7_copyOf_59c91 7 = .ok (.invokevirtual 316, 3) := dk_invokevirtual 316 (b1 := 1) (b2 := 60) (by decide +kernel) (by decide +kernel) (by decide +kernel) (by decide +kernel)
theorem dJ7_copyOf_59c91_10 : decode cJ7_copyOf_59c91 10 = .ok (.checkcast 317, 3) := dk_checkcast 317 (b1 := 1) (b2 := 61) (by decide +kernel) (by decide +kernel) (by decide +kernel) (by decide +kernel)
theorem dJ7_copyOf_59c91_13 : decode cJ7_copyOf_59c91 13 = .ok (.areturn, 1) := dk_areturn (by decide +kernel)
theorem dJ7_copyOf_59c91_14 : decode cJ7_copyOf_59c91 14 = .ok (.iload_n 1, 1) := dk_iload_n_1 (by decide +kernel)
theorem dJ7_copyOf_59c91_15 : decode cJ7_copyOf_59c91 15 = .ok (.newarray .int, 2) := by decide +kernel
theorem dJ7_copyOf_59c91_17 : decode cJ7_copyOf_59c91 17 = .ok (.astore_n 2, 1) := dk_astore_n_2 (by decide +kernel)
theorem dJ7_copyOf_59c91_18 : decode cJ7_copyOf_59c91 18 = .ok (.aload_n 0, 1) := dk_aload_n_0 (by decide +kernel)
theorem dJ7_copyOf_59c91_19 : decode cJ7_copyOf_59c91 19 = .ok (.iconst 0, 1) := dk_iconst_0 (by decide +kernel)
theorem dJ7_copyOf_59c91_20 : decode cJ7_copyOf_59c91 20 = .ok (.aload_n 2, 1) := dk_aload_n_2 (by decide +kernel)
theorem dJ7_copyOf_59c91_21 : decode cJ7_copyOf_59c91 21 = .ok (.iconst 0, 1) := dk_iconst_0 (by decide +kernel)
theorem dJ7_copyOf_59c91_22 : decode cJ7_copyOf_59c91 22 = .ok (.aload_n 0, 1) := dk_aload_n_0 (by decide +kernel)
theorem dJ7_copyOf_59c91_23 : decode cJ7_copyOf_59c91 23 = .ok (.arraylength, 1) := dk_arraylength (by decide +kernel)
theorem dJ7_copyOf_59c91_24 : decode cJ7_copyOf_59c91 24 = .ok (.iload_n 1, 1) := dk_iload_n_1 (by decide +kernel)
theorem dJ7_copyOf_59c91_25 : decode cJ7_copyOf_59c91 25 = .ok (.invokestatic 304, 3) := dk_invokestatic 304 (b1 := 1) (b2 := 48) (by decide +kernel) (by decide +kernel) (by decide +kernel) (by decide +kernel)
theorem dJ7_copyOf_59c91_28 : decode cJ7_copyOf_59c91 28 = .ok (.invokestatic 150, 3) := dk_invokestatic 150 (b1 := 0) (b2 := 150) (by decide +kernel) (by decide +kernel) (by decide +kernel) (by decide +kernel)
theorem dJ7_copyOf_59c91_31 : decode cJ7_copyOf_59c91 31 = .ok (.aload_n 2, 1) := dk_aload_n_2 (by decide +kernel)
theorem dJ7_copyOf_59c91_32 : decode cJ7_copyOf_59c91 32 = .ok (.areturn, 1) := dk_areturn (by decide +kernel)
theorem wRJ7_304 : Cond.methodLink RJ7 304 yJ9_min_7cf53 ∈ sm_T := sm_in 997 (by decide +kernel) (by decide +kernel)
theorem wRJ7_150 : Cond.methodLink RJ7 150 arraycopyName ∈ sm_T := sm_in 998 (by decide +kernel) (by decide +kernel)
theorem wcl1 : Cond.methodLink "java/util/Arrays" 316 ⟨"[I", "clone", "()Ljava/lang/Object;"⟩ ∈ sm_T := sm_in 990 (by decide +kernel) (by decide +kernel)
theorem wcl2 : Cond.sameMethod "[I" "java/lang/Object" "clone" "()Ljava/lang/Object;" ∈ sm_T := sm_in 991 (by decide +kernel) (by decide +kernel)
theorem wcl3 : Cond.native ⟨"java/lang/Object", "clone", "()Ljava/lang/Object;"⟩ ∈ sm_T := sm_in 992 (by decide +kernel) (by decide +kernel)
theorem wcl4 : Cond.instanceMethod ⟨"java/lang/Object", "clone", "()Ljava/lang/Object;"⟩ ∈ sm_T := sm_in 993 (by decide +kernel) (by decide +kernel)
theorem wcl5 : Cond.selects "[I" ⟨"[I", "clone", "()Ljava/lang/Object;"⟩ ⟨"java/lang/Object", "clone", "()Ljava/lang/Object;"⟩ ∈ sm_T := sm_in 994 (by decide +kernel) (by decide +kernel)
theorem wcl6 : Cond.classLink "java/util/Arrays" 317 "[I" ∈ sm_T := sm_in 996 (by decide +kernel) (by decide +kernel)
theorem c_copyOf {E : sm_E} {L : sm_S → Prop} {d a n c : Nat} {m : sm_M} {Q : Nat → sm_M → Prop} (hd : 2 ≤ d) (ha : sm_K m.2.2 a = 11) (hn : sm_N m.2.2 a = n) (hat : a ≠ sm_top m.2.2) (hcn : c ≤ n) (hn1 : n ≤ 1024) (hL : ∀ k, L m.2.2 → L (sm_nw m 11 k).2.2)
  (h : ∀ f : Nat → Int32, (∀ k, k < c → f k = m.1 a k) → Q (sm_top m.2.2) (sm_wIs (sm_nw m 11 c) (sm_top m.2.2) f)) :
  sm_callA E L mJ7_copyOf_59c91 d 1 1024 [.ref (sm_B E + a), .int (nI c)] m Q := by
  refine sm_enterF (by decide +kernel) (by simp [lg_sl, Value.category]) ?_
  refine sm_iload_n (Y := mJ7_copyOf_59c91) (pc := 0) 1 1 rfl rfl dJ7_copyOf_59c91_0 ?_
  refine sm_aload_n (Y := mJ7_copyOf_59c91) (pc := 1) 0 0 rfl rfl dJ7_copyOf_59c91_1 ?_
  refine sm_alenI (Y := mJ7_copyOf_59c91) (pc := 2) (fun _ => ⟨ha, hn⟩) dJ7_copyOf_59c91_2 ?_
  refine sm_icmp_ne (Y := mJ7_copyOf_59c91) (pc := 3) 14 (by decide) dJ7_copyOf_59c91_3 (fun hc => ?_) (fun hc => ?_)
  · have hlt : c < n := by
      rcases Nat.lt_or_ge c n with h1 | h1
      · exact h1
      · exact absurd (by rw [show c = n by omega]) hc
    refine sm_iload_n (Y := mJ7_copyOf_59c91) (pc := 14) 1 1 rfl rfl dJ7_copyOf_59c91_14 ?_
    refine sm_newI (Y := mJ7_copyOf_59c91) (pc := 15) (N := c) wa_int (by rw [nI_i, iI_lit, iI_lt (by omega) (by omega) (by omega) (by omega)]; omega) (by rw [nI_i, iI_cl (by omega) (by omega)]; omega) (by omega) (hL c) (Nat.le_of_ble_eq_true rfl) (by omega) dJ7_copyOf_59c91_15 (fun m1 e1 => ?_)
    obtain ⟨n1, n2, n3, n4, n5⟩ := sm_nw_at (m := m) (k := 11) (n := c)
    obtain ⟨o2, o3, o4, o5, o6⟩ := sm_nw_ne (m := m) (k := 11) (n := c) hat
    refine sm_astore_n (Y := mJ7_copyOf_59c91) (pc := 17) [(2, .ref (sm_B E + sm_top m.2.2)), (0, .ref (sm_B E + a)), (1, .int (nI c))] 2 rfl (by decide) rfl dJ7_copyOf_59c91_17 ?_
    refine sm_aload_n (Y := mJ7_copyOf_59c91) (pc := 18) 1 0 rfl rfl dJ7_copyOf_59c91_18 ?_
    refine sm_iconst (Y := mJ7_copyOf_59c91) (pc := 19) 0 (by decide) dJ7_copyOf_59c91_19 ?_
    refine sm_aload_n (Y := mJ7_copyOf_59c91) (pc := 20) 0 2 rfl rfl dJ7_copyOf_59c91_20 ?_
    refine sm_iconst (Y := mJ7_copyOf_59c91) (pc := 21) 0 (by decide) dJ7_copyOf_59c91_21 ?_
    refine sm_aload_n (Y := mJ7_copyOf_59c91) (pc := 22) 1 0 rfl rfl dJ7_copyOf_59c91_22 ?_
    refine sm_alenI (Y := mJ7_copyOf_59c91) (pc := 23) (n := n) (fun _ => by rw [e1]; exact ⟨o5.trans ha, o6.trans hn⟩) dJ7_copyOf_59c91_23 ?_
    refine sm_iload_n (Y := mJ7_copyOf_59c91) (pc := 24) 2 1 rfl rfl dJ7_copyOf_59c91_24 ?_
    refine sm_is_I (Y := mJ7_copyOf_59c91) (pc := 25) (As := [.int (nI n), .int (nI c)]) fJ9_min_7cf53 wRJ7_304 rfl (Nat.le_trans (by decide) hd) (Nat.le_of_ble_eq_true rfl) ⟨Nat.le_of_ble_eq_true rfl, by omega⟩ dJ7_copyOf_59c91_25 rfl (vJ9_min_7cf53_0 (d := 1) (Nat.le_refl _) ⟨fun _ => ?_, fun hq => absurd (by rw [nI_i, nI_i, iI_lt (by omega) (by omega) (by omega) (by omega)]; omega) hq⟩)
    have hz : ¬ (nI c) < 0 := by rw [nI_i, iI_lit, iI_lt (by omega) (by omega) (by omega) (by omega)]; omega
    have hz2 : (nI c).toNatClampNeg = c := by rw [nI_i, iI_cl (by omega) (by omega)]; omega
    refine sm_copyI (Y := mJ7_copyOf_59c91) (pc := 28) (a0 := a) (a1 := sm_top m.2.2) (n0 := n) (n1 := c) (fun _ => by rw [e1]; exact ⟨o5.trans ha, o6.trans hn⟩) (fun _ => by rw [e1]; exact ⟨n4, n5⟩) (by decide) (by decide) hz (by rw [hz2]; show 0 + c ≤ n; omega) (by rw [hz2]; show 0 + c ≤ c; omega) wRJ7_150 (Nat.le_trans (by decide) hd) (Nat.le_of_ble_eq_true rfl) dJ7_copyOf_59c91_28 (fun m2 e2 => ?_)
    refine sm_aload_n (Y := mJ7_copyOf_59c91) (pc := 31) 0 2 rfl rfl dJ7_copyOf_59c91_31 ?_
    refine sm_widen (k := 1) (n := 1024) (Nat.le_of_ble_eq_true rfl) (by omega) ?_
    subst e1
    subst e2
    refine sm_aret (Y := mJ7_copyOf_59c91) (pc := 32) rfl (Or.inr ⟨_, rfl⟩) rfl rfl dJ7_copyOf_59c91_32 ⟨_, rfl, ?_⟩
    refine h _ (fun k hk => ?_)
    rw [hz2, o2]
    simp [va_cpy, hk]
  · have hce : c = n := by
      rw [nI_i, nI_i, iI_eq (by omega) (by omega) (by omega) (by omega)] at hc
      omega
    subst hce
    refine sm_aload_n (Y := mJ7_copyOf_59c91) (pc := 6) 0 0 rfl rfl dJ7_copyOf_59c91_6 ?_
    refine sm_clone (Y := mJ7_copyOf_59c91) (pc := 7) ha hn wcl1 wcl2 wcl3 wcl4 wcl5 (fun _ => hL _) (Nat.le_trans (by decide) hd) (Nat.le_of_ble_eq_true rfl) (Nat.le_of_ble_eq_true rfl) (by omega) dJ7_copyOf_59c91_7 (fun m1 e1 => ?_)
    refine sm_castA (Y := mJ7_copyOf_59c91) (pc := 10) (by rw [e1]; exact (sm_nw_at (m := m) (k := 11) (n := c)).2.2.2.1) wcl6 dJ7_copyOf_59c91_10 ?_
    refine sm_widen (k := 1) (n := 1024) (Nat.le_of_ble_eq_true rfl) (by omega) ?_
    subst e1
    exact sm_aret (Y := mJ7_copyOf_59c91) (pc := 13) rfl (Or.inr ⟨_, rfl⟩) rfl rfl dJ7_copyOf_59c91_13 ⟨_, rfl, h _ (fun _ _ => rfl)⟩
