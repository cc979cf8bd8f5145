abbrev mJ3_checkIndex_8e157 : sm_Y := (yJ3_checkIndex_8e157, cJ3_checkIndex_8e157, 3, (some FieldType.int))
theorem fJ3_checkIndex_8e157 : sm_mt mJ3_checkIndex_8e157 3 := ⟨sm_in 626 (by decide +kernel) (by decide +kernel), sm_in 625 (by decide +kernel) (by decide +kernel), sm_in 98 (by decide +kernel) (by decide +kernel), ⟨by decide +kernel, by decide +kernel, by decide +kernel⟩, by decide⟩
theorem dJ3_checkIndex_8e157_0 : decode cJ3_checkIndex_8e157 0 = .ok (.iload_n 0, 1) := dk_iload_n_0 (by decide +kernel)
theorem dJ3_checkIndex_8e157_1 : decode cJ3_checkIndex_8e157 1 = .ok (.ifCond .lt 8, 3) := dk_ifCond_lt 8 (b1 := 0) (b2 := 8) (by decide +kernel) (by decide +kernel) (by decide +kernel) (by decide +kernel)
theorem dJ3_checkIndex_8e157_4 : decode cJ3_checkIndex_8e157 4 = .ok (.iload_n 0, 1) := dk_iload_n_0 (by decide +kernel)
theorem dJ3_checkIndex_8e157_5 : decode cJ3_checkIndex_8e157 5 = .ok (.iload_n 1, 1) := dk_iload_n_1 (by decide +kernel)
theorem dJ3_checkIndex_8e157_6 : decode cJ3_checkIndex_8e157 6 = .ok (.if_icmp .lt 10, 3) := dk_if_icmp_lt 10 (b1 := 0) (b2 := 10) (by decide +kernel) (by decide +kernel) (by decide +kernel) (by decide +kernel)
theorem dJ3_checkIndex_8e157_16 : decode cJ3_checkIndex_8e157 16 = .ok (.iload_n 0, 1) := dk_iload_n_0 (by decide +kernel)
theorem dJ3_checkIndex_8e157_17 : decode cJ3_checkIndex_8e157 17 = .ok (.ireturn, 1) := dk_ireturn (by decide +kernel)
theorem vJ3_checkIndex_8e157_N {E : sm_E} {L : sm_S → Prop} {d : Nat} {x0 x1 : Int32} {m : sm_M} {Q : Int32 → sm_M → Prop} (hd : 1 ≤ d) (h1 : ¬ x0 < 0) (h2 : x0 < x1) (h : Q x0 m) : sm_callI E L mJ3_checkIndex_8e157 d 0 0 [.int x0, .int x1, .null] m Q := by
  refine sm_enterF (by decide +kernel) (by simp [lg_sl, Value.category]) ?_
  refine sm_iload_n (Y := mJ3_checkIndex_8e157) (pc := 0) 0 0 rfl rfl dJ3_checkIndex_8e157_0 ?_
  refine sm_if_lt (Y := mJ3_checkIndex_8e157) (pc := 1) 9 (by decide) dJ3_checkIndex_8e157_1 (fun hc => absurd hc h1) (fun _ => ?_)
  refine sm_iload_n (Y := mJ3_checkIndex_8e157) (pc := 4) 0 0 rfl rfl dJ3_checkIndex_8e157_4 ?_
  refine sm_iload_n (Y := mJ3_checkIndex_8e157) (pc := 5) 1 1 rfl rfl dJ3_checkIndex_8e157_5 ?_
  refine sm_icmp_lt (Y := mJ3_checkIndex_8e157) (pc := 6) 16 (by decide) dJ3_checkIndex_8e157_6 (fun _ => ?_) (fun hc => absurd h2 hc)
  refine sm_iload_n (Y := mJ3_checkIndex_8e157) (pc := 16) 0 0 rfl rfl dJ3_checkIndex_8e157_16 ?_
  exact sm_iret (Y := mJ3_checkIndex_8e157) (pc := 17) rfl rfl rfl dJ3_checkIndex_8e157_17 ⟨_, rfl, h⟩
theorem vJ3_checkIndex_8e157_R {E : sm_E} {L : sm_S → Prop} {d : Nat} {x0 x1 : Int32} {t : Nat} {m : sm_M} {Q : Int32 → sm_M → Prop} (hd : 1 ≤ d) (h1 : ¬ x0 < 0) (h2 : x0 < x1) (h : Q x0 m) : sm_callI E L mJ3_checkIndex_8e157 d 0 0 [.int x0, .int x1, .ref t] m Q := by
  refine sm_enterF (by decide +kernel) (by simp [lg_sl, Value.category]) ?_
  refine sm_iload_n (Y := mJ3_checkIndex_8e157) (pc := 0) 0 0 rfl rfl dJ3_checkIndex_8e157_0 ?_
  refine sm_if_lt (Y := mJ3_checkIndex_8e157) (pc := 1) 9 (by decide) dJ3_checkIndex_8e157_1 (fun hc => absurd hc h1) (fun _ => ?_)
  refine sm_iload_n (Y := mJ3_checkIndex_8e157) (pc := 4) 0 0 rfl rfl dJ3_checkIndex_8e157_4 ?_
  refine sm_iload_n (Y := mJ3_checkIndex_8e157) (pc := 5) 1 1 rfl rfl dJ3_checkIndex_8e157_5 ?_
  refine sm_icmp_lt (Y := mJ3_checkIndex_8e157) (pc := 6) 16 (by decide) dJ3_checkIndex_8e157_6 (fun _ => ?_) (fun hc => absurd h2 hc)
  refine sm_iload_n (Y := mJ3_checkIndex_8e157) (pc := 16) 0 0 rfl rfl dJ3_checkIndex_8e157_16 ?_
  exact sm_iret (Y := mJ3_checkIndex_8e157) (pc := 17) rfl rfl rfl dJ3_checkIndex_8e157_17 ⟨_, rfl, h⟩
abbrev mJ0_checkIndex_df160 : sm_Y := (yJ0_checkIndex_df160, cJ0_checkIndex_df160, 2, none)
theorem fJ0_checkIndex_df160 : sm_mt mJ0_checkIndex_df160 2 := ⟨sm_in 621 (by decide +kernel) (by decide +kernel), sm_in 620 (by decide +kernel) (by decide +kernel), sm_in 96 (by decide +kernel) (by decide +kernel), ⟨by decide +kernel, by decide +kernel, by decide +kernel⟩, by decide⟩
theorem dJ0_checkIndex_df160_0 : decode cJ0_checkIndex_df160 0 = .ok (.iload_n 0, 1) := dk_iload_n_0 (by decide +kernel)
theorem dJ0_checkIndex_df160_1 : decode cJ0_checkIndex_df160 1 = .ok (.iload_n 1, 1) := dk_iload_n_1 (by decide +kernel)
theorem dJ0_checkIndex_df160_2 : decode cJ0_checkIndex_df160 2 = .ok (.getstatic 1053, 3) := dk_getstatic 1053 (b1 := 4) (b2 := 29) (by decide +kernel) (by decide +kernel) (by decide +kernel) (by decide +kernel)
theorem dJ0_checkIndex_df160_5 : decode cJ0_checkIndex_df160 5 = .ok (.invokestatic 1059, 3) := dk_invokestatic 1059 (b1 := 4) (b2 := 35) (by decide +kernel) (by decide +kernel) (by decide +kernel) (by decide +kernel)
theorem dJ0_checkIndex_df160_8 : decode cJ0_checkIndex_df160 8 = .ok (.pop, 1) := dk_pop (by decide +kernel)
theorem dJ0_checkIndex_df160_9 : decode cJ0_checkIndex_df160 9 = .ok (.return_, 1) := dk_return_ (by decide +kernel)
theorem wRJ0_1053 : Cond.fieldLink RJ0 1053 "jdk/internal/util/Preconditions" "SIOOBE_FORMATTER" "Ljava/util/function/BiFunction;" ∈ sm_T := sm_in 622 (by decide +kernel) (by decide +kernel)
theorem wRJ0_1059 : Cond.methodLink RJ0 1059 yJ3_checkIndex_8e157 ∈ sm_T := sm_in 624 (by decide +kernel) (by decide +kernel)
theorem sm_gSio {E : sm_E} {L : sm_S → Prop} {Y : sm_Y} {d mc ms : Nat} {vs : List Value} {pc : Nat} {lv : List (Nat × Value)} {rest : List Value} {m : sm_M} {cells slots : Nat} {Q : List Frame → State → State → Prop} {idx : Nat} (hlink : Cond.fieldLink Y.1.cls idx "jdk/internal/util/Preconditions" "SIOOBE_FORMATTER" "Ljava/util/function/BiFunction;" ∈ sm_T) (hdec : decode Y.2.1 pc = .ok (.getstatic idx, 3))
    (k1 : sm_go E L Y d mc ms vs (pc + 3) lv (.null :: rest) m cells slots Q) (k2 : ∀ t : Nat, sm_go E L Y d mc ms vs (pc + 3) lv (.ref t :: rest) m cells slots Q) : sm_go E L Y d mc ms vs pc lv rest m cells slots Q := by
  intro p e s x below meth c H locs ls hat hP hS hl
  rcases hat.2.2.2.2.2.2.2.2.2.1.2.2.2.1 with hz | ⟨t, hz⟩
  · exact va_gets hat.1 hat.2.1 hz hS hat.2.2.2.2.2.2.1 (hat.2.2.2.2.2.2.2.1 _ hlink) (fun _ h => h) hdec (k1 p e s x below meth c H locs ls hat hP hS hl)
  · exact va_gets hat.1 hat.2.1 hz hS hat.2.2.2.2.2.2.1 (hat.2.2.2.2.2.2.2.1 _ hlink) (fun _ h => h) hdec (k2 t p e s x below meth c H locs ls hat hP hS hl)
theorem vJ0_checkIndex_df160 {E : sm_E} {L : sm_S → Prop} {d : Nat} {x0 x1 : Int32} {m : sm_M} {Q : sm_M → Prop} (hd : 2 ≤ d) (h1 : ¬ x0 < 0) (h2 : x0 < x1) (h : Q m) : sm_callV E L mJ0_checkIndex_df160 d 0 0 [.int x0, .int x1] m Q := by
  refine sm_enterF (by decide +kernel) (by simp [lg_sl, Value.category]) ?_
  refine sm_iload_n (Y := mJ0_checkIndex_df160) (pc := 0) 0 0 rfl rfl dJ0_checkIndex_df160_0 ?_
  refine sm_iload_n (Y := mJ0_checkIndex_df160) (pc := 1) 1 1 rfl rfl dJ0_checkIndex_df160_1 ?_
  have hfin : ∀ y : Int32, sm_go E L mJ0_checkIndex_df160 d 0 0 [.int x0, .int x1] 8 [(0, .int x0), (1, .int x1)] [.int y] m (0 + 0) (0 + 0) (sm_Z E L [.int x0, .int x1] 0 0 (sm_QV Q)) := fun y => by
    refine sm_pop (Y := mJ0_checkIndex_df160) (pc := 8) rfl dJ0_checkIndex_df160_8 ?_
    exact sm_vret (Y := mJ0_checkIndex_df160) (pc := 9) rfl rfl rfl dJ0_checkIndex_df160_9 ⟨rfl, h⟩
  refine sm_gSio (Y := mJ0_checkIndex_df160) (pc := 2) wRJ0_1053 dJ0_checkIndex_df160_2 ?_ (fun t => ?_)
  · exact sm_is_I (Y := mJ0_checkIndex_df160) (pc := 5) (As := [.int x0, .int x1, .null]) fJ3_checkIndex_8e157 wRJ0_1059 rfl (Nat.le_trans (by decide) hd) (Nat.le_of_ble_eq_true rfl) ⟨Nat.le_refl _, Nat.le_refl _⟩ dJ0_checkIndex_df160_5 rfl (vJ3_checkIndex_8e157_N (d := 1) (Nat.le_refl _) h1 h2 (hfin _))
  · exact sm_is_I (Y := mJ0_checkIndex_df160) (pc := 5) (As := [.int x0, .int x1, .ref t]) fJ3_checkIndex_8e157 wRJ0_1059 rfl (Nat.le_trans (by decide) hd) (Nat.le_of_ble_eq_true rfl) ⟨Nat.le_refl _, Nat.le_refl _⟩ dJ0_checkIndex_df160_5 rfl (vJ3_checkIndex_8e157_R (d := 1) (Nat.le_refl _) h1 h2 (hfin _))
abbrev mJ1_charAt_3b067 : sm_Y := (yJ1_charAt_3b067, cJ1_charAt_3b067, 2, (some FieldType.char))
theorem fJ1_charAt_3b067 : sm_mt mJ1_charAt_3b067 2 := ⟨sm_in 618 (by decide +kernel) (by decide +kernel), sm_in 617 (by decide +kernel) (by decide +kernel), sm_in 97 (by decide +kernel) (by decide +kernel), ⟨by decide +kernel, by decide +kernel, by decide +kernel⟩, by decide⟩
theorem dJ1_charAt_3b067_0 : decode cJ1_charAt_3b067 0 = .ok (.iload_n 1, 1) := dk_iload_n_1 (by decide +kernel)
theorem dJ1_charAt_3b067_1 : decode cJ1_charAt_3b067 1 = .ok (.aload_n 0, 1) := dk_aload_n_0 (by decide +kernel)
theorem dJ1_charAt_3b067_2 : decode cJ1_charAt_3b067 2 = .ok (.arraylength, 1) := dk_arraylength (by decide +kernel)
theorem dJ1_charAt_3b067_3 : decode cJ1_charAt_3b067 3 = .ok (.invokestatic 9, 3) := dk_invokestatic 9 (b1 := 0) (b2 := 9) (by decide +kernel) (by decide +kernel) (by decide +kernel) (by decide +kernel)
theorem dJ1_charAt_3b067_6 : decode cJ1_charAt_3b067 6 = .ok (.aload_n 0, 1) := dk_aload_n_0 (by decide +kernel)
theorem dJ1_charAt_3b067_7 : decode cJ1_charAt_3b067 7 = .ok (.iload_n 1, 1) := dk_iload_n_1 (by decide +kernel)
theorem dJ1_charAt_3b067_8 : decode cJ1_charAt_3b067 8 = .ok (.baload, 1) := dk_baload (by decide +kernel)
theorem dJ1_charAt_3b067_9 : decode cJ1_charAt_3b067 9 = .ok (.sipush 255, 3) := dk_sipush 255 (b1 := 0) (b2 := 255) (by decide +kernel) (by decide +kernel) (by decide +kernel) (by decide +kernel)
theorem dJ1_charAt_3b067_12 : decode cJ1_charAt_3b067 12 = .ok (.iand, 1) := dk_iand (by decide +kernel)
theorem dJ1_charAt_3b067_13 : decode cJ1_charAt_3b067 13 = .ok (.i2c, 1) := dk_i2c (by decide +kernel)
theorem dJ1_charAt_3b067_14 : decode cJ1_charAt_3b067 14 = .ok (.ireturn, 1) := dk_ireturn (by decide +kernel)
theorem wRJ1_9 : Cond.methodLink RJ1 9 yJ0_checkIndex_df160 ∈ sm_T := sm_in 619 (by decide +kernel) (by decide +kernel)
/-- the letter at j of the text i -/
def sm_chr (i : Nat) (j : Nat) : Int32 := (sm_byt.getD i []).getD j 0
theorem sm_chr_c : ∀ i, i < 6 → ∀ j, j < 8 → ((sm_chr i j &&& 255).toUInt32 % 65536).toInt32 = sm_chr i j := by decide +kernel
theorem sm_chr_d : ∀ i, i < 6 → ∀ j, j < 8 → (sm_chr i j).toUInt32.toUInt16.toUInt32.toInt32 = sm_chr i j := by decide +kernel
theorem sm_len8 : ∀ i, i < 6 → sm_len.getD i 0 < 8 ∧ ¬ nI (sm_len.getD i 0) < 0 ∧ (nI (sm_len.getD i 0)).toNatClampNeg = sm_len.getD i 0 := by decide +kernel
theorem sm_len_in {i : Nat} {j : Int32} (hi : i < 6) (hin : vp_in j (sm_len.getD i 0)) : ¬ j < 0 ∧ j < nI (sm_len.getD i 0) ∧ j.toNatClampNeg < 8 := by
  have h1 : ¬ j < 0 := fun q => hin (Or.inl q)
  have h2 : j.toNatClampNeg < sm_len.getD i 0 := Nat.not_le.mp fun q => hin (Or.inr q)
  obtain ⟨a1, a2, a3⟩ := sm_len8 i hi
  refine ⟨h1, ?_, Nat.lt_trans h2 a1⟩
  rw [← a3] at h2
  rw [Int32.lt_iff_toInt_lt] at h1 a2 ⊢
  simp only [Int32.toNatClampNeg] at h2
  have : (0 : Int32).toInt = 0 := rfl
  omega
theorem vJ1_charAt_3b067 {E : sm_E} {L : sm_S → Prop} {d : Nat} {i : Nat} {x1 : Int32} {m : sm_M} {Q : Int32 → sm_M → Prop} (hd : 3 ≤ d) (hi : i < 6) (hin : vp_in x1 (sm_len.getD i 0)) (h : Q (sm_chr i x1.toNatClampNeg) m) : sm_callI E L mJ1_charAt_3b067 d 0 0 [.ref (E.2.2.2.2.2.2.1 i), .int x1] m Q := by
  obtain ⟨h1, h2, h3⟩ := sm_len_in hi hin
  refine sm_enterF (by decide +kernel) (by simp [lg_sl, Value.category]) ?_
  refine sm_iload_n (Y := mJ1_charAt_3b067) (pc := 0) 1 1 rfl rfl dJ1_charAt_3b067_0 ?_
  refine sm_aload_n (Y := mJ1_charAt_3b067) (pc := 1) 0 0 rfl rfl dJ1_charAt_3b067_1 ?_
  refine sm_lenS (Y := mJ1_charAt_3b067) (pc := 2) hi dJ1_charAt_3b067_2 ?_
  refine sm_is_V (Y := mJ1_charAt_3b067) (pc := 3) (As := [.int x1, .int (nI (sm_len.getD i 0))]) fJ0_checkIndex_df160 wRJ1_9 rfl (Nat.le_trans (by decide) hd) (Nat.le_of_ble_eq_true rfl) ⟨Nat.le_refl _, Nat.le_refl _⟩ dJ1_charAt_3b067_3 rfl (vJ0_checkIndex_df160 (d := 2) (Nat.le_refl _) h1 h2 ?_)
  refine sm_aload_n (Y := mJ1_charAt_3b067) (pc := 6) 0 0 rfl rfl dJ1_charAt_3b067_6 ?_
  refine sm_iload_n (Y := mJ1_charAt_3b067) (pc := 7) 1 1 rfl rfl dJ1_charAt_3b067_7 ?_
  refine sm_baldS (Y := mJ1_charAt_3b067) (pc := 8) hi hin dJ1_charAt_3b067_8 ?_
  refine sm_sipush (Y := mJ1_charAt_3b067) (pc := 9) 255 (by decide) dJ1_charAt_3b067_9 ?_
  refine sm_iand (Y := mJ1_charAt_3b067) (pc := 12) dJ1_charAt_3b067_12 ?_
  refine sm_i2c (Y := mJ1_charAt_3b067) (pc := 13) dJ1_charAt_3b067_13 ?_
  have e1 := sm_chr_c i hi _ h3
  have e2 := sm_chr_d i hi _ h3
  show sm_go E L mJ1_charAt_3b067 d 0 0 _ _ _ [.int ((sm_chr i x1.toNatClampNeg &&& 255).toUInt32 % 65536).toInt32] m _ _ _
  rw [e1]
  exact sm_zretT (Y := mJ1_charAt_3b067) (pc := 14) rfl (by show Value.int _ = _; rw [e2]) rfl rfl dJ1_charAt_3b067_14 ⟨_, rfl, h⟩
theorem dJ0_charAt_5068e_0 : decode cJ0_charAt_5068e 0 = .ok (.aload_n 0, 1) := dk_aload_n_0 (by decide +kernel)
theorem dJ0_charAt_5068e_1 : decode cJ0_charAt_5068e 1 = .ok (.invokevirtual 492, 3) := dk_invokevirtual 492 (b1 := 1) (b2 := 236) (by decide +kernel) (by decide +kernel) (by decide +kernel) (by decide +kernel)
theorem dJ0_charAt_5068e_4 : decode cJ0_charAt_5068e 4 = .ok (.ifCond .eq 12, 3) := dk_ifCond_eq 12 (b1 := 0) (b2 := 12) (by decide +kernel) (by decide +kernel) (by decide +kernel) (by decide +kernel)
theorem dJ0_charAt_5068e_7 : decode cJ0_charAt_5068e 7 = .ok (.aload_n 0, 1) := dk_aload_n_0 (by decide +kernel)
theorem dJ0_charAt_5068e_8 : decode cJ0_charAt_5068e 8 = .ok (.getfield 9, 3) := dk_getfield 9 (b1 := 0) (b2 := 9) (by decide +kernel) (by decide +kernel) (by decide +kernel) (by decide +kernel)
theorem dJ0_charAt_5068e_11 : decode cJ0_charAt_5068e 11 = .ok (.iload_n 1, 1) := dk_iload_n_1 (by decide +kernel)
theorem dJ0_charAt_5068e_12 : decode cJ0_charAt_5068e 12 = .ok (.invokestatic 495, 3) := dk_invokestatic 495 (b1 := 1) (b2 := 239) (by decide +kernel) (by decide +kernel) (by decide +kernel) (by decide +kernel)
theorem dJ0_charAt_5068e_15 : decode cJ0_charAt_5068e 15 = .ok (.ireturn, 1) := dk_ireturn (by decide +kernel)
theorem wRJ0_492 : Cond.methodLink RJ0 492 yJ0_isLatin1_aae02 ∈ sm_T := sm_in 612 (by decide +kernel) (by decide +kernel)
theorem wRJ0_495 : Cond.methodLink RJ0 495 yJ1_charAt_3b067 ∈ sm_T := sm_in 616 (by decide +kernel) (by decide +kernel)
theorem vJ0_charAt_5068e {E : sm_E} {L : sm_S → Prop} {d : Nat} {i : Nat} {x1 : Int32} {m : sm_M} {Q : Int32 → sm_M → Prop} (hd : 5 ≤ d) (hi : i < 6) (hin : vp_in x1 (sm_len.getD i 0)) (h : Q (sm_chr i x1.toNatClampNeg) m) : sm_callI E L mJ0_charAt_5068e d 0 0 [.ref (E.2.2.2.2.2.1 i), .int x1] m Q := by
  refine sm_enterF (by decide +kernel) (by simp [lg_sl, Value.category]) ?_
  refine sm_aload_n (Y := mJ0_charAt_5068e) (pc := 0) 0 0 rfl rfl dJ0_charAt_5068e_0 ?_
  refine sm_ivS_I (Y := mJ0_charAt_5068e) (pc := 1) (As := []) hi fJ0_isLatin1_aae02 wRJ0_492 rfl (Nat.le_trans (by decide) hd) (Nat.le_of_ble_eq_true rfl) ⟨Nat.le_refl _, Nat.le_refl _⟩ dJ0_charAt_5068e_1 rfl (vJ0_isLatin1_aae02_0 (d := 1) (Nat.le_refl _) hi ?_)
  refine sm_if_eq (Y := mJ0_charAt_5068e) (pc := 4) 16 (by decide) dJ0_charAt_5068e_4 (fun hc => absurd hc (by decide)) (fun _ => ?_)
  refine sm_aload_n (Y := mJ0_charAt_5068e) (pc := 7) 0 0 rfl rfl dJ0_charAt_5068e_7 ?_
  refine sm_gValue (Y := mJ0_charAt_5068e) (pc := 8) hi wRJ0_9 dJ0_charAt_5068e_8 ?_
  refine sm_iload_n (Y := mJ0_charAt_5068e) (pc := 11) 1 1 rfl rfl dJ0_charAt_5068e_11 ?_
  refine sm_is_I (Y := mJ0_charAt_5068e) (pc := 12) (As := [.ref (E.2.2.2.2.2.2.1 i), .int x1]) fJ1_charAt_3b067 wRJ0_495 rfl (Nat.le_trans (by decide) hd) (Nat.le_of_ble_eq_true rfl) ⟨Nat.le_refl _, Nat.le_refl _⟩ dJ0_charAt_5068e_12 rfl (vJ1_charAt_3b067 (d := 3) (Nat.le_refl _) hi hin ?_)
  have e2 := sm_chr_d i hi _ (sm_len_in hi hin).2.2
  exact sm_zretT (Y := mJ0_charAt_5068e) (pc := 15) rfl (by show Value.int _ = _; rw [e2]) rfl rfl dJ0_charAt_5068e_15 ⟨_, rfl, h⟩
