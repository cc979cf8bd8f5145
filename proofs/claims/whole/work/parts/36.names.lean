/-! names: a pair in one long, floorMod, the inverse -/
theorem nn_msb (x : Int32) : (0 ≤ x) ↔ x.toBitVec.msb = false := by
  rw [Int32.le_iff_toInt_le, BitVec.msb_eq_toInt]
  show (0 : Int) ≤ x.toBitVec.toInt ↔ _
  simp
theorem iI_xor_nn {a b : Int} (h1 : -2147483648 ≤ a) (h2 : a ≤ 2147483647) (h3 : -2147483648 ≤ b) (h4 : b ≤ 2147483647) : (0 ≤ iI a ^^^ iI b) ↔ (0 ≤ a ↔ 0 ≤ b) := by
  have ea : (0 ≤ iI a) ↔ 0 ≤ a := by rw [iI_lit, iI_le (by omega) (by omega) (by omega) (by omega)]
  have eb : (0 ≤ iI b) ↔ 0 ≤ b := by rw [iI_lit, iI_le (by omega) (by omega) (by omega) (by omega)]
  rw [nn_msb] at ea eb
  rw [← ea, ← eb, nn_msb, Int32.toBitVec_xor, BitVec.msb_xor]
  cases (iI a).toBitVec.msb <;> cases (iI b).toBitVec.msb <;> simp
theorem pk_bottom (x y : Int32) : ((x.toInt64 <<< ((32 : Int32).toInt64 &&& 63)) ||| y.toInt64).toInt32 = y := by
  rw [show ((32 : Int32).toInt64 &&& 63) = (32 : Int64) by decide]
  apply Int32.toBitVec_inj.mp
  rw [Int64.toBitVec_toInt32, Int64.toBitVec_or, Int64.toBitVec_shiftLeft, Int32.toBitVec_toInt64, Int32.toBitVec_toInt64]
  rw [show (32 : Int64).toBitVec.smod (64 : BitVec 64) = 32#64 by decide]
  apply BitVec.eq_of_getLsbD_eq
  intro i hi
  rw [BitVec.signExtend_eq_setWidth_of_le _ (by decide)]
  have h3 : ¬ 32 ≤ i := by omega
  simp [BitVec.getElem_signExtend, hi, show i < 64 by omega]
theorem pk_top (x y : Int32) (hy : 0 ≤ y) : (((x.toInt64 <<< ((32 : Int32).toInt64 &&& 63)) ||| y.toInt64) >>> ((32 : Int32).toInt64 &&& 63)).toInt32 = x := by
  rw [show ((32 : Int32).toInt64 &&& 63) = (32 : Int64) by decide]
  have hm := (nn_msb y).mp hy
  apply Int32.toBitVec_inj.mp
  rw [Int64.toBitVec_toInt32, Int64.toBitVec_shiftRight, Int64.toBitVec_or, Int64.toBitVec_shiftLeft, Int32.toBitVec_toInt64, Int32.toBitVec_toInt64]
  rw [show (32 : Int64).toBitVec.smod (64 : BitVec 64) = 32#64 by decide]
  apply BitVec.eq_of_getLsbD_eq
  intro i hi
  rw [BitVec.signExtend_eq_setWidth_of_le _ (by decide)]
  simp [BitVec.getElem_sshiftRight, BitVec.getElem_signExtend, BitVec.getLsbD_signExtend, hi, hm, show i < 64 by omega, show 32 + i < 64 by omega, show ¬ (32 + i < 32) by omega]
section NAM
variable {E : sm_E} {L : sm_S → Prop} {d : Nat} {m : sm_M}
theorem c_floorMod {Q : Int32 → sm_M → Prop} {a b : Int} (h1 : -2147483648 ≤ a) (h2 : a ≤ 2147483647) (h3 : 0 < b) (h4 : b ≤ 2147483647) (hd : 1 ≤ d) (h : Q (iI (a % b)) m) : sm_callI E L mJ9_floorMod_7cf53 d 0 0 [.int (iI a), .int (iI b)] m Q := by
  refine vJ9_floorMod_7cf53_0 hd ⟨fun hc => ?_, fun x2 e2 => ?_⟩
  · simp (disch := omega) only [iI_lit, jI_lit, iI_add, iI_sub, iI_mul, iI_neg, jI_add, jI_sub, jI_mul, jI_neg, nI_i, lN_j, iI_le, iI_lt, iI_eq, jI_le, jI_lt, jI_eq, iI_in, iI_cl, iI_j, jI_i, wI_1, wI_2, wJ_1, wJ_2, wJ_3, wIs_1, wIs_2, wJs_1, wJs_2, wJs_3] at hc
    omega
  · rw [iI_rem (by omega) (by omega) (by omega) (by omega)] at e2
    subst e2
    have hb1 := Int.emod_nonneg a (show b ≠ 0 by omega)
    have hb2 := Int.emod_lt_of_pos a h3
    by_cases ha : 0 ≤ a
    · rw [Int.tmod_eq_emod_of_nonneg ha]
      refine ⟨fun _ => h, fun hc => absurd ((iI_xor_nn h1 h2 (by omega) h4).mpr ⟨fun _ => by omega, fun _ => ha⟩) hc⟩
    · refine ⟨fun hc => absurd ((iI_xor_nn h1 h2 (by omega) h4).mp hc) (fun q => ha (q.mpr (by omega))), fun _ => ?_⟩
      have ht : a.tmod b = if b ∣ a then 0 else a % b - b := by
        rw [Int.tmod_eq_emod]
        have : (b.natAbs : Int) = b := by omega
        by_cases hdv : b ∣ a
        · simp [hdv, Int.emod_eq_zero_of_dvd hdv]
        · simp [hdv, ha, this]
      by_cases hdv : b ∣ a
      · rw [ht, if_pos hdv]
        rw [Int.emod_eq_zero_of_dvd hdv] at h
        exact ⟨fun _ => h, fun hc => absurd rfl hc⟩
      · rw [ht, if_neg hdv]
        have hnz : a % b ≠ 0 := fun q => hdv (Int.dvd_of_emod_eq_zero q)
        refine ⟨fun hc => ?_, fun _ => ?_⟩
        · simp (disch := omega) only [iI_lit, jI_lit, iI_add, iI_sub, iI_mul, iI_neg, jI_add, jI_sub, jI_mul, jI_neg, nI_i, lN_j, iI_le, iI_lt, iI_eq, jI_le, jI_lt, jI_eq, iI_in, iI_cl, iI_j, jI_i, wI_1, wI_2, wJ_1, wJ_2, wJ_3, wIs_1, wIs_2, wJs_1, wJs_2, wJs_3] at hc
          omega
        · rw [iI_add, Int.sub_add_cancel]
          exact h
/-- a pair in one long -/
def pk (a b : Int) : Int64 := ((iI a).toInt64 <<< ((32 : Int32).toInt64 &&& 63)) ||| (iI b).toInt64
theorem c_pair {Q : Int64 → sm_M → Prop} {a b : Int} (hd : 1 ≤ d) (h : Q (pk a b) m) : sm_callJ E L mX6_pair d 0 0 [.int (iI a), .int (iI b)] m Q := vX6_pair_0 hd h
theorem c_bottomOf {Q : Int32 → sm_M → Prop} {a b : Int} (hd : 1 ≤ d) (h : Q (iI b) m) : sm_callI E L mX6_bottomOf d 0 0 [.long (pk a b)] m Q := by
  refine vX6_bottomOf_0 hd ?_
  rw [pk, pk_bottom]
  exact h
theorem c_topOf {Q : Int32 → sm_M → Prop} {a b : Int} (hb : 0 ≤ b) (hb2 : b ≤ 2147483647) (hd : 1 ≤ d) (h : Q (iI a) m) : sm_callI E L mX6_topOf d 0 0 [.long (pk a b)] m Q := by
  refine vX6_topOf_0 hd ?_
  rw [pk, pk_top _ _ (by rw [iI_lit, iI_le (by omega) (by omega) (by omega) (by omega)]; exact hb)]
  exact h
theorem pk_inj {a b a' b' : Int} (h1 : -2147483648 ≤ a) (h2 : a ≤ 2147483647) (h3 : -2147483648 ≤ a') (h4 : a' ≤ 2147483647) (h5 : 0 ≤ b) (h6 : b ≤ 2147483647) (h7 : 0 ≤ b') (h8 : b' ≤ 2147483647) : pk a b = pk a' b' ↔ a = a' ∧ b = b' := by
  constructor
  · intro h
    have e1 : iI b = iI b' := by
      rw [← pk_bottom (iI a) (iI b), ← pk_bottom (iI a') (iI b')]
      exact congrArg Int64.toInt32 h
    have e2 : iI a = iI a' := by
      rw [← pk_top (iI a) (iI b) (by rw [iI_lit, iI_le (by omega) (by omega) (by omega) (by omega)]; exact h5), ← pk_top (iI a') (iI b') (by rw [iI_lit, iI_le (by omega) (by omega) (by omega) (by omega)]; exact h7)]
      exact congrArg (fun z : Int64 => (z >>> ((32 : Int32).toInt64 &&& 63)).toInt32) h
    exact ⟨(iI_eq h1 h2 h3 h4).mp e2, (iI_eq (by omega) h6 (by omega) h8).mp e1⟩
  · rintro ⟨rfl, rfl⟩
    rfl
end NAM
