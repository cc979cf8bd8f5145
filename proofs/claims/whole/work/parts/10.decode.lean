theorem dk_u1 {c : ByteArray} {p : Nat} {b : UInt8} (h : c.data.toList[p]? = some b) : (Reader.u1 : Decoder Nat) c p = .ok (b.toNat, p + 1) := by
  have e : (Reader.u1 : Decoder Nat) c p = (if h : p < c.size then .ok (c[p].toNat, p + 1) else .error (HasTruncated.truncated p)) := by
    show (do if h : p < c.size then do set (p + 1); Pure.pure c[p].toNat else MonadExcept.throw (HasTruncated.truncated p) : Decoder Nat) c p = _
    by_cases hi : p < c.size
    · rw [dif_pos hi, dif_pos hi]; rfl
    · rw [dif_neg hi, dif_neg hi]; rfl
  have hl : p < c.size := by
    have := (List.getElem?_eq_some_iff.mp h).1
    simpa using this
  rw [e, dif_pos hl]
  have h2 : c.data.toList[p]? = some c[p] := by
    rw [List.getElem?_eq_getElem (by simpa using hl)]
    rfl
  rw [Option.some.inj (h.symm.trans h2)]
theorem dk_b {α β : Type} {r : Decoder α} {f : α → Decoder β} {c : ByteArray} {p q : Nat} {a : α} (h : r c p = .ok (a, q)) : (r >>= f) c p = f a c q := by
  show (do let (a, s) ← r c p; f a c s : Except DecodeError (β × Nat)) = _
  rw [h]
  rfl
theorem dk_d {c : ByteArray} {pc n : Nat} {i : Instr} (h : Decoder.instr pc c pc = .ok (i, pc + n)) : decode c pc = .ok (i, n) := by
  show (do let (a, s) ← Decoder.instr pc c pc; pure (a, s - pc) : Except DecodeError (Instr × Nat)) = _
  rw [h]
  show Except.ok (i, pc + n - pc) = _
  rw [Nat.add_sub_cancel_left]
theorem dk_u2 {c : ByteArray} {p : Nat} {b1 b2 : UInt8} (h1 : c.data.toList[p]? = some b1) (h2 : c.data.toList[p + 1]? = some b2) : (Reader.u2 : Decoder Nat) c p = .ok (b1.toNat * 256 + b2.toNat, p + 2) :=
  (dk_b (dk_u1 h1)).trans (dk_b (dk_u1 h2))
theorem dk_s1 {c : ByteArray} {p : Nat} {b : UInt8} (h : c.data.toList[p]? = some b) : (Reader.s1 : Decoder Int) c p = .ok (Reader.signed 8 b.toNat, p + 1) := by
  show (do let (a, s) ← (Reader.u1 : Decoder Nat) c p; pure (Reader.signed 8 a, s) : Except DecodeError (Int × Nat)) = _
  rw [dk_u1 h]
  rfl
theorem dk_s2 {c : ByteArray} {p : Nat} {b1 b2 : UInt8} (h1 : c.data.toList[p]? = some b1) (h2 : c.data.toList[p + 1]? = some b2) : (Reader.s2 : Decoder Int) c p = .ok (Reader.signed 16 (b1.toNat * 256 + b2.toNat), p + 2) := by
  show (do let (a, s) ← (Reader.u2 : Decoder Nat) c p; pure (Reader.signed 16 a, s) : Except DecodeError (Int × Nat)) = _
  rw [dk_u2 h1 h2]
  rfl
theorem dk_aload_n_0 {c : ByteArray} {pc : Nat} (h : c.data.toList[pc]? = some 42) : decode c pc = .ok (.aload_n 0, 1) := dk_d (dk_b (dk_u1 h))
theorem dk_iload_n_0 {c : ByteArray} {pc : Nat} (h : c.data.toList[pc]? = some 26) : decode c pc = .ok (.iload_n 0, 1) := dk_d (dk_b (dk_u1 h))
theorem dk_lload_n_0 {c : ByteArray} {pc : Nat} (h : c.data.toList[pc]? = some 30) : decode c pc = .ok (.lload_n 0, 1) := dk_d (dk_b (dk_u1 h))
theorem dk_aload_n_1 {c : ByteArray} {pc : Nat} (h : c.data.toList[pc]? = some 43) : decode c pc = .ok (.aload_n 1, 1) := dk_d (dk_b (dk_u1 h))
theorem dk_iload_n_1 {c : ByteArray} {pc : Nat} (h : c.data.toList[pc]? = some 27) : decode c pc = .ok (.iload_n 1, 1) := dk_d (dk_b (dk_u1 h))
theorem dk_lload_n_1 {c : ByteArray} {pc : Nat} (h : c.data.toList[pc]? = some 31) : decode c pc = .ok (.lload_n 1, 1) := dk_d (dk_b (dk_u1 h))
theorem dk_istore_n_1 {c : ByteArray} {pc : Nat} (h : c.data.toList[pc]? = some 60) : decode c pc = .ok (.istore_n 1, 1) := dk_d (dk_b (dk_u1 h))
theorem dk_astore_n_1 {c : ByteArray} {pc : Nat} (h : c.data.toList[pc]? = some 76) : decode c pc = .ok (.astore_n 1, 1) := dk_d (dk_b (dk_u1 h))
theorem dk_aload_n_2 {c : ByteArray} {pc : Nat} (h : c.data.toList[pc]? = some 44) : decode c pc = .ok (.aload_n 2, 1) := dk_d (dk_b (dk_u1 h))
theorem dk_iload_n_2 {c : ByteArray} {pc : Nat} (h : c.data.toList[pc]? = some 28) : decode c pc = .ok (.iload_n 2, 1) := dk_d (dk_b (dk_u1 h))
theorem dk_lload_n_2 {c : ByteArray} {pc : Nat} (h : c.data.toList[pc]? = some 32) : decode c pc = .ok (.lload_n 2, 1) := dk_d (dk_b (dk_u1 h))
theorem dk_istore_n_2 {c : ByteArray} {pc : Nat} (h : c.data.toList[pc]? = some 61) : decode c pc = .ok (.istore_n 2, 1) := dk_d (dk_b (dk_u1 h))
theorem dk_lstore_n_2 {c : ByteArray} {pc : Nat} (h : c.data.toList[pc]? = some 65) : decode c pc = .ok (.lstore_n 2, 1) := dk_d (dk_b (dk_u1 h))
theorem dk_astore_n_2 {c : ByteArray} {pc : Nat} (h : c.data.toList[pc]? = some 77) : decode c pc = .ok (.astore_n 2, 1) := dk_d (dk_b (dk_u1 h))
theorem dk_aload_n_3 {c : ByteArray} {pc : Nat} (h : c.data.toList[pc]? = some 45) : decode c pc = .ok (.aload_n 3, 1) := dk_d (dk_b (dk_u1 h))
theorem dk_iload_n_3 {c : ByteArray} {pc : Nat} (h : c.data.toList[pc]? = some 29) : decode c pc = .ok (.iload_n 3, 1) := dk_d (dk_b (dk_u1 h))
theorem dk_lload_n_3 {c : ByteArray} {pc : Nat} (h : c.data.toList[pc]? = some 33) : decode c pc = .ok (.lload_n 3, 1) := dk_d (dk_b (dk_u1 h))
theorem dk_istore_n_3 {c : ByteArray} {pc : Nat} (h : c.data.toList[pc]? = some 62) : decode c pc = .ok (.istore_n 3, 1) := dk_d (dk_b (dk_u1 h))
theorem dk_lstore_n_3 {c : ByteArray} {pc : Nat} (h : c.data.toList[pc]? = some 66) : decode c pc = .ok (.lstore_n 3, 1) := dk_d (dk_b (dk_u1 h))
theorem dk_astore_n_3 {c : ByteArray} {pc : Nat} (h : c.data.toList[pc]? = some 78) : decode c pc = .ok (.astore_n 3, 1) := dk_d (dk_b (dk_u1 h))
theorem dk_iconst_m1 {c : ByteArray} {pc : Nat} (h : c.data.toList[pc]? = some 2) : decode c pc = .ok (.iconst (-1), 1) := dk_d (dk_b (dk_u1 h))
theorem dk_iconst_0 {c : ByteArray} {pc : Nat} (h : c.data.toList[pc]? = some 3) : decode c pc = .ok (.iconst 0, 1) := dk_d (dk_b (dk_u1 h))
theorem dk_iconst_1 {c : ByteArray} {pc : Nat} (h : c.data.toList[pc]? = some 4) : decode c pc = .ok (.iconst 1, 1) := dk_d (dk_b (dk_u1 h))
theorem dk_iconst_2 {c : ByteArray} {pc : Nat} (h : c.data.toList[pc]? = some 5) : decode c pc = .ok (.iconst 2, 1) := dk_d (dk_b (dk_u1 h))
theorem dk_iconst_3 {c : ByteArray} {pc : Nat} (h : c.data.toList[pc]? = some 6) : decode c pc = .ok (.iconst 3, 1) := dk_d (dk_b (dk_u1 h))
theorem dk_iconst_4 {c : ByteArray} {pc : Nat} (h : c.data.toList[pc]? = some 7) : decode c pc = .ok (.iconst 4, 1) := dk_d (dk_b (dk_u1 h))
theorem dk_iconst_5 {c : ByteArray} {pc : Nat} (h : c.data.toList[pc]? = some 8) : decode c pc = .ok (.iconst 5, 1) := dk_d (dk_b (dk_u1 h))
theorem dk_lconst_0 {c : ByteArray} {pc : Nat} (h : c.data.toList[pc]? = some 9) : decode c pc = .ok (.lconst 0, 1) := dk_d (dk_b (dk_u1 h))
theorem dk_lconst_1 {c : ByteArray} {pc : Nat} (h : c.data.toList[pc]? = some 10) : decode c pc = .ok (.lconst 1, 1) := dk_d (dk_b (dk_u1 h))
theorem dk_iaload {c : ByteArray} {pc : Nat} (h : c.data.toList[pc]? = some 46) : decode c pc = .ok (.iaload, 1) := dk_d (dk_b (dk_u1 h))
theorem dk_laload {c : ByteArray} {pc : Nat} (h : c.data.toList[pc]? = some 47) : decode c pc = .ok (.laload, 1) := dk_d (dk_b (dk_u1 h))
theorem dk_aaload {c : ByteArray} {pc : Nat} (h : c.data.toList[pc]? = some 50) : decode c pc = .ok (.aaload, 1) := dk_d (dk_b (dk_u1 h))
theorem dk_baload {c : ByteArray} {pc : Nat} (h : c.data.toList[pc]? = some 51) : decode c pc = .ok (.baload, 1) := dk_d (dk_b (dk_u1 h))
theorem dk_iastore {c : ByteArray} {pc : Nat} (h : c.data.toList[pc]? = some 79) : decode c pc = .ok (.iastore, 1) := dk_d (dk_b (dk_u1 h))
theorem dk_lastore {c : ByteArray} {pc : Nat} (h : c.data.toList[pc]? = some 80) : decode c pc = .ok (.lastore, 1) := dk_d (dk_b (dk_u1 h))
theorem dk_aastore {c : ByteArray} {pc : Nat} (h : c.data.toList[pc]? = some 83) : decode c pc = .ok (.aastore, 1) := dk_d (dk_b (dk_u1 h))
theorem dk_bastore {c : ByteArray} {pc : Nat} (h : c.data.toList[pc]? = some 84) : decode c pc = .ok (.bastore, 1) := dk_d (dk_b (dk_u1 h))
theorem dk_pop {c : ByteArray} {pc : Nat} (h : c.data.toList[pc]? = some 87) : decode c pc = .ok (.pop, 1) := dk_d (dk_b (dk_u1 h))
theorem dk_dup {c : ByteArray} {pc : Nat} (h : c.data.toList[pc]? = some 89) : decode c pc = .ok (.dup, 1) := dk_d (dk_b (dk_u1 h))
theorem dk_dup2 {c : ByteArray} {pc : Nat} (h : c.data.toList[pc]? = some 92) : decode c pc = .ok (.dup2, 1) := dk_d (dk_b (dk_u1 h))
theorem dk_iadd {c : ByteArray} {pc : Nat} (h : c.data.toList[pc]? = some 96) : decode c pc = .ok (.iadd, 1) := dk_d (dk_b (dk_u1 h))
theorem dk_ladd {c : ByteArray} {pc : Nat} (h : c.data.toList[pc]? = some 97) : decode c pc = .ok (.ladd, 1) := dk_d (dk_b (dk_u1 h))
theorem dk_isub {c : ByteArray} {pc : Nat} (h : c.data.toList[pc]? = some 100) : decode c pc = .ok (.isub, 1) := dk_d (dk_b (dk_u1 h))
theorem dk_lsub {c : ByteArray} {pc : Nat} (h : c.data.toList[pc]? = some 101) : decode c pc = .ok (.lsub, 1) := dk_d (dk_b (dk_u1 h))
theorem dk_imul {c : ByteArray} {pc : Nat} (h : c.data.toList[pc]? = some 104) : decode c pc = .ok (.imul, 1) := dk_d (dk_b (dk_u1 h))
theorem dk_lmul {c : ByteArray} {pc : Nat} (h : c.data.toList[pc]? = some 105) : decode c pc = .ok (.lmul, 1) := dk_d (dk_b (dk_u1 h))
theorem dk_idiv {c : ByteArray} {pc : Nat} (h : c.data.toList[pc]? = some 108) : decode c pc = .ok (.idiv, 1) := dk_d (dk_b (dk_u1 h))
theorem dk_ldiv {c : ByteArray} {pc : Nat} (h : c.data.toList[pc]? = some 109) : decode c pc = .ok (.ldiv, 1) := dk_d (dk_b (dk_u1 h))
theorem dk_irem {c : ByteArray} {pc : Nat} (h : c.data.toList[pc]? = some 112) : decode c pc = .ok (.irem, 1) := dk_d (dk_b (dk_u1 h))
theorem dk_lrem {c : ByteArray} {pc : Nat} (h : c.data.toList[pc]? = some 113) : decode c pc = .ok (.lrem, 1) := dk_d (dk_b (dk_u1 h))
theorem dk_ineg {c : ByteArray} {pc : Nat} (h : c.data.toList[pc]? = some 116) : decode c pc = .ok (.ineg, 1) := dk_d (dk_b (dk_u1 h))
theorem dk_lneg {c : ByteArray} {pc : Nat} (h : c.data.toList[pc]? = some 117) : decode c pc = .ok (.lneg, 1) := dk_d (dk_b (dk_u1 h))
theorem dk_ishl {c : ByteArray} {pc : Nat} (h : c.data.toList[pc]? = some 120) : decode c pc = .ok (.ishl, 1) := dk_d (dk_b (dk_u1 h))
theorem dk_lshl {c : ByteArray} {pc : Nat} (h : c.data.toList[pc]? = some 121) : decode c pc = .ok (.lshl, 1) := dk_d (dk_b (dk_u1 h))
theorem dk_ishr {c : ByteArray} {pc : Nat} (h : c.data.toList[pc]? = some 122) : decode c pc = .ok (.ishr, 1) := dk_d (dk_b (dk_u1 h))
theorem dk_lshr {c : ByteArray} {pc : Nat} (h : c.data.toList[pc]? = some 123) : decode c pc = .ok (.lshr, 1) := dk_d (dk_b (dk_u1 h))
theorem dk_iushr {c : ByteArray} {pc : Nat} (h : c.data.toList[pc]? = some 124) : decode c pc = .ok (.iushr, 1) := dk_d (dk_b (dk_u1 h))
theorem dk_lushr {c : ByteArray} {pc : Nat} (h : c.data.toList[pc]? = some 125) : decode c pc = .ok (.lushr, 1) := dk_d (dk_b (dk_u1 h))
theorem dk_iand {c : ByteArray} {pc : Nat} (h : c.data.toList[pc]? = some 126) : decode c pc = .ok (.iand, 1) := dk_d (dk_b (dk_u1 h))
theorem dk_land {c : ByteArray} {pc : Nat} (h : c.data.toList[pc]? = some 127) : decode c pc = .ok (.land, 1) := dk_d (dk_b (dk_u1 h))
theorem dk_ior {c : ByteArray} {pc : Nat} (h : c.data.toList[pc]? = some 128) : decode c pc = .ok (.ior, 1) := dk_d (dk_b (dk_u1 h))
theorem dk_lor {c : ByteArray} {pc : Nat} (h : c.data.toList[pc]? = some 129) : decode c pc = .ok (.lor, 1) := dk_d (dk_b (dk_u1 h))
theorem dk_ixor {c : ByteArray} {pc : Nat} (h : c.data.toList[pc]? = some 130) : decode c pc = .ok (.ixor, 1) := dk_d (dk_b (dk_u1 h))
theorem dk_lxor {c : ByteArray} {pc : Nat} (h : c.data.toList[pc]? = some 131) : decode c pc = .ok (.lxor, 1) := dk_d (dk_b (dk_u1 h))
theorem dk_i2l {c : ByteArray} {pc : Nat} (h : c.data.toList[pc]? = some 133) : decode c pc = .ok (.i2l, 1) := dk_d (dk_b (dk_u1 h))
theorem dk_l2i {c : ByteArray} {pc : Nat} (h : c.data.toList[pc]? = some 136) : decode c pc = .ok (.l2i, 1) := dk_d (dk_b (dk_u1 h))
theorem dk_i2b {c : ByteArray} {pc : Nat} (h : c.data.toList[pc]? = some 145) : decode c pc = .ok (.i2b, 1) := dk_d (dk_b (dk_u1 h))
theorem dk_i2c {c : ByteArray} {pc : Nat} (h : c.data.toList[pc]? = some 146) : decode c pc = .ok (.i2c, 1) := dk_d (dk_b (dk_u1 h))
theorem dk_i2s {c : ByteArray} {pc : Nat} (h : c.data.toList[pc]? = some 147) : decode c pc = .ok (.i2s, 1) := dk_d (dk_b (dk_u1 h))
theorem dk_lcmp {c : ByteArray} {pc : Nat} (h : c.data.toList[pc]? = some 148) : decode c pc = .ok (.lcmp, 1) := dk_d (dk_b (dk_u1 h))
theorem dk_ireturn {c : ByteArray} {pc : Nat} (h : c.data.toList[pc]? = some 172) : decode c pc = .ok (.ireturn, 1) := dk_d (dk_b (dk_u1 h))
theorem dk_lreturn {c : ByteArray} {pc : Nat} (h : c.data.toList[pc]? = some 173) : decode c pc = .ok (.lreturn, 1) := dk_d (dk_b (dk_u1 h))
theorem dk_areturn {c : ByteArray} {pc : Nat} (h : c.data.toList[pc]? = some 176) : decode c pc = .ok (.areturn, 1) := dk_d (dk_b (dk_u1 h))
theorem dk_return_ {c : ByteArray} {pc : Nat} (h : c.data.toList[pc]? = some 177) : decode c pc = .ok (.return_, 1) := dk_d (dk_b (dk_u1 h))
theorem dk_arraylength {c : ByteArray} {pc : Nat} (h : c.data.toList[pc]? = some 190) : decode c pc = .ok (.arraylength, 1) := dk_d (dk_b (dk_u1 h))
theorem dk_ldc {c : ByteArray} {pc : Nat} (i : Nat) {b : UInt8} (h : c.data.toList[pc]? = some 18) (h1 : c.data.toList[pc + 1]? = some b) (hi : b.toNat = i) : decode c pc = .ok (.ldc i, 2) := by
  subst hi
  exact dk_d ((dk_b (dk_u1 h)).trans (dk_b (dk_u1 h1)))
theorem dk_iload {c : ByteArray} {pc : Nat} (i : Nat) {b : UInt8} (h : c.data.toList[pc]? = some 21) (h1 : c.data.toList[pc + 1]? = some b) (hi : b.toNat = i) : decode c pc = .ok (.iload i, 2) := by
  subst hi
  exact dk_d ((dk_b (dk_u1 h)).trans (dk_b (dk_u1 h1)))
theorem dk_lload {c : ByteArray} {pc : Nat} (i : Nat) {b : UInt8} (h : c.data.toList[pc]? = some 22) (h1 : c.data.toList[pc + 1]? = some b) (hi : b.toNat = i) : decode c pc = .ok (.lload i, 2) := by
  subst hi
  exact dk_d ((dk_b (dk_u1 h)).trans (dk_b (dk_u1 h1)))
theorem dk_aload {c : ByteArray} {pc : Nat} (i : Nat) {b : UInt8} (h : c.data.toList[pc]? = some 25) (h1 : c.data.toList[pc + 1]? = some b) (hi : b.toNat = i) : decode c pc = .ok (.aload i, 2) := by
  subst hi
  exact dk_d ((dk_b (dk_u1 h)).trans (dk_b (dk_u1 h1)))
theorem dk_istore {c : ByteArray} {pc : Nat} (i : Nat) {b : UInt8} (h : c.data.toList[pc]? = some 54) (h1 : c.data.toList[pc + 1]? = some b) (hi : b.toNat = i) : decode c pc = .ok (.istore i, 2) := by
  subst hi
  exact dk_d ((dk_b (dk_u1 h)).trans (dk_b (dk_u1 h1)))
theorem dk_lstore {c : ByteArray} {pc : Nat} (i : Nat) {b : UInt8} (h : c.data.toList[pc]? = some 55) (h1 : c.data.toList[pc + 1]? = some b) (hi : b.toNat = i) : decode c pc = .ok (.lstore i, 2) := by
  subst hi
  exact dk_d ((dk_b (dk_u1 h)).trans (dk_b (dk_u1 h1)))
theorem dk_astore {c : ByteArray} {pc : Nat} (i : Nat) {b : UInt8} (h : c.data.toList[pc]? = some 58) (h1 : c.data.toList[pc + 1]? = some b) (hi : b.toNat = i) : decode c pc = .ok (.astore i, 2) := by
  subst hi
  exact dk_d ((dk_b (dk_u1 h)).trans (dk_b (dk_u1 h1)))
theorem dk_bipush {c : ByteArray} {pc : Nat} (i : Int) {b : UInt8} (h : c.data.toList[pc]? = some 16) (h1 : c.data.toList[pc + 1]? = some b) (hi : Reader.signed 8 b.toNat = i) : decode c pc = .ok (.bipush i, 2) := by
  subst hi
  exact dk_d ((dk_b (dk_u1 h)).trans (dk_b (dk_s1 h1)))
theorem dk_ldc_w {c : ByteArray} {pc : Nat} (i : Nat) {b1 b2 : UInt8} (h : c.data.toList[pc]? = some 19) (h1 : c.data.toList[pc + 1]? = some b1) (h2 : c.data.toList[pc + 2]? = some b2) (hi : b1.toNat * 256 + b2.toNat = i) : decode c pc = .ok (.ldc_w i, 3) := by
  subst hi
  exact dk_d ((dk_b (dk_u1 h)).trans (dk_b (dk_u2 h1 h2)))
theorem dk_ldc2_w {c : ByteArray} {pc : Nat} (i : Nat) {b1 b2 : UInt8} (h : c.data.toList[pc]? = some 20) (h1 : c.data.toList[pc + 1]? = some b1) (h2 : c.data.toList[pc + 2]? = some b2) (hi : b1.toNat * 256 + b2.toNat = i) : decode c pc = .ok (.ldc2_w i, 3) := by
  subst hi
  exact dk_d ((dk_b (dk_u1 h)).trans (dk_b (dk_u2 h1 h2)))
theorem dk_getstatic {c : ByteArray} {pc : Nat} (i : Nat) {b1 b2 : UInt8} (h : c.data.toList[pc]? = some 178) (h1 : c.data.toList[pc + 1]? = some b1) (h2 : c.data.toList[pc + 2]? = some b2) (hi : b1.toNat * 256 + b2.toNat = i) : decode c pc = .ok (.getstatic i, 3) := by
  subst hi
  exact dk_d ((dk_b (dk_u1 h)).trans (dk_b (dk_u2 h1 h2)))
theorem dk_getfield {c : ByteArray} {pc : Nat} (i : Nat) {b1 b2 : UInt8} (h : c.data.toList[pc]? = some 180) (h1 : c.data.toList[pc + 1]? = some b1) (h2 : c.data.toList[pc + 2]? = some b2) (hi : b1.toNat * 256 + b2.toNat = i) : decode c pc = .ok (.getfield i, 3) := by
  subst hi
  exact dk_d ((dk_b (dk_u1 h)).trans (dk_b (dk_u2 h1 h2)))
theorem dk_putfield {c : ByteArray} {pc : Nat} (i : Nat) {b1 b2 : UInt8} (h : c.data.toList[pc]? = some 181) (h1 : c.data.toList[pc + 1]? = some b1) (h2 : c.data.toList[pc + 2]? = some b2) (hi : b1.toNat * 256 + b2.toNat = i) : decode c pc = .ok (.putfield i, 3) := by
  subst hi
  exact dk_d ((dk_b (dk_u1 h)).trans (dk_b (dk_u2 h1 h2)))
theorem dk_invokevirtual {c : ByteArray} {pc : Nat} (i : Nat) {b1 b2 : UInt8} (h : c.data.toList[pc]? = some 182) (h1 : c.data.toList[pc + 1]? = some b1) (h2 : c.data.toList[pc + 2]? = some b2) (hi : b1.toNat * 256 + b2.toNat = i) : decode c pc = .ok (.invokevirtual i, 3) := by
  subst hi
  exact dk_d ((dk_b (dk_u1 h)).trans (dk_b (dk_u2 h1 h2)))
theorem dk_invokespecial {c : ByteArray} {pc : Nat} (i : Nat) {b1 b2 : UInt8} (h : c.data.toList[pc]? = some 183) (h1 : c.data.toList[pc + 1]? = some b1) (h2 : c.data.toList[pc + 2]? = some b2) (hi : b1.toNat * 256 + b2.toNat = i) : decode c pc = .ok (.invokespecial i, 3) := by
  subst hi
  exact dk_d ((dk_b (dk_u1 h)).trans (dk_b (dk_u2 h1 h2)))
theorem dk_invokestatic {c : ByteArray} {pc : Nat} (i : Nat) {b1 b2 : UInt8} (h : c.data.toList[pc]? = some 184) (h1 : c.data.toList[pc + 1]? = some b1) (h2 : c.data.toList[pc + 2]? = some b2) (hi : b1.toNat * 256 + b2.toNat = i) : decode c pc = .ok (.invokestatic i, 3) := by
  subst hi
  exact dk_d ((dk_b (dk_u1 h)).trans (dk_b (dk_u2 h1 h2)))
theorem dk_new {c : ByteArray} {pc : Nat} (i : Nat) {b1 b2 : UInt8} (h : c.data.toList[pc]? = some 187) (h1 : c.data.toList[pc + 1]? = some b1) (h2 : c.data.toList[pc + 2]? = some b2) (hi : b1.toNat * 256 + b2.toNat = i) : decode c pc = .ok (.new i, 3) := by
  subst hi
  exact dk_d ((dk_b (dk_u1 h)).trans (dk_b (dk_u2 h1 h2)))
theorem dk_anewarray {c : ByteArray} {pc : Nat} (i : Nat) {b1 b2 : UInt8} (h : c.data.toList[pc]? = some 189) (h1 : c.data.toList[pc + 1]? = some b1) (h2 : c.data.toList[pc + 2]? = some b2) (hi : b1.toNat * 256 + b2.toNat = i) : decode c pc = .ok (.anewarray i, 3) := by
  subst hi
  exact dk_d ((dk_b (dk_u1 h)).trans (dk_b (dk_u2 h1 h2)))
theorem dk_checkcast {c : ByteArray} {pc : Nat} (i : Nat) {b1 b2 : UInt8} (h : c.data.toList[pc]? = some 192) (h1 : c.data.toList[pc + 1]? = some b1) (h2 : c.data.toList[pc + 2]? = some b2) (hi : b1.toNat * 256 + b2.toNat = i) : decode c pc = .ok (.checkcast i, 3) := by
  subst hi
  exact dk_d ((dk_b (dk_u1 h)).trans (dk_b (dk_u2 h1 h2)))
theorem dk_sipush {c : ByteArray} {pc : Nat} (i : Int) {b1 b2 : UInt8} (h : c.data.toList[pc]? = some 17) (h1 : c.data.toList[pc + 1]? = some b1) (h2 : c.data.toList[pc + 2]? = some b2) (hi : Reader.signed 16 (b1.toNat * 256 + b2.toNat) = i) : decode c pc = .ok (.sipush i, 3) := by
  subst hi
  exact dk_d ((dk_b (dk_u1 h)).trans (dk_b (dk_s2 h1 h2)))
theorem dk_goto {c : ByteArray} {pc : Nat} (i : Int) {b1 b2 : UInt8} (h : c.data.toList[pc]? = some 167) (h1 : c.data.toList[pc + 1]? = some b1) (h2 : c.data.toList[pc + 2]? = some b2) (hi : Reader.signed 16 (b1.toNat * 256 + b2.toNat) = i) : decode c pc = .ok (.goto i, 3) := by
  subst hi
  exact dk_d ((dk_b (dk_u1 h)).trans (dk_b (dk_s2 h1 h2)))
theorem dk_ifnonnull {c : ByteArray} {pc : Nat} (i : Int) {b1 b2 : UInt8} (h : c.data.toList[pc]? = some 199) (h1 : c.data.toList[pc + 1]? = some b1) (h2 : c.data.toList[pc + 2]? = some b2) (hi : Reader.signed 16 (b1.toNat * 256 + b2.toNat) = i) : decode c pc = .ok (.ifnonnull i, 3) := by
  subst hi
  exact dk_d ((dk_b (dk_u1 h)).trans (dk_b (dk_s2 h1 h2)))
theorem dk_ifnull {c : ByteArray} {pc : Nat} (i : Int) {b1 b2 : UInt8} (h : c.data.toList[pc]? = some 198) (h1 : c.data.toList[pc + 1]? = some b1) (h2 : c.data.toList[pc + 2]? = some b2) (hi : Reader.signed 16 (b1.toNat * 256 + b2.toNat) = i) : decode c pc = .ok (.ifnull i, 3) := by
  subst hi
  exact dk_d ((dk_b (dk_u1 h)).trans (dk_b (dk_s2 h1 h2)))
theorem dk_ifCond_eq {c : ByteArray} {pc : Nat} (i : Int) {b1 b2 : UInt8} (h : c.data.toList[pc]? = some 153) (h1 : c.data.toList[pc + 1]? = some b1) (h2 : c.data.toList[pc + 2]? = some b2) (hi : Reader.signed 16 (b1.toNat * 256 + b2.toNat) = i) : decode c pc = .ok (.ifCond .eq i, 3) := by
  subst hi
  exact dk_d ((dk_b (dk_u1 h)).trans (dk_b (dk_s2 h1 h2)))
theorem dk_if_icmp_eq {c : ByteArray} {pc : Nat} (i : Int) {b1 b2 : UInt8} (h : c.data.toList[pc]? = some 159) (h1 : c.data.toList[pc + 1]? = some b1) (h2 : c.data.toList[pc + 2]? = some b2) (hi : Reader.signed 16 (b1.toNat * 256 + b2.toNat) = i) : decode c pc = .ok (.if_icmp .eq i, 3) := by
  subst hi
  exact dk_d ((dk_b (dk_u1 h)).trans (dk_b (dk_s2 h1 h2)))
theorem dk_ifCond_ne {c : ByteArray} {pc : Nat} (i : Int) {b1 b2 : UInt8} (h : c.data.toList[pc]? = some 154) (h1 : c.data.toList[pc + 1]? = some b1) (h2 : c.data.toList[pc + 2]? = some b2) (hi : Reader.signed 16 (b1.toNat * 256 + b2.toNat) = i) : decode c pc = .ok (.ifCond .ne i, 3) := by
  subst hi
  exact dk_d ((dk_b (dk_u1 h)).trans (dk_b (dk_s2 h1 h2)))
theorem dk_if_icmp_ne {c : ByteArray} {pc : Nat} (i : Int) {b1 b2 : UInt8} (h : c.data.toList[pc]? = some 160) (h1 : c.data.toList[pc + 1]? = some b1) (h2 : c.data.toList[pc + 2]? = some b2) (hi : Reader.signed 16 (b1.toNat * 256 + b2.toNat) = i) : decode c pc = .ok (.if_icmp .ne i, 3) := by
  subst hi
  exact dk_d ((dk_b (dk_u1 h)).trans (dk_b (dk_s2 h1 h2)))
theorem dk_ifCond_lt {c : ByteArray} {pc : Nat} (i : Int) {b1 b2 : UInt8} (h : c.data.toList[pc]? = some 155) (h1 : c.data.toList[pc + 1]? = some b1) (h2 : c.data.toList[pc + 2]? = some b2) (hi : Reader.signed 16 (b1.toNat * 256 + b2.toNat) = i) : decode c pc = .ok (.ifCond .lt i, 3) := by
  subst hi
  exact dk_d ((dk_b (dk_u1 h)).trans (dk_b (dk_s2 h1 h2)))
theorem dk_if_icmp_lt {c : ByteArray} {pc : Nat} (i : Int) {b1 b2 : UInt8} (h : c.data.toList[pc]? = some 161) (h1 : c.data.toList[pc + 1]? = some b1) (h2 : c.data.toList[pc + 2]? = some b2) (hi : Reader.signed 16 (b1.toNat * 256 + b2.toNat) = i) : decode c pc = .ok (.if_icmp .lt i, 3) := by
  subst hi
  exact dk_d ((dk_b (dk_u1 h)).trans (dk_b (dk_s2 h1 h2)))
theorem dk_ifCond_ge {c : ByteArray} {pc : Nat} (i : Int) {b1 b2 : UInt8} (h : c.data.toList[pc]? = some 156) (h1 : c.data.toList[pc + 1]? = some b1) (h2 : c.data.toList[pc + 2]? = some b2) (hi : Reader.signed 16 (b1.toNat * 256 + b2.toNat) = i) : decode c pc = .ok (.ifCond .ge i, 3) := by
  subst hi
  exact dk_d ((dk_b (dk_u1 h)).trans (dk_b (dk_s2 h1 h2)))
theorem dk_if_icmp_ge {c : ByteArray} {pc : Nat} (i : Int) {b1 b2 : UInt8} (h : c.data.toList[pc]? = some 162) (h1 : c.data.toList[pc + 1]? = some b1) (h2 : c.data.toList[pc + 2]? = some b2) (hi : Reader.signed 16 (b1.toNat * 256 + b2.toNat) = i) : decode c pc = .ok (.if_icmp .ge i, 3) := by
  subst hi
  exact dk_d ((dk_b (dk_u1 h)).trans (dk_b (dk_s2 h1 h2)))
theorem dk_ifCond_gt {c : ByteArray} {pc : Nat} (i : Int) {b1 b2 : UInt8} (h : c.data.toList[pc]? = some 157) (h1 : c.data.toList[pc + 1]? = some b1) (h2 : c.data.toList[pc + 2]? = some b2) (hi : Reader.signed 16 (b1.toNat * 256 + b2.toNat) = i) : decode c pc = .ok (.ifCond .gt i, 3) := by
  subst hi
  exact dk_d ((dk_b (dk_u1 h)).trans (dk_b (dk_s2 h1 h2)))
theorem dk_if_icmp_gt {c : ByteArray} {pc : Nat} (i : Int) {b1 b2 : UInt8} (h : c.data.toList[pc]? = some 163) (h1 : c.data.toList[pc + 1]? = some b1) (h2 : c.data.toList[pc + 2]? = some b2) (hi : Reader.signed 16 (b1.toNat * 256 + b2.toNat) = i) : decode c pc = .ok (.if_icmp .gt i, 3) := by
  subst hi
  exact dk_d ((dk_b (dk_u1 h)).trans (dk_b (dk_s2 h1 h2)))
theorem dk_ifCond_le {c : ByteArray} {pc : Nat} (i : Int) {b1 b2 : UInt8} (h : c.data.toList[pc]? = some 158) (h1 : c.data.toList[pc + 1]? = some b1) (h2 : c.data.toList[pc + 2]? = some b2) (hi : Reader.signed 16 (b1.toNat * 256 + b2.toNat) = i) : decode c pc = .ok (.ifCond .le i, 3) := by
  subst hi
  exact dk_d ((dk_b (dk_u1 h)).trans (dk_b (dk_s2 h1 h2)))
theorem dk_if_icmp_le {c : ByteArray} {pc : Nat} (i : Int) {b1 b2 : UInt8} (h : c.data.toList[pc]? = some 164) (h1 : c.data.toList[pc + 1]? = some b1) (h2 : c.data.toList[pc + 2]? = some b2) (hi : Reader.signed 16 (b1.toNat * 256 + b2.toNat) = i) : decode c pc = .ok (.if_icmp .le i, 3) := by
  subst hi
  exact dk_d ((dk_b (dk_u1 h)).trans (dk_b (dk_s2 h1 h2)))
theorem dk_iinc {c : ByteArray} {pc : Nat} (i : Nat) (n : Int) {b1 b2 : UInt8} (h : c.data.toList[pc]? = some 132) (h1 : c.data.toList[pc + 1]? = some b1) (h2 : c.data.toList[pc + 2]? = some b2) (hi : b1.toNat = i) (hn : Reader.signed 8 b2.toNat = n) : decode c pc = .ok (.iinc i n, 3) := by
  subst hi; subst hn
  exact dk_d ((dk_b (dk_u1 h)).trans ((dk_b (dk_u1 h1)).trans (dk_b (dk_s1 h2))))
