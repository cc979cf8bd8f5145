/-! whole numbers in the machine's ints and longs -/
def iI (z : Int) : Int32 := Int32.ofInt z
def jI (z : Int) : Int64 := Int64.ofInt z
theorem iI_add (a b : Int) : iI a + iI b = iI (a + b) := (Int32.ofInt_add a b).symm
theorem iI_sub (a b : Int) : iI a - iI b = iI (a - b) := (Int32.ofInt_sub a b).symm
theorem iI_mul (a b : Int) : iI a * iI b = iI (a * b) := (Int32.ofInt_mul a b).symm
theorem iI_neg (a : Int) : - iI a = iI (-a) := (Int32.ofInt_neg a).symm
theorem jI_add (a b : Int) : jI a + jI b = jI (a + b) := (Int64.ofInt_add a b).symm
theorem jI_sub (a b : Int) : jI a - jI b = jI (a - b) := (Int64.ofInt_sub a b).symm
theorem jI_mul (a b : Int) : jI a * jI b = jI (a * b) := (Int64.ofInt_mul a b).symm
theorem jI_neg (a : Int) : - jI a = jI (-a) := (Int64.ofInt_neg a).symm
theorem iI_lit (n : Nat) : (OfNat.ofNat n : Int32) = iI (OfNat.ofNat n : Int) := (Int32.ofInt_eq_ofNat (n := n)).symm
theorem jI_lit (n : Nat) : (OfNat.ofNat n : Int64) = jI (OfNat.ofNat n : Int) := (Int64.ofInt_eq_ofNat (n := n)).symm
theorem iI_toInt {a : Int} (h1 : -2147483648 ≤ a) (h2 : a ≤ 2147483647) : (iI a).toInt = a := Int32.toInt_ofInt_of_le (by omega) (by omega)
theorem jI_toInt {a : Int} (h1 : -9223372036854775808 ≤ a) (h2 : a ≤ 9223372036854775807) : (jI a).toInt = a := Int64.toInt_ofInt_of_le (by omega) (by omega)
theorem iI_le {a b : Int} (h1 : -2147483648 ≤ a) (h2 : a ≤ 2147483647) (h3 : -2147483648 ≤ b) (h4 : b ≤ 2147483647) : (iI a ≤ iI b) ↔ a ≤ b := by rw [Int32.le_iff_toInt_le, iI_toInt h1 h2, iI_toInt h3 h4]
theorem iI_lt {a b : Int} (h1 : -2147483648 ≤ a) (h2 : a ≤ 2147483647) (h3 : -2147483648 ≤ b) (h4 : b ≤ 2147483647) : (iI a < iI b) ↔ a < b := by rw [Int32.lt_iff_toInt_lt, iI_toInt h1 h2, iI_toInt h3 h4]
theorem iI_eq {a b : Int} (h1 : -2147483648 ≤ a) (h2 : a ≤ 2147483647) (h3 : -2147483648 ≤ b) (h4 : b ≤ 2147483647) : (iI a = iI b) ↔ a = b := by rw [← Int32.toInt_inj, iI_toInt h1 h2, iI_toInt h3 h4]
theorem jI_le {a b : Int} (h1 : -9223372036854775808 ≤ a) (h2 : a ≤ 9223372036854775807) (h3 : -9223372036854775808 ≤ b) (h4 : b ≤ 9223372036854775807) : (jI a ≤ jI b) ↔ a ≤ b := by rw [Int64.le_iff_toInt_le, jI_toInt h1 h2, jI_toInt h3 h4]
theorem jI_lt {a b : Int} (h1 : -9223372036854775808 ≤ a) (h2 : a ≤ 9223372036854775807) (h3 : -9223372036854775808 ≤ b) (h4 : b ≤ 9223372036854775807) : (jI a < jI b) ↔ a < b := by rw [Int64.lt_iff_toInt_lt, jI_toInt h1 h2, jI_toInt h3 h4]
theorem jI_eq {a b : Int} (h1 : -9223372036854775808 ≤ a) (h2 : a ≤ 9223372036854775807) (h3 : -9223372036854775808 ≤ b) (h4 : b ≤ 9223372036854775807) : (jI a = jI b) ↔ a = b := by rw [← Int64.toInt_inj, jI_toInt h1 h2, jI_toInt h3 h4]
theorem iI_cl {a : Int} (h1 : -2147483648 ≤ a) (h2 : a ≤ 2147483647) : (iI a).toNatClampNeg = a.toNat := Int32.toNatClampNeg_ofInt_of_le (by omega) (by omega)
theorem iI_in {a : Int} {n : Nat} (h1 : -2147483648 ≤ a) (h2 : a ≤ 2147483647) : vp_in (iI a) n ↔ 0 ≤ a ∧ a < n := by rw [vp_in_iff, iI_toInt h1 h2]
theorem nI_i (n : Nat) : nI n = iI (n : Int) := (Int32.ofInt_eq_ofNat (n := n)).symm
theorem lN_j (n : Nat) : lN n = jI (n : Int) := (Int64.ofInt_eq_ofNat (n := n)).symm
theorem iI_ex (x : Int32) : ∃ z : Int, -2147483648 ≤ z ∧ z ≤ 2147483647 ∧ x = iI z := ⟨x.toInt, by have := x.le_toInt; omega, by have := x.toInt_lt; omega, (Int32.ofInt_toInt x).symm⟩
theorem jI_ex (x : Int64) : ∃ z : Int, -9223372036854775808 ≤ z ∧ z ≤ 9223372036854775807 ∧ x = jI z := ⟨x.toInt, by have := x.le_toInt; omega, by have := x.toInt_lt; omega, (Int64.ofInt_toInt x).symm⟩
theorem iI_j {a : Int} (h1 : -2147483648 ≤ a) (h2 : a ≤ 2147483647) : (iI a).toInt64 = jI a := by
  apply Int64.toInt_inj.mp
  rw [Int32.toInt_toInt64, iI_toInt h1 h2, jI_toInt (by omega) (by omega)]
theorem jI_i (a : Int) : (jI a).toInt32 = iI a := by
  show (Int64.ofInt a).toInt32 = Int32.ofInt a
  simp
theorem iI_div {a b : Int} (h1 : -2147483648 ≤ a) (h2 : a ≤ 2147483647) (h3 : -2147483648 ≤ b) (h4 : b ≤ 2147483647) : iI a / iI b = iI (a.tdiv b) := (Int32.ofInt_tdiv h1 h2 h3 h4).symm
theorem jI_div {a b : Int} (h1 : -9223372036854775808 ≤ a) (h2 : a ≤ 9223372036854775807) (h3 : -9223372036854775808 ≤ b) (h4 : b ≤ 9223372036854775807) : jI a / jI b = jI (a.tdiv b) := (Int64.ofInt_tdiv h1 h2 h3 h4).symm
theorem sm_tmod (a b : Int) : a - a.tdiv b * b = a.tmod b := by
  rw [Int.tmod_def, Int.mul_comm]
theorem iI_rem {a b : Int} (h1 : -2147483648 ≤ a) (h2 : a ≤ 2147483647) (h3 : -2147483648 ≤ b) (h4 : b ≤ 2147483647) : sm_rem (iI a) (iI b) = iI (a.tmod b) := by
  show iI a - iI a / iI b * iI b = _
  rw [iI_div h1 h2 h3 h4, iI_mul, iI_sub, sm_tmod]
theorem jI_rem {a b : Int} (h1 : -9223372036854775808 ≤ a) (h2 : a ≤ 9223372036854775807) (h3 : -9223372036854775808 ≤ b) (h4 : b ≤ 9223372036854775807) : sm_remL (jI a) (jI b) = jI (a.tmod b) := by
  show jI a - jI a / jI b * jI b = _
  rw [jI_div h1 h2 h3 h4, jI_mul, jI_sub, sm_tmod]
/-! the memory -/
theorem wI_1 (m : sm_M) (a i : Nat) (v : Int32) (b j : Nat) : (sm_wI m a i v).1 b j = if b = a ∧ j = i then v else m.1 b j := rfl
theorem wI_2 (m : sm_M) (a i : Nat) (v : Int32) : (sm_wI m a i v).2 = m.2 := rfl
theorem wJ_1 (m : sm_M) (a i : Nat) (v : Int64) : (sm_wJ m a i v).1 = m.1 := rfl
theorem wJ_2 (m : sm_M) (a i : Nat) (v : Int64) (b j : Nat) : (sm_wJ m a i v).2.1 b j = if b = a ∧ j = i then v else m.2.1 b j := rfl
theorem wJ_3 (m : sm_M) (a i : Nat) (v : Int64) : (sm_wJ m a i v).2.2 = m.2.2 := rfl
theorem wIs_1 (m : sm_M) (a : Nat) (f : Nat → Int32) (b j : Nat) : (sm_wIs m a f).1 b j = if b = a then f j else m.1 b j := by
  show (if b = a then f else m.1 b) j = _
  split <;> rfl
theorem wIs_2 (m : sm_M) (a : Nat) (f : Nat → Int32) : (sm_wIs m a f).2 = m.2 := rfl
theorem wJs_1 (m : sm_M) (a : Nat) (f : Nat → Int64) : (sm_wJs m a f).1 = m.1 := rfl
theorem wJs_2 (m : sm_M) (a : Nat) (f : Nat → Int64) (b j : Nat) : (sm_wJs m a f).2.1 b j = if b = a then f j else m.2.1 b j := by
  show (if b = a then f else m.2.1 b) j = _
  split <;> rfl
theorem wJs_3 (m : sm_M) (a : Nat) (f : Nat → Int64) : (sm_wJs m a f).2.2 = m.2.2 := rfl
/-- m' is m but at the places P -/
def fr (P : Nat → Nat → Prop) (m m' : sm_M) : Prop := (∀ a k, ¬ P a k → m'.1 a k = m.1 a k ∧ m'.2.1 a k = m.2.1 a k) ∧ m'.2.2 = m.2.2
theorem fr.rf {P : Nat → Nat → Prop} {m : sm_M} : fr P m m := ⟨fun _ _ _ => ⟨rfl, rfl⟩, rfl⟩
theorem fr.tr {P : Nat → Nat → Prop} {m m' m'' : sm_M} (h : fr P m m') (h' : fr P m' m'') : fr P m m'' := ⟨fun a k hp => ⟨((h'.1 a k hp).1).trans (h.1 a k hp).1, ((h'.1 a k hp).2).trans (h.1 a k hp).2⟩, h'.2.trans h.2⟩
theorem fr.mono {P P' : Nat → Nat → Prop} {m m' : sm_M} (h : fr P m m') (hp : ∀ a k, P a k → P' a k) : fr P' m m' := ⟨fun a k hn => h.1 a k (fun q => hn (hp a k q)), h.2⟩
theorem fr.wI {P : Nat → Nat → Prop} {m m' : sm_M} {a i : Nat} {v : Int32} (h : fr P m m') (hp : P a i) : fr P m (sm_wI m' a i v) := ⟨fun b k hn => ⟨by rw [wI_1, if_neg (fun q => hn (by rw [q.1, q.2]; exact hp))]; exact (h.1 b k hn).1, (h.1 b k hn).2⟩, h.2⟩
theorem fr.wJ {P : Nat → Nat → Prop} {m m' : sm_M} {a i : Nat} {v : Int64} (h : fr P m m') (hp : P a i) : fr P m (sm_wJ m' a i v) := ⟨fun b k hn => ⟨(h.1 b k hn).1, by rw [wJ_2, if_neg (fun q => hn (by rw [q.1, q.2]; exact hp))]; exact (h.1 b k hn).2⟩, h.2⟩
theorem fr.wIs {P : Nat → Nat → Prop} {m m' : sm_M} {a : Nat} {f : Nat → Int32} (h : fr P m m') (hp : ∀ i, P a i) : fr P m (sm_wIs m' a f) := ⟨fun b k hn => ⟨by rw [wIs_1, if_neg (fun q => hn (by rw [q]; exact hp k))]; exact (h.1 b k hn).1, (h.1 b k hn).2⟩, h.2⟩
theorem fr.wJs {P : Nat → Nat → Prop} {m m' : sm_M} {a : Nat} {f : Nat → Int64} (h : fr P m m') (hp : ∀ i, P a i) : fr P m (sm_wJs m' a f) := ⟨fun b k hn => ⟨(h.1 b k hn).1, by rw [wJs_2, if_neg (fun q => hn (by rw [q]; exact hp k))]; exact (h.1 b k hn).2⟩, h.2⟩
theorem fr.i {P : Nat → Nat → Prop} {m m' : sm_M} (h : fr P m m') {a k : Nat} (hp : ¬ P a k) : m'.1 a k = m.1 a k := (h.1 a k hp).1
theorem fr.j {P : Nat → Nat → Prop} {m m' : sm_M} (h : fr P m m') {a k : Nat} (hp : ¬ P a k) : m'.2.1 a k = m.2.1 a k := (h.1 a k hp).2
