/-! The small machine: a memory by addresses (ints, longs, references; kinds, lengths, how many cells), what it says of the heap. -/
abbrev sm_S : Type := (Nat → Nat → Option Nat) × (Nat → Nat) × (Nat → Nat) × Nat
abbrev sm_M : Type := (Nat → Nat → Int32) × (Nat → Nat → Int64) × sm_S
abbrev sm_E : Type := Launch × va_G × (Nat → ClassId) × Nat × (Nat × (Nat → Nat) × (Nat → Nat) × Nat × Nat × (Nat → Int32))
abbrev sm_Y : Type := MethodName × ByteArray × Nat × Option FieldType
abbrev sm_B (E : sm_E) : Nat := E.2.2.2.1
abbrev sm_K (S : sm_S) : Nat → Nat := S.2.1
abbrev sm_N (S : sm_S) : Nat → Nat := S.2.2.1
abbrev sm_top (S : sm_S) : Nat := S.2.2.2
def sm_u {α : Type} (f : Nat → Nat → α) (a i : Nat) (v : α) : Nat → Nat → α := fun x y => if x = a ∧ y = i then v else f x y
theorem sm_u_ne {α : Type} {f : Nat → Nat → α} {a i : Nat} {v : α} {b : Nat} (h : b ≠ a) : sm_u f a i v b = f b := by
  funext y
  simp [sm_u, h]
theorem sm_u_eq {α : Type} {f : Nat → Nat → α} {a i : Nat} {v : α} : sm_u f a i v a = fun y => if y = i then v else f a y := by
  funext y
  simp [sm_u]
theorem sm_u_at {α : Type} {f : Nat → Nat → α} {a i : Nat} {v : α} {b j : Nat} : sm_u f a i v b j = if b = a ∧ j = i then v else f b j := rfl
def sm_wI (m : sm_M) (a i : Nat) (v : Int32) : sm_M := (sm_u m.1 a i v, m.2)
def sm_wJ (m : sm_M) (a i : Nat) (v : Int64) : sm_M := (m.1, sm_u m.2.1 a i v, m.2.2)
def sm_wR (m : sm_M) (a i : Nat) (v : Option Nat) : sm_M := (m.1, m.2.1, sm_u m.2.2.1 a i v, m.2.2.2)
/-- a whole row of ints, of longs -/
def sm_wIs (m : sm_M) (a : Nat) (f : Nat → Int32) : sm_M := (fun x => if x = a then f else m.1 x, m.2)
def sm_wJs (m : sm_M) (a : Nat) (f : Nat → Int64) : sm_M := (m.1, fun x => if x = a then f else m.2.1 x, m.2.2)
/-- a new cell of kind k, length n, all as at first -/
def sm_nw (m : sm_M) (k n : Nat) : sm_M := (fun x => if x = sm_top m.2.2 then fun _ => 0 else m.1 x, fun x => if x = sm_top m.2.2 then fun _ => 0 else m.2.1 x, (fun x => if x = sm_top m.2.2 then fun _ => none else m.2.2.1 x), (fun x => if x = sm_top m.2.2 then k else sm_K m.2.2 x), (fun x => if x = sm_top m.2.2 then n else sm_N m.2.2 x), sm_top m.2.2 + 1)
/-- the fields of each kind of object: 1 a long, 2 a reference, else an int or a boolean -/
def sm_ft : Nat → List Nat
  | 0 => [2, 2, 0, 0]
  | 1 => [2]
  | 2 => [2, 2, 2, 2, 2, 2, 2, 2, 2, 2, 0, 0, 0, 0, 0, 0]
  | 3 => [2, 2, 2, 2, 0]
  | 4 => [2]
  | 5 => [2, 0, 0, 1, 1]
  | 6 => [2, 0, 0, 0, 0, 0, 0, 0, 0, 0, 0]
  | 7 => [2, 2, 2, 2, 0, 0, 0, 0]
  | 8 => [2]
  | 9 => [2, 2, 2, 2, 2, 2, 2, 2, 2, 2, 2, 2, 2, 0, 0, 0]
  | 10 => [2, 2, 2, 2, 2, 2, 0, 0, 0, 0, 2, 0, 2, 2, 2, 0, 2, 2, 2, 2, 2, 2, 2, 1, 1, 0, 0, 0, 0, 1, 1, 0, 0, 0, 0, 2, 0, 2, 2, 2, 2, 2, 2, 2, 2, 0, 0, 2, 2, 2, 2, 2, 0, 0, 0, 2, 2, 2, 0, 2, 1, 1, 2, 2, 0, 2, 2, 0]
  | _ => []
def sm_rf (B : Nat) (r : Option Nat) : Option Nat := r.map (fun a => B + a)
def sm_fv (B : Nat) (m : sm_M) (a k : Nat) : Nat → Value
  | 1 => .long (m.2.1 a k)
  | 2 => va_rf (sm_rf B (m.2.2.1 a k))
  | _ => .int (m.1 a k)
def sm_fs (B : Nat) (m : sm_M) (a : Nat) (ts : List Nat) : List Value := (List.range ts.length).map (fun k => sm_fv B m a k (ts.getD k 0))
def sm_cell (E : sm_E) (m : sm_M) (a : Nat) : va_E :=
  if sm_K m.2.2 a < 11 then .inr (sm_K m.2.2 a, sm_fs (sm_B E) m a (sm_ft (sm_K m.2.2 a)))
  else if sm_K m.2.2 a = 11 then .inl (E.2.2.1 0, sm_N m.2.2 a, .inl (m.1 a))
  else if sm_K m.2.2 a = 12 then .inl (E.2.2.1 1, sm_N m.2.2 a, .inr (.inl (m.2.1 a)))
  else if sm_K m.2.2 a = 13 then .inl (E.2.2.1 2, sm_N m.2.2 a, .inl (m.1 a))
  else if sm_K m.2.2 a = 14 then .inl (E.2.2.1 3, sm_N m.2.2 a, .inr (.inr (.inr (.inr (fun i => sm_rf (sm_B E) (m.2.2.1 a i))))))
  else if sm_K m.2.2 a = 15 then .inl (E.2.2.1 4, sm_N m.2.2 a, .inr (.inr (.inr (.inr (fun i => sm_rf (sm_B E) (m.2.2.1 a i))))))
  else .inl (E.2.2.1 5, sm_N m.2.2 a, .inr (.inr (.inr (.inr (fun i => sm_rf (sm_B E) (m.2.2.1 a i))))))
def sm_ws (E : sm_E) (m : sm_M) : va_W := (List.range (sm_top m.2.2)).map (fun a => (sm_B E + a, sm_cell E m a))
def sm_A (E : sm_E) : Nat → Prop := fun q => sm_B E ≤ q
def sm_T : List Cond := lw_tbl.filter goodWord
theorem sm_in {w : Cond} (i : Nat) (h : lw_tbl[i]? = some w) (hg : goodWord w = true) : w ∈ sm_T := List.mem_filter.mpr ⟨List.mem_of_getElem? h, hg⟩
theorem sm_good {ws : List Cond} (h : ∀ w ∈ ws, w ∈ sm_T) : GoodIn sm_T ws := fun w hw => ⟨h w hw, good_of_word (List.mem_filter.mp (h w hw)).2⟩
def sm_tys (E : sm_E) : List (ClassId × FieldType) := [(E.2.2.1 0, .int), (E.2.2.1 1, .long), (E.2.2.1 2, .boolean), (E.2.2.1 3, .object RX7), (E.2.2.1 4, .object RX8), (E.2.2.1 5, .array .int)]
def sm_wf (S : sm_S) : Prop := ∀ a, sm_K S a < 100 → a < sm_top S
theorem sm_ws_get {E : sm_E} {m : sm_M} {a : Nat} (h : a < sm_top m.2.2) : (sm_ws E m)[a]? = some (sm_B E + a, sm_cell E m a) := by
  unfold sm_ws
  rw [List.getElem?_map, List.getElem?_range h]
  rfl
theorem sm_ws_some {E : sm_E} {m : sm_M} {k : Nat} {q : Nat × va_E} (h : (sm_ws E m)[k]? = some q) : k < sm_top m.2.2 ∧ q = (sm_B E + k, sm_cell E m k) := by
  have hl : k < (sm_ws E m).length := (List.getElem?_eq_some_iff.mp h).1
  have h2 : k < sm_top m.2.2 := by simpa [sm_ws] using hl
  rw [sm_ws_get h2] at h
  exact ⟨h2, (Option.some.inj h).symm⟩
theorem sm_D (E : sm_E) (m : sm_M) : va_D (sm_A E) (sm_ws E m) := by
  refine ⟨fun i j p q hi hj h => ?_, fun k q hk => ?_⟩
  · obtain ⟨-, rfl⟩ := sm_ws_some hi
    obtain ⟨-, rfl⟩ := sm_ws_some hj
    have h2 : sm_B E + i = sm_B E + j := h
    omega
  · obtain ⟨-, rfl⟩ := sm_ws_some hk
    exact Nat.le_add_right _ _
theorem sm_ws_set {E : sm_E} {m m' : sm_M} {a : Nat} {e : va_E} (ht : sm_top m'.2.2 = sm_top m.2.2) (ho : ∀ b, b ≠ a → sm_cell E m' b = sm_cell E m b) (he : sm_cell E m' a = e) : (sm_ws E m).set a (sm_B E + a, e) = sm_ws E m' := by
  apply List.ext_getElem?
  intro k
  by_cases hk : k < sm_top m.2.2
  · rw [sm_ws_get (E := E) (m := m') (by rw [ht]; exact hk)]
    by_cases hka : k = a
    · subst hka
      rw [List.getElem?_set_self (by simpa [sm_ws] using hk), he]
    · rw [List.getElem?_set_ne (Ne.symm hka), sm_ws_get hk, ho k hka]
  · rw [List.getElem?_eq_none (by simp [sm_ws]; omega), List.getElem?_eq_none (by simp [sm_ws]; omega)]
theorem sm_ws_push {E : sm_E} {m m' : sm_M} {e : va_E} (ht : sm_top m'.2.2 = sm_top m.2.2 + 1) (ho : ∀ b, b < sm_top m.2.2 → sm_cell E m' b = sm_cell E m b) (he : sm_cell E m' (sm_top m.2.2) = e) : sm_ws E m ++ [(sm_B E + sm_top m.2.2, e)] = sm_ws E m' := by
  unfold sm_ws
  rw [ht, List.range_succ, List.map_append, List.map_singleton, he]
  congr 1
  apply List.map_congr_left
  intro b hb
  rw [ho b (List.mem_range.mp hb)]
theorem sm_fs_len {B : Nat} {m : sm_M} {a : Nat} {ts : List Nat} : (sm_fs B m a ts).length = ts.length := by simp [sm_fs]
theorem sm_fs_get {B : Nat} {m : sm_M} {a : Nat} {ts : List Nat} {k t : Nat} (h : ts[k]? = some t) : (sm_fs B m a ts)[k]? = some (sm_fv B m a k t) := by
  have hk : k < ts.length := (List.getElem?_eq_some_iff.mp h).1
  unfold sm_fs
  rw [List.getElem?_map, List.getElem?_range hk]
  simp [List.getD, h]
theorem sm_fs_set {B : Nat} {m m' : sm_M} {a : Nat} {ts : List Nat} {k t : Nat} {v : Value} (h : ts[k]? = some t) (hv : sm_fv B m' a k t = v) (ho : ∀ j u, j ≠ k → ts[j]? = some u → sm_fv B m' a j u = sm_fv B m a j u) : (sm_fs B m a ts).set k v = sm_fs B m' a ts := by
  apply List.ext_getElem?
  intro j
  have hk : k < ts.length := (List.getElem?_eq_some_iff.mp h).1
  by_cases hjk : j = k
  · subst hjk
    rw [List.getElem?_set_self (by rw [sm_fs_len]; exact hk), sm_fs_get h, hv]
  · rw [List.getElem?_set_ne (Ne.symm hjk)]
    cases hj : ts[j]? with
    | none => rw [List.getElem?_eq_none (by rw [sm_fs_len]; exact List.getElem?_eq_none_iff.mp hj), List.getElem?_eq_none (by rw [sm_fs_len]; exact List.getElem?_eq_none_iff.mp hj)]
    | some u => rw [sm_fs_get hj, sm_fs_get hj, ho j u hjk hj]
theorem sm_cell_obj {E : sm_E} {m : sm_M} {a k : Nat} (h : sm_K m.2.2 a = k) (hk : k < 11) : sm_cell E m a = .inr (k, sm_fs (sm_B E) m a (sm_ft k)) := by
  subst h
  unfold sm_cell
  rw [if_pos hk]
theorem sm_cell_I {E : sm_E} {m : sm_M} {a : Nat} (h : sm_K m.2.2 a = 11) : sm_cell E m a = .inl (E.2.2.1 0, sm_N m.2.2 a, .inl (m.1 a)) := by simp [sm_cell, h]
theorem sm_cell_J {E : sm_E} {m : sm_M} {a : Nat} (h : sm_K m.2.2 a = 12) : sm_cell E m a = .inl (E.2.2.1 1, sm_N m.2.2 a, .inr (.inl (m.2.1 a))) := by simp [sm_cell, h]
theorem sm_cell_Z {E : sm_E} {m : sm_M} {a : Nat} (h : sm_K m.2.2 a = 13) : sm_cell E m a = .inl (E.2.2.1 2, sm_N m.2.2 a, .inl (m.1 a)) := by simp [sm_cell, h]
theorem sm_cell_S {E : sm_E} {m : sm_M} {a : Nat} (h : sm_K m.2.2 a = 14) : sm_cell E m a = .inl (E.2.2.1 3, sm_N m.2.2 a, .inr (.inr (.inr (.inr (fun i => sm_rf (sm_B E) (m.2.2.1 a i)))))) := by simp [sm_cell, h]
theorem sm_cell_G {E : sm_E} {m : sm_M} {a : Nat} (h : sm_K m.2.2 a = 15) : sm_cell E m a = .inl (E.2.2.1 4, sm_N m.2.2 a, .inr (.inr (.inr (.inr (fun i => sm_rf (sm_B E) (m.2.2.1 a i)))))) := by simp [sm_cell, h]
theorem sm_cell_A {E : sm_E} {m : sm_M} {a : Nat} (h : sm_K m.2.2 a = 16) : sm_cell E m a = .inl (E.2.2.1 5, sm_N m.2.2 a, .inr (.inr (.inr (.inr (fun i => sm_rf (sm_B E) (m.2.2.1 a i)))))) := by simp [sm_cell, h]
/-- two memories that are alike at a cell -/
theorem sm_fs_congr {B : Nat} {m m' : sm_M} {b : Nat} {ts : List Nat} (h1 : m'.1 b = m.1 b) (h2 : m'.2.1 b = m.2.1 b) (h3 : m'.2.2.1 b = m.2.2.1 b) : sm_fs B m' b ts = sm_fs B m b ts := by
  unfold sm_fs
  apply List.map_congr_left
  intro k _
  unfold sm_fv
  split
  · rw [h2]
  · rw [h3]
  · rw [h1]
theorem sm_cell_congr {E : sm_E} {m m' : sm_M} {b : Nat} (h1 : m'.1 b = m.1 b) (h2 : m'.2.1 b = m.2.1 b) (h3 : m'.2.2.1 b = m.2.2.1 b) (h4 : sm_K m'.2.2 b = sm_K m.2.2 b) (h5 : sm_N m'.2.2 b = sm_N m.2.2 b) : sm_cell E m' b = sm_cell E m b := by
  unfold sm_cell
  rw [sm_fs_congr h1 h2 h3]
  rw [h4, h5, h1, h2, h3]
