/-! there are few circles: ties within a box come with the last two alone -/
def sN (f : Nat → Nat) : Nat → Nat
  | 0 => 0
  | n + 1 => sN f n + f n
theorem sN_le {f g : Nat → Nat} : ∀ n, (∀ i, i < n → f i ≤ g i) → sN f n ≤ sN g n := by
  intro n
  induction n with
  | zero => exact fun _ => Nat.le_refl _
  | succ n ih => exact fun h => Nat.add_le_add (ih (fun i hi => h i (by omega))) (h n (by omega))
theorem sN_1 {f g : Nat → Nat} {a : Nat} : ∀ n, (∀ i, i < n → f i ≤ g i) → a < n → f a + 1 ≤ g a → sN f n + 1 ≤ sN g n := by
  intro n
  induction n with
  | zero => exact fun _ h => absurd h (Nat.not_lt_zero _)
  | succ n ih =>
    intro h ha hf
    have h1 := h n (by omega)
    show sN f n + f n + 1 ≤ sN g n + g n
    by_cases han : a = n
    · subst han
      have := sN_le a (fun i hi => h i (by omega))
      omega
    · have := ih (fun i hi => h i (by omega)) (by omega) hf
      omega
theorem sN_bd {f : Nat → Nat} : ∀ n, (∀ i, i < n → f i ≤ 1) → sN f n ≤ n := by
  intro n
  induction n with
  | zero => exact fun _ => Nat.le_refl _
  | succ n ih =>
    intro h
    have h1 := ih (fun i hi => h i (by omega))
    have h2 := h n (by omega)
    show sN f n + f n ≤ n + 1
    omega
theorem sN_2 {f g : Nat → Nat} {a b n : Nat} (h : ∀ i, i < n → f i ≤ g i) (ha : a < n) (hb : b < n) (hab : a ≠ b) (fa : f a = 0) (fb : f b = 0) (ga : g a = 1) (gb : g b = 1) : sN f n + 2 ≤ sN g n := by
  have h1 : sN f n + 1 ≤ sN (upN f a 1) n := sN_1 (a := a) n (fun i _ => by
    rw [upN_at]
    by_cases q : i = a
    · rw [if_pos q, q, fa]; omega
    · rw [if_neg q]; exact Nat.le_refl _) ha (by rw [upN_eq, fa]; exact Nat.le_refl _)
  have h2 : sN (upN f a 1) n + 1 ≤ sN g n := sN_1 (a := b) n (fun i hi => by
    rw [upN_at]
    by_cases q : i = a
    · rw [if_pos q, q, ga]; exact Nat.le_refl _
    · rw [if_neg q]; exact h i hi) hb (by rw [upN_ne hab.symm, fb, gb]; exact Nat.le_refl _)
  omega
theorem sN_4 {f g : Nat → Nat} {a b c d n : Nat} (h : ∀ i, i < n → f i ≤ g i) (ha : a < n) (hb : b < n) (hc : c < n) (hd : d < n) (h1 : a ≠ b) (h2 : a ≠ c) (h3 : a ≠ d) (h4 : b ≠ c) (h5 : b ≠ d) (h6 : c ≠ d) (fa : f a = 0) (fb : f b = 0) (fc : f c = 0) (fd : f d = 0) (ga : g a = 1) (gb : g b = 1) (gc : g c = 1) (gd : g d = 1) : sN f n + 4 ≤ sN g n := by
  have e1 : sN f n + 2 ≤ sN (upN (upN f a 1) b 1) n := sN_2 (a := a) (b := b) (fun i _ => by
    rw [upN_at, upN_at]
    by_cases q : i = b
    · rw [if_pos q, q, fb]; omega
    · rw [if_neg q]
      by_cases q2 : i = a
      · rw [if_pos q2, q2, fa]; omega
      · rw [if_neg q2]; exact Nat.le_refl _) ha hb h1 fa fb (by rw [upN_ne h1, upN_eq]) upN_eq
  have e2 : sN (upN (upN f a 1) b 1) n + 2 ≤ sN g n := sN_2 (a := c) (b := d) (fun i hi => by
    rw [upN_at, upN_at]
    by_cases q : i = b
    · rw [if_pos q, q, gb]; exact Nat.le_refl _
    · rw [if_neg q]
      by_cases q2 : i = a
      · rw [if_pos q2, q2, ga]; exact Nat.le_refl _
      · rw [if_neg q2]; exact h i hi) hc hd h6 (by rw [upN_ne h4.symm, upN_ne h2.symm, fc]) (by rw [upN_ne h5.symm, upN_ne h3.symm, fd]) gc gd
  omega
def bx (pa : Nat → Nat) : Prop := ∀ p, pa p = 999 ∨ pa p / 4 ≠ p / 4
theorem bx.tie {pa : Nat → Nat} {x y : Nat} (h : bx pa) (hxy : x / 4 ≠ y / 4) : bx (tieN pa x y) := by
  intro p
  unfold tieN
  rw [upN_at, upN_at]
  by_cases q : p = y
  · rw [if_pos q, q]; exact Or.inr hxy
  · rw [if_neg q]
    by_cases q2 : p = x
    · rw [if_pos q2, q2]; exact Or.inr hxy.symm
    · rw [if_neg q2]; exact h p
def ed (h : Nat) (e : Nat → Nat) : Prop := ∀ j k, j < 4 * h → k < 4 * h → j / 4 ≠ k / 4 → e j / 4 ≠ e k / 4
theorem drXs_bx {s : drS} (v : Nat) (h : bx s.2.2.2.2.2.1) : ∀ k, bx (drXs s v k).2.2.2.2.2.1 := by
  intro k
  induction k with
  | zero => exact h
  | succ k ih =>
    show bx (if (k == 0) = true then (drXs s v k).2.2.2.2.2.1 else tieN (tieN (drXs s v k).2.2.2.2.2.1 (4 * (drXs s v k).2.1 - 3) (4 * (drXs s v k).2.1)) (4 * (drXs s v k).2.1 - 1) (4 * (drXs s v k).2.1 + 2))
    by_cases hk : k = 0
    · rw [if_pos (by rw [hk]; rfl)]; exact ih
    · rw [if_neg (by simp [hk])]
      have := (drXs_h s v k).2.1
      exact (ih.tie (by omega)).tie (by omega)
theorem ed_endN {e : Nat → Nat} {h w x : Nat} (he : ed h e) (hn : ∀ k, k < 4 * h → e k / 4 ≠ w ∧ e k / 4 ≠ x) : ed (h + 1) (endN e h w x) := by
  have new : ∀ k, 4 * h ≤ k → k < 4 * (h + 1) → endN e h w x k / 4 = w ∨ endN e h w x k / 4 = x := by
    intro k h1 h2
    have hk : k = 4 * h ∨ k = 4 * h + 1 ∨ k = 4 * h + 2 ∨ k = 4 * h + 3 := by omega
    rcases hk with rfl | rfl | rfl | rfl
    · rw [endN_0]; left; omega
    · rw [endN_1]; right; omega
    · rw [endN_2]; left; omega
    · rw [endN_3]; right; omega
  intro j k hj hk hjk
  by_cases q1 : j < 4 * h
  · rw [endN_lt q1]
    by_cases q2 : k < 4 * h
    · rw [endN_lt q2]; exact he j k q1 q2 hjk
    · have a := new k (by omega) hk
      have b := hn j q1
      omega
  · have a := new j (by omega) hj
    by_cases q2 : k < 4 * h
    · rw [endN_lt q2]
      have b := hn k q2
      omega
    · omega
theorem bx_leaf {s : drS} {z : Int} (h : dI s) (hb : bx s.2.2.2.2.2.1) (he : ed s.1 s.2.2.2.1) (hc : s.2.1 + (if z < 10 then z.natAbs else 0) ≤ 24) (hz2 : z ≤ 10) : bx (drLeaf s z).2.2.2.2.2.1 ∧ ed (drLeaf s z).1 (drLeaf s z).2.2.2.1 := by
  have hend : ∀ k, k < 4 * s.1 → dD s.2.1 s.2.2.1 (s.2.2.2.1 k) := fun k hk => h.end_lt hk
  have bare : ∀ v, bx (drB (drF s) v).2.2.2.2.2.1 ∧ ed (drB (drF s) v).1 (drB (drF s) v).2.2.2.1 := fun v => ⟨hb, ed_endN (e := s.2.2.2.1) (h := s.1) (w := 24 + s.2.2.1) (x := 24 + s.2.2.1) he (fun k hk => by
    have := hend k hk
    have := h.1
    unfold dD at *
    omega)⟩
  unfold drLeaf
  by_cases z0 : z = 0
  · rw [if_pos z0]; exact bare 1
  · rw [if_neg z0]
    by_cases z10 : z = 10
    · rw [if_pos z10]; exact bare 2
    · rw [if_neg z10]
      rw [if_pos (by omega)] at hc
      have hs := drXs_h (drF s) (if 0 < z then 1 else 0) z.natAbs
      refine ⟨drXs_bx (s := drF s) _ hb _, ?_⟩
      show ed ((drXs (drF s) (if 0 < z then 1 else 0) z.natAbs).1 + 1) (endN (drXs (drF s) (if 0 < z then 1 else 0) z.natAbs).2.2.2.1 (drXs (drF s) (if 0 < z then 1 else 0) z.natAbs).1 s.2.1 ((drXs (drF s) (if 0 < z then 1 else 0) z.natAbs).2.1 - 1))
      rw [hs.1, hs.2.1, hs.2.2.2.1]
      refine ed_endN (e := s.2.2.2.1) (h := s.1) he (fun k hk => ?_)
      have := hend k hk
      have h9 : (drF s).2.1 = s.2.1 := rfl
      rw [h9]
      unfold dD at this
      omega
theorem bx_step {s : drS} {z : Int} (hb : bx s.2.2.2.2.2.1) (he : ed s.1 s.2.2.2.1) (hz : 10 < z) (h1 : 1 ≤ s.1) (h2 : z = 11 ∨ z = 12 → 2 ≤ s.1) : bx (drStep s z).2.2.2.2.2.1 ∧ ed (drStep s z).1 (drStep s z).2.2.2.1 := by
  unfold drStep
  rw [if_neg (by omega)]
  by_cases h11 : z = 11
  · rw [if_pos h11]
    obtain ⟨g, hg⟩ : ∃ g, s.1 = g + 2 := ⟨s.1 - 2, by have := h2 (Or.inl h11); omega⟩
    refine ⟨(hb.tie (he _ _ (by omega) (by omega) (by omega))).tie (he _ _ (by omega) (by omega) (by omega)), fun j k hj hk hjk => ?_⟩
    have hj2 : j < 4 * (s.1 - 1) := hj
    have hk2 : k < 4 * (s.1 - 1) := hk
    show upN (upN s.2.2.2.1 (4 * (s.1 - 2) + 1) (s.2.2.2.1 (4 * (s.1 - 1) + 1))) (4 * (s.1 - 2) + 3) (s.2.2.2.1 (4 * (s.1 - 1) + 3)) j / 4 ≠ upN (upN s.2.2.2.1 (4 * (s.1 - 2) + 1) (s.2.2.2.1 (4 * (s.1 - 1) + 1))) (4 * (s.1 - 2) + 3) (s.2.2.2.1 (4 * (s.1 - 1) + 3)) k / 4
    simp only [upN_at]
    (repeat' split) <;> first | exact he _ _ (by omega) (by omega) (by omega) | omega
  · rw [if_neg h11]
    by_cases h12 : z = 12
    · rw [if_pos h12]
      obtain ⟨g, hg⟩ : ∃ g, s.1 = g + 2 := ⟨s.1 - 2, by have := h2 (Or.inr h12); omega⟩
      refine ⟨(hb.tie (he _ _ (by omega) (by omega) (by omega))).tie (he _ _ (by omega) (by omega) (by omega)), fun j k hj hk hjk => ?_⟩
      have hj2 : j < 4 * (s.1 - 1) := hj
      have hk2 : k < 4 * (s.1 - 1) := hk
      show upN (upN s.2.2.2.1 (4 * (s.1 - 2) + 2) (s.2.2.2.1 (4 * (s.1 - 1) + 2))) (4 * (s.1 - 2) + 3) (s.2.2.2.1 (4 * (s.1 - 1) + 3)) j / 4 ≠ upN (upN s.2.2.2.1 (4 * (s.1 - 2) + 2) (s.2.2.2.1 (4 * (s.1 - 1) + 2))) (4 * (s.1 - 2) + 3) (s.2.2.2.1 (4 * (s.1 - 1) + 3)) k / 4
      simp only [upN_at]
      (repeat' split) <;> first | exact he _ _ (by omega) (by omega) (by omega) | omega
    · rw [if_neg h12]
      by_cases h13 : z = 13
      · rw [if_pos h13]
        refine ⟨hb, fun j k hj hk hjk => ?_⟩
        have hj2 : j < 4 * s.1 := hj
        have hk2 : k < 4 * s.1 := hk
        show upN (upN (upN (upN s.2.2.2.1 (4 * (s.1 - 1)) (s.2.2.2.1 (4 * (s.1 - 1) + 1))) (4 * (s.1 - 1) + 1) (s.2.2.2.1 (4 * (s.1 - 1) + 3))) (4 * (s.1 - 1) + 3) (s.2.2.2.1 (4 * (s.1 - 1) + 2))) (4 * (s.1 - 1) + 2) (s.2.2.2.1 (4 * (s.1 - 1))) j / 4 ≠ upN (upN (upN (upN s.2.2.2.1 (4 * (s.1 - 1)) (s.2.2.2.1 (4 * (s.1 - 1) + 1))) (4 * (s.1 - 1) + 1) (s.2.2.2.1 (4 * (s.1 - 1) + 3))) (4 * (s.1 - 1) + 3) (s.2.2.2.1 (4 * (s.1 - 1) + 2))) (4 * (s.1 - 1) + 2) (s.2.2.2.1 (4 * (s.1 - 1))) k / 4
        simp only [upN_at]
        (repeat' split) <;> first | exact he _ _ (by omega) (by omega) (by omega) | omega
      · rw [if_neg h13]
        exact ⟨hb, he⟩
theorem bx_all {t : Nat → Int} {n : Nat} (hok : okT t n) (hl : lvs t n ≤ 24) (hc : crs t n ≤ 24) : ∀ k, k ≤ n → bx (dr t k).2.2.2.2.2.1 ∧ ed (dr t k).1 (dr t k).2.2.2.1 := by
  have hl2 : ∀ r k, k + r = n → crs t k ≤ crs t n := by
    intro r
    induction r with
    | zero => intro k hk; rw [show k = n by omega]; exact Nat.le_refl _
    | succ r ih =>
      intro k hk
      have h1 := ih (k + 1) (by omega)
      have h3 : crs t k ≤ crs t (k + 1) := Nat.le_add_right _ _
      omega
  intro k
  induction k with
  | zero => exact fun _ => ⟨fun p => Or.inl rfl, fun j _ hj => absurd hj (Nat.not_lt_zero _)⟩
  | succ k ih =>
    intro hk
    obtain ⟨i1, i2⟩ := ih (by omega)
    obtain ⟨g1, g2, g3, g4⟩ := dI_all hok hl hc k (by omega)
    have hz := hok k (by omega)
    have hk1 := hl2 (n - (k + 1)) (k + 1) (by omega)
    have c1 : crs t (k + 1) = crs t k + (if t k < 10 then (t k).natAbs else 0) := rfl
    have d1 : dr t (k + 1) = drStep (dr t k) (t k) := rfl
    rw [d1]
    by_cases hz1 : t k ≤ 10
    · rw [drStep_leaf hz1]
      exact bx_leaf g1 i1 i2 (by rw [g3]; omega) hz1
    · have hs1 := hz.2.2.1 (by omega)
      exact bx_step i1 i2 (by omega) (by omega) (fun q => by have := hz.2.2.2 (by omega) (by omega); omega)
/-- who is tied within a box -/
theorem bx_end {s : drS} {side p : Nat} (h : dI s) (hb : bx s.2.2.2.2.2.1) (hs : s.1 = 1) (hD : dD s.2.1 s.2.2.1 p) (hp : (drEnd s side).2.2.2.2.2.1 p / 4 = p / 4) : ∃ k, k < 4 ∧ s.2.2.2.1 k = p := by
  apply Classical.byContradiction
  intro hn
  have hne : ∀ k, k < 4 → p ≠ s.2.2.2.1 k := fun k hk q => hn ⟨k, hk, q.symm⟩
  have e : (drEnd s side).2.2.2.2.2.1 p = s.2.2.2.2.2.1 p := by
    show (if side = 0 then tieN (tieN s.2.2.2.2.2.1 (s.2.2.2.1 0) (s.2.2.2.1 1)) (s.2.2.2.1 2) (s.2.2.2.1 3) else tieN (tieN s.2.2.2.2.2.1 (s.2.2.2.1 0) (s.2.2.2.1 2)) (s.2.2.2.1 1) (s.2.2.2.1 3)) p = _
    by_cases q : side = 0
    · rw [if_pos q]
      unfold tieN
      rw [upN_ne (hne 3 (by decide)), upN_ne (hne 2 (by decide)), upN_ne (hne 1 (by decide)), upN_ne (hne 0 (by decide))]
    · rw [if_neg q]
      unfold tieN
      rw [upN_ne (hne 3 (by decide)), upN_ne (hne 1 (by decide)), upN_ne (hne 2 (by decide)), upN_ne (hne 0 (by decide))]
  rw [e] at hp
  have hO : ¬ ∃ k, k < 4 * s.1 ∧ s.2.2.2.1 k = p := fun ⟨k, hk, q⟩ => hn ⟨k, by omega, q⟩
  obtain ⟨g1, g2, g3, g4⟩ := h.2.2.2.1.2.2.2 p hD hO
  have := h.2.2.2.1.1 _ g1
  have := hb p
  omega
section FEW
variable {c l : Nat} {mk po P : Nat → Nat}
theorem wB_few {K : Nat} {s : wkS} (hg : gd c l mk po P) (hm : mI c l mk po K s) (hc : wCl c l P s) (hK : K ≤ 48) (ha : ∀ k, k < 2 * c → s.2.2.2.2 (wEntry po k) = 1) (e : Nat → Nat) (hE : ∀ p, dD c l p → P p = wW mk p → ∃ k, k < 4 ∧ e k = p) : ∀ j, j ≤ 4 * l → 4 * (wB mk po P K s j).1 ≤ sN (fun p => (wB mk po P K s j).2.2.2.2.2 (96 + p)) (4 * l) + sN (fun k => (wB mk po P K s j).2.2.2.2.2 (e k)) 4 := by
  intro j
  induction j with
  | zero => exact fun _ => Nat.zero_le _
  | succ j ih =>
    intro hj
    obtain ⟨⟨g1, g2, g3, g4⟩, g5, g6⟩ := wB_I hg hm hc hK ha j (by omega)
    have i1 := ih (by omega)
    clear ih
    have hD : dD c l (96 + j) := Or.inr ⟨by omega, by omega⟩
    have hw : wB mk po P K s (j + 1) = if (wB mk po P K s j).2.2.2.2.2 (96 + j) = 1 then wB mk po P K s j else ((wB mk po P K s j).1 + 1, wRun mk po P K (wB mk po P K s j).2 (96 + j) (per (wW mk) P (96 + j))) := rfl
    rw [hw]
    by_cases hsn : (wB mk po P K s j).2.2.2.2.2 (96 + j) = 1
    · rw [if_pos hsn]
      exact i1
    · rw [if_neg hsn]
      have hs0 : (wB mk po P K s j).2.2.2.2.2 (96 + j) = 0 := (g1.1 _).elim id (fun q => absurd q hsn)
      have hr := per_is hg.2.2.1 hD
      have k4 := wRun_sn (mk := mk) (po := po) (P := P) (K := K) (s := (wB mk po P K s j).2) (b := 96 + j) g1.1 (per (wW mk) P (96 + j))
      have os := orb_sn hg g1 g2 hD
      have o6 := g6 _ hD hs0
      have oD := orb_D hg.2.2.1 hD
      have k1 := (wRun_I (K := K) hg g1 g2 hD hs0 (by omega) (by omega) hr _ (Nat.le_refl _)).1
      show 4 * ((wB mk po P K s j).1 + 1) ≤ sN (fun p => (wRun mk po P K (wB mk po P K s j).2 (96 + j) (per (wW mk) P (96 + j))).2.2.2.2 (96 + p)) (4 * l) + sN (fun k => (wRun mk po P K (wB mk po P K s j).2 (96 + j) (per (wW mk) P (96 + j))).2.2.2.2 (e k)) 4
      generalize hA : (wRun mk po P K (wB mk po P K s j).2 (96 + j) (per (wW mk) P (96 + j))).2.2.2.2 = A at *
      generalize hB : (wB mk po P K s j).2.2.2.2.2 = B at *
      have le : ∀ p, B p ≤ A p := fun p => by
        rcases g1.1 p with q | q
        · rw [hB] at q; rw [q]; exact Nat.zero_le _
        · rw [hB] at q
          rw [q, (k4 p).mpr (Or.inl q)]
          exact Nat.le_refl _
      have pr := hg.2.2.1
      have w0 := pr.2.1 _ hD
      have rng : ∀ p, dD c l p → 96 ≤ p → ∃ q, q < 4 * l ∧ p = 96 + q := fun p h1 h2 => ⟨p - 96, by unfold dD at h1; have := hg.1; omega, by omega⟩
      have inW : ∀ i, i < per (wW mk) P (96 + j) → A (orb (wW mk) P (96 + j) i) = 1 ∧ A (wW mk (orb (wW mk) P (96 + j) i)) = 1 := fun i hi => ⟨(k4 _).mpr (Or.inr ⟨i, hi, Or.inl rfl⟩), (k4 _).mpr (Or.inr ⟨i, hi, Or.inr rfl⟩)⟩
      have outW : ∀ i, B (orb (wW mk) P (96 + j) i) = 0 ∧ B (wW mk (orb (wW mk) P (96 + j) i)) = 0 := fun i => by
        have q := os i
        have q2 := g1.2.1 _ (oD i)
        rw [hB] at q2
        rw [q2, q, hs0]
        exact ⟨rfl, rfl⟩
      have loW : ∀ i, 96 ≤ wW mk (orb (wW mk) P (96 + j) i) := fun i => wW_loose hg (oD i) (o6 i)
      have i0 := inW 0 (by have := hr.1; omega)
      have u0 := outW 0
      have l0 := loW 0
      simp only [orb] at i0 u0 l0
      obtain ⟨b1, b2, b3⟩ := rng _ w0.1 l0
      have mono : ∀ n (f : Nat → Nat), sN (fun k => B (f k)) n ≤ sN (fun k => A (f k)) n := fun n f => sN_le n (fun i _ => le _)
      by_cases hP : P (wW mk (96 + j)) = 96 + j
      · have e1 : P (96 + j) = wW mk (96 + j) := by
          have := (pr.2.2 _ w0.1).2.1
          rw [hP] at this
          exact this
        obtain ⟨k1', hk1, hk1e⟩ := hE _ hD e1
        obtain ⟨k2', hk2, hk2e⟩ := hE _ w0.1 (by rw [hP, w0.2.1])
        have s1 : sN (fun p => B (96 + p)) (4 * l) + 2 ≤ sN (fun p => A (96 + p)) (4 * l) := sN_2 (a := j) (b := b1) (fun i _ => le _) (by omega) b2 (fun q => w0.2.2 (by rw [b3, q])) u0.1 (by show B (96 + b1) = 0; rw [← b3]; exact u0.2) i0.1 (by show A (96 + b1) = 1; rw [← b3]; exact i0.2)
        have s2 : sN (fun k => B (e k)) 4 + 2 ≤ sN (fun k => A (e k)) 4 := sN_2 (a := k1') (b := k2') (fun i _ => le _) hk1 hk2 (fun q => w0.2.2 (by rw [← hk2e, ← hk1e, q])) (by show B (e k1') = 0; rw [hk1e]; exact u0.1) (by show B (e k2') = 0; rw [hk2e]; exact u0.2) (by show A (e k1') = 1; rw [hk1e]; exact i0.1) (by show A (e k2') = 1; rw [hk2e]; exact i0.2)
        omega
      · have hper : 1 < per (wW mk) P (96 + j) := by
          apply Classical.byContradiction
          intro hn
          have h1 : per (wW mk) P (96 + j) = 1 := by have := hr.1; omega
          have := hr.2.2.1
          rw [h1] at this
          exact hP this
        have i1' := inW 1 hper
        have u1 := outW 1
        have l1 := loW 1
        have o1 := o6 1
        have d1 := oD 1
        simp only [orb] at i1' u1 l1 o1 d1
        have w1 := pr.2.1 _ d1
        have p1 := pr.2.2 _ w0.1
        obtain ⟨c1, c2, c3⟩ := rng _ d1 o1
        obtain ⟨d1', d2', d3'⟩ := rng _ w1.1 l1
        have s1 : sN (fun p => B (96 + p)) (4 * l) + 4 ≤ sN (fun p => A (96 + p)) (4 * l) := by
          refine sN_4 (a := j) (b := b1) (c := c1) (d := d1') (fun i _ => le _) (by omega) b2 c2 d2' ?_ ?_ ?_ ?_ ?_ ?_ u0.1 ?_ ?_ ?_ i0.1 ?_ ?_ ?_
          · exact fun q => w0.2.2 (by rw [b3, q])
          · exact fun q => hP (by rw [c3, q])
          · intro q
            have : wW mk (P (wW mk (96 + j))) = 96 + j := by rw [d3', q]
            have h9 := w1.2.1
            rw [this] at h9
            exact p1.2.2 h9.symm
          · intro q
            exact p1.2.2 (by rw [c3, b3, q])
          · intro q
            have : wW mk (P (wW mk (96 + j))) = wW mk (96 + j) := by rw [d3', b3, q]
            have h9 := w1.2.1
            rw [this, w0.2.1] at h9
            exact hP h9.symm
          · exact fun q => w1.2.2 (by rw [d3', c3, q])
          · show B (96 + b1) = 0; rw [← b3]; exact u0.2
          · show B (96 + c1) = 0; rw [← c3]; exact u1.1
          · show B (96 + d1') = 0; rw [← d3']; exact u1.2
          · show A (96 + b1) = 1; rw [← b3]; exact i0.2
          · show A (96 + c1) = 1; rw [← c3]; exact i1'.1
          · show A (96 + d1') = 1; rw [← d3']; exact i1'.2
        have s2 := mono 4 e
        omega
end FEW
