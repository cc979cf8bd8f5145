/-! what is noted on walks stays well -/
def gd (c l : Nat) (mk po P : Nat → Nat) : Prop := c ≤ 24 ∧ l ≤ 24 ∧ prs (dD c l) (wW mk) P ∧ (∀ b, b < c → mk b = 3) ∧ (∀ b, b < l → mk (24 + b) = 1 ∨ mk (24 + b) = 2) ∧ ∀ b, b < c → po b = 0 ∨ po b = 1
theorem gd_of {s : drS} {side : Nat} (h : dI s) (hs : s.1 = 1) : gd s.2.1 s.2.2.1 s.2.2.2.2.2.2.1 s.2.2.2.2.2.2.2 (drEnd s side).2.2.2.2.2.1 := ⟨h.1, h.2.1, prs_of h hs, h.2.2.2.2.2.2.1, h.2.2.2.2.2.2.2.1, h.2.2.2.2.2.2.2.2⟩
section WLK
variable {c l : Nat} {mk po P : Nat → Nat}
theorem wW_cross (hg : gd c l mk po P) {p : Nat} (hp : p < 4 * c) : wW mk p = 4 * (p / 4) + (3 - p % 4) := by
  have hx := (xor_k ⟨p % 4, by omega⟩ ⟨3, by omega⟩).2.2.2 rfl
  simp only at hx
  unfold wW
  rw [hg.2.2.2.1 (p / 4) (by omega), hx]
theorem wW_loose (hg : gd c l mk po P) {p : Nat} (hD : dD c l p) (hp : 96 ≤ p) : 96 ≤ wW mk p := by
  have hm : mk (p / 4) < 4 := by
    have := hg.2.2.2.2.1 (p / 4 - 24) (by unfold dD at hD; have := hg.1; omega)
    rw [show 24 + (p / 4 - 24) = p / 4 by omega] at this
    omega
  have := (wW_box hm).1
  omega
theorem pass_lt (hg : gd c l mk po P) {p : Nat} (hD : dD c l p) (hp : p < 96) : p < 4 * c ∧ wPass po p < 2 * c := by
  unfold dD at hD
  have h1 : p < 4 * c := by omega
  refine ⟨h1, ?_⟩
  unfold wPass
  split <;> omega
theorem entry_lt (hg : gd c l mk po P) {k : Nat} (hk : k < 2 * c) : wEntry po k < 4 * c ∧ dD c l (wEntry po k) ∧ wEntry po k < 96 := by
  have h1 : wEntry po k < 4 * c := by
    unfold wEntry
    split <;> omega
  have := hg.1
  exact ⟨h1, Or.inl h1, by omega⟩
theorem entry_pass (hg : gd c l mk po P) {p : Nat} (hD : dD c l p) (hp : p < 96) : p = wEntry po (wPass po p) ∨ p = wW mk (wEntry po (wPass po p)) := by
  obtain ⟨h1, h2⟩ := pass_lt hg hD hp
  have hE := entry_lt hg h2
  rw [wW_cross hg hE.1]
  have hpo := hg.2.2.2.2.2 (p / 4) (by omega)
  have e1 : wPass po p / 2 = p / 4 := by unfold wPass; split <;> omega
  have e2 : wEntry po (wPass po p) = 4 * (p / 4) + (if wPass po p % 2 = 0 ↔ po (p / 4) = 1 then 0 else 2) := by
    unfold wEntry
    rw [e1]
  have e3 : wPass po p % 2 = (if (p % 4 = 0 ∨ p % 4 = 3) ↔ po (p / 4) = 1 then 0 else 1) := by
    unfold wPass
    split <;> omega
  rw [e2, e3]
  have hq : p % 4 = 0 ∨ p % 4 = 1 ∨ p % 4 = 2 ∨ p % 4 = 3 := by omega
  rcases hpo with h0 | h0 <;> rcases hq with q | q | q | q <;> simp [h0, q] <;> omega
theorem pass_entry (hg : gd c l mk po P) {k : Nat} (hk : k < 2 * c) : wPass po (wEntry po k) = k := by
  have hpo := hg.2.2.2.2.2 (k / 2) (by omega)
  have e1 : wEntry po k / 4 = k / 2 := by unfold wEntry; split <;> omega
  have e2 : wEntry po k % 4 = (if k % 2 = 0 ↔ po (k / 2) = 1 then 0 else 2) := by unfold wEntry; split <;> omega
  unfold wPass
  rw [e1, e2]
  have hq : k % 2 = 0 ∨ k % 2 = 1 := by omega
  rcases hpo with h0 | h0 <;> rcases hq with q | q <;> simp [h0, q] <;> omega
theorem pass_W (hg : gd c l mk po P) {p : Nat} (hp : p < 4 * c) : wPass po (wW mk p) = wPass po p := by
  rw [wW_cross hg hp]
  have e1 : (4 * (p / 4) + (3 - p % 4)) / 4 = p / 4 := by omega
  have e2 : (4 * (p / 4) + (3 - p % 4)) % 4 = 3 - p % 4 := by omega
  unfold wPass
  rw [e1, e2]
  congr 1
  have hq : p % 4 = 0 ∨ p % 4 = 1 ∨ p % 4 = 2 ∨ p % 4 = 3 := by omega
  rcases hq with q | q | q | q <;> simp [q]
def mI (c l : Nat) (mk po : Nat → Nat) (B : Nat) (s : wkS) : Prop := (∀ p, s.2.2.2.2 p = 0 ∨ s.2.2.2.2 p = 1) ∧ (∀ p, dD c l p → s.2.2.2.2 (wW mk p) = s.2.2.2.2 p) ∧ (∀ i j, i < s.1 → j < s.1 → s.2.1 i = s.2.1 j → i = j) ∧ (∀ i, i < s.1 → s.2.1 i < 2 * c ∧ s.2.2.2.2 (wEntry po (s.2.1 i)) = 1) ∧ (∀ k, k < 2 * c → s.2.2.2.2 (wEntry po k) = 1 → ∃ i, i < s.1 ∧ s.2.1 i = k) ∧ (∀ k, k < 2 * c → (s.2.2.1 k = 999 ↔ s.2.2.2.2 (wEntry po k) = 0)) ∧ (∀ k, k < 2 * c → s.2.2.2.2 (wEntry po k) = 1 → s.2.2.1 k < B ∧ (s.2.2.2.1 k = 0 ∨ s.2.2.2.1 k = 1))
def wCl (c l : Nat) (P : Nat → Nat) (s : wkS) : Prop := ∀ p, dD c l p → s.2.2.2.2 (P p) = s.2.2.2.2 p
theorem mI.le {B B' : Nat} {s : wkS} (h : mI c l mk po B s) (hB : B ≤ B') : mI c l mk po B' s := by
  obtain ⟨a1, a2, a3, a4, a5, a6, a7⟩ := h
  exact ⟨a1, a2, a3, a4, a5, a6, fun k hk h1 => ⟨by have := (a7 k hk h1).1; omega, (a7 k hk h1).2⟩⟩
theorem mI.walked {B : Nat} {s : wkS} (h : mI c l mk po B s) : s.1 ≤ 2 * c := inj_le (fun i hi => (h.2.2.2.1 i hi).1) h.2.2.1
theorem wNote_sn {K : Nat} {s : wkS} {p : Nat} : (wNote mk po K s p).2.2.2.2 = upN (upN s.2.2.2.2 p 1) (wW mk p) 1 := by
  unfold wNote
  split <;> rfl
theorem mI_note {B K : Nat} {s : wkS} {p : Nat} (hg : gd c l mk po P) (h : mI c l mk po B s) (hD : dD c l p) (hs : s.2.2.2.2 p = 0) (hK : K < B) (hB : B ≤ 900) : mI c l mk po B (wNote mk po K s p) := by
  obtain ⟨a1, a2, a3, a4, a5, a6, a7⟩ := h
  obtain ⟨w1, w2, w3⟩ := hg.2.2.1.2.1 p hD
  have sn1 : ∀ q, upN (upN s.2.2.2.2 p 1) (wW mk p) 1 q = if q = wW mk p ∨ q = p then 1 else s.2.2.2.2 q := by
    intro q
    rw [upN_at, upN_at]
    by_cases h1 : q = wW mk p
    · rw [if_pos h1, if_pos (Or.inl h1)]
    · rw [if_neg h1]
      by_cases h2 : q = p
      · rw [if_pos h2, if_pos (Or.inr h2)]
      · rw [if_neg h2, if_neg (fun q => q.elim h1 h2)]
  have b1 : ∀ q, (wNote mk po K s p).2.2.2.2 q = 0 ∨ (wNote mk po K s p).2.2.2.2 q = 1 := by
    intro q
    rw [wNote_sn, sn1]
    split
    · exact Or.inr rfl
    · exact a1 q
  have b2 : ∀ q, dD c l q → (wNote mk po K s p).2.2.2.2 (wW mk q) = (wNote mk po K s p).2.2.2.2 q := by
    intro q hq
    obtain ⟨v1, v2, v3⟩ := hg.2.2.1.2.1 q hq
    rw [wNote_sn, sn1, sn1]
    by_cases h1 : q = p
    · subst h1
      rw [if_pos (Or.inl rfl), if_pos (Or.inr rfl)]
    · by_cases h2 : q = wW mk p
      · subst h2
        rw [w2, if_pos (Or.inr rfl), if_pos (Or.inl rfl)]
      · rw [if_neg (show ¬ (q = wW mk p ∨ q = p) from fun r => r.elim h2 h1), if_neg ?_]
        · exact a2 q hq
        · rintro (r | r)
          · apply h1
            rw [← v2, r, w2]
          · apply h2
            rw [← v2, r]
  by_cases hp : p < 96
  · obtain ⟨p1, p2⟩ := pass_lt hg hD hp
    have he := entry_pass hg hD hp
    have key : ∀ k, k < 2 * c → (wNote mk po K s p).2.2.2.2 (wEntry po k) = if k = wPass po p then 1 else s.2.2.2.2 (wEntry po k) := by
      intro k hk
      obtain ⟨e1, e2, e3⟩ := entry_lt hg hk
      rw [wNote_sn, sn1]
      by_cases hkp : k = wPass po p
      · rw [if_pos hkp, if_pos]
        rw [hkp]
        rcases he with he | he
        · exact Or.inr he.symm
        · left
          have hE := entry_lt hg p2
          have := (hg.2.2.1.2.1 _ hE.2.1).2.1
          rw [← he] at this
          exact this.symm
      · rw [if_neg hkp, if_neg]
        rintro (r | r)
        · apply hkp
          rw [← pass_entry hg hk, r, pass_W hg p1]
        · apply hkp
          rw [← pass_entry hg hk, r]
    have s0 : s.2.2.2.2 (wEntry po (wPass po p)) = 0 := by
      have hE := entry_lt hg p2
      rcases he with he | he
      · rw [← he]; exact hs
      · rw [← a2 _ hE.2.1, ← he]; exact hs
    have hw : wNote mk po K s p = (s.1 + 1, upN s.2.1 s.1 (wPass po p), upN s.2.2.1 (wPass po p) K, upN s.2.2.2.1 (wPass po p) (1 - p % 2), upN (upN s.2.2.2.2 p 1) (wW mk p) 1) := if_pos hp
    have f1 : (wNote mk po K s p).1 = s.1 + 1 := by rw [hw]
    have f2 : (wNote mk po K s p).2.1 = upN s.2.1 s.1 (wPass po p) := by rw [hw]
    have f3 : (wNote mk po K s p).2.2.1 = upN s.2.2.1 (wPass po p) K := by rw [hw]
    have f4 : (wNote mk po K s p).2.2.2.1 = upN s.2.2.2.1 (wPass po p) (1 - p % 2) := by rw [hw]
    have fresh : ∀ i, i < s.1 → s.2.1 i ≠ wPass po p := fun i hi e => by
      have := (a4 i hi).2
      rw [e, s0] at this
      exact absurd this (by decide)
    refine ⟨b1, b2, ?_, ?_, ?_, ?_, ?_⟩
    · rw [f1, f2]
      intro i j hi hj e
      rw [upN_at, upN_at] at e
      by_cases h1 : i = s.1
      · by_cases h2 : j = s.1
        · omega
        · rw [if_pos h1, if_neg h2] at e
          exact absurd e.symm (fresh j (by omega))
      · by_cases h2 : j = s.1
        · rw [if_neg h1, if_pos h2] at e
          exact absurd e (fresh i (by omega))
        · rw [if_neg h1, if_neg h2] at e
          exact a3 i j (by omega) (by omega) e
    · rw [f1, f2]
      intro i hi
      rw [upN_at]
      by_cases h1 : i = s.1
      · rw [if_pos h1]
        exact ⟨p2, by rw [key _ p2, if_pos rfl]⟩
      · rw [if_neg h1]
        have := a4 i (by omega)
        exact ⟨this.1, by rw [key _ this.1]; split; rfl; exact this.2⟩
    · rw [f1, f2]
      intro k hk h1
      rw [key k hk] at h1
      by_cases hkp : k = wPass po p
      · exact ⟨s.1, by omega, by rw [upN_eq, hkp]⟩
      · rw [if_neg hkp] at h1
        obtain ⟨i, hi, e⟩ := a5 k hk h1
        exact ⟨i, by omega, by rw [upN_ne (by omega)]; exact e⟩
    · rw [f3]
      intro k hk
      rw [key k hk, upN_at]
      by_cases hkp : k = wPass po p
      · rw [if_pos hkp, if_pos hkp]
        exact ⟨fun q => by omega, fun q => by omega⟩
      · rw [if_neg hkp, if_neg hkp]
        exact a6 k hk
    · rw [f3, f4]
      intro k hk h1
      rw [key k hk] at h1
      rw [upN_at, upN_at]
      by_cases hkp : k = wPass po p
      · rw [if_pos hkp, if_pos hkp]
        exact ⟨hK, by omega⟩
      · rw [if_neg hkp] at h1
        rw [if_neg hkp, if_neg hkp]
        exact a7 k hk h1
  · have key : ∀ k, k < 2 * c → (wNote mk po K s p).2.2.2.2 (wEntry po k) = s.2.2.2.2 (wEntry po k) := by
      intro k hk
      obtain ⟨e1, e2, e3⟩ := entry_lt hg hk
      have := wW_loose hg hD (by omega)
      rw [wNote_sn, sn1, if_neg (by omega)]
    have hw : wNote mk po K s p = (s.1, s.2.1, s.2.2.1, s.2.2.2.1, upN (upN s.2.2.2.2 p 1) (wW mk p) 1) := if_neg hp
    have f1 : (wNote mk po K s p).1 = s.1 := by rw [hw]
    have f2 : (wNote mk po K s p).2.1 = s.2.1 := by rw [hw]
    have f3 : (wNote mk po K s p).2.2.1 = s.2.2.1 := by rw [hw]
    have f4 : (wNote mk po K s p).2.2.2.1 = s.2.2.2.1 := by rw [hw]
    refine ⟨b1, b2, ?_, ?_, ?_, ?_, ?_⟩
    · rw [f1, f2]; exact a3
    · rw [f1, f2]; intro i hi; rw [key _ (a4 i hi).1]; exact a4 i hi
    · rw [f1, f2]; intro k hk h1; rw [key k hk] at h1; exact a5 k hk h1
    · rw [f3]; intro k hk; rw [key k hk]; exact a6 k hk
    · rw [f3, f4]; intro k hk h1; rw [key k hk] at h1; exact a7 k hk h1
theorem wRun_sn {K : Nat} {s : wkS} {b : Nat} (h01 : ∀ p, s.2.2.2.2 p = 0 ∨ s.2.2.2.2 p = 1) : ∀ j q, (wRun mk po P K s b j).2.2.2.2 q = 1 ↔ (s.2.2.2.2 q = 1 ∨ ∃ i, i < j ∧ (q = orb (wW mk) P b i ∨ q = wW mk (orb (wW mk) P b i))) := by
  intro j
  induction j with
  | zero =>
    intro q
    exact ⟨fun h => Or.inl h, fun h => h.elim id (fun ⟨i, hi, _⟩ => absurd hi (Nat.not_lt_zero _))⟩
  | succ j ih =>
    intro q
    show (wNote mk po K (wRun mk po P K s b j) (orb (wW mk) P b j)).2.2.2.2 q = 1 ↔ _
    rw [wNote_sn, upN_at, upN_at]
    by_cases h1 : q = wW mk (orb (wW mk) P b j)
    · rw [if_pos h1]
      exact ⟨fun _ => Or.inr ⟨j, by omega, Or.inr h1⟩, fun _ => rfl⟩
    · rw [if_neg h1]
      by_cases h2 : q = orb (wW mk) P b j
      · rw [if_pos h2]
        exact ⟨fun _ => Or.inr ⟨j, by omega, Or.inl h2⟩, fun _ => rfl⟩
      · rw [if_neg h2, ih q]
        constructor
        · rintro (h | ⟨i, hi, h⟩)
          · exact Or.inl h
          · exact Or.inr ⟨i, by omega, h⟩
        · rintro (h | ⟨i, hi, h⟩)
          · exact Or.inl h
          · refine Or.inr ⟨i, ?_, h⟩
            have : i ≠ j := fun e => by
              subst e
              exact h.elim h2 h1
            omega
/-- all of an orbit is unseen if its beginning is -/
theorem orb_sn {B : Nat} {s : wkS} {b : Nat} (hg : gd c l mk po P) (h : mI c l mk po B s) (hc : wCl c l P s) (hb : dD c l b) : ∀ i, s.2.2.2.2 (orb (wW mk) P b i) = s.2.2.2.2 b := by
  intro i
  induction i with
  | zero => rfl
  | succ i ih =>
    have hD := orb_D hg.2.2.1 hb i
    show s.2.2.2.2 (P (wW mk (orb (wW mk) P b i))) = _
    rw [hc _ (hg.2.2.1.2.1 _ hD).1, h.2.1 _ hD, ih]
theorem wRun_I {B K : Nat} {s : wkS} {b r : Nat} (hg : gd c l mk po P) (h : mI c l mk po B s) (hc : wCl c l P s) (hb : dD c l b) (hs : s.2.2.2.2 b = 0) (hK : K < B) (hB : B ≤ 900) (hr : isPer (wW mk) P b r) : ∀ j, j ≤ r → mI c l mk po B (wRun mk po P K s b j) ∧ (j < r → (wRun mk po P K s b j).2.2.2.2 (orb (wW mk) P b j) = 0) := by
  have un : ∀ j, j < r → (wRun mk po P K s b j).2.2.2.2 (orb (wW mk) P b j) ≠ 1 := by
    intro j hj e
    rw [wRun_sn h.1] at e
    rcases e with e | ⟨i, hi, e | e⟩
    · rw [orb_sn hg h hc hb, hs] at e
      exact absurd e (by decide)
    · exact orb_ne hg.2.2.1 hb hr i j hi hj e.symm
    · exact orb_WW hg.2.2.1 hb i j e.symm
  intro j
  induction j with
  | zero => exact fun _ => ⟨h, fun _ => hs⟩
  | succ j ih =>
    intro hj
    obtain ⟨g1, g2⟩ := ih (by omega)
    have g3 := mI_note hg g1 (orb_D hg.2.2.1 hb j) (g2 (by omega)) hK hB
    exact ⟨g3, fun hlt => (g3.1 _).elim id (fun e => absurd e (un (j + 1) hlt))⟩
theorem wRun_cl {B K : Nat} {s : wkS} {b r : Nat} (hg : gd c l mk po P) (h : mI c l mk po B s) (hc : wCl c l P s) (hb : dD c l b) (hs : s.2.2.2.2 b = 0) (hK : K < B) (hB : B ≤ 900) (hr : isPer (wW mk) P b r) : wCl c l P (wRun mk po P K s b r) := by
  have h01 := (wRun_I (K := K) hg h hc hb hs hK hB hr r (Nat.le_refl _)).1.1
  have one : ∀ q, dD c l q → (wRun mk po P K s b r).2.2.2.2 q = 1 → (wRun mk po P K s b r).2.2.2.2 (P q) = 1 := by
    intro q hq e
    rw [wRun_sn h.1] at e ⊢
    rcases e with e | ⟨i, hi, e | e⟩
    · exact Or.inl (by rw [hc q hq]; exact e)
    · right
      by_cases h0 : i = 0
      · refine ⟨r - 1, by have := hr.1; omega, Or.inr ?_⟩
        have e2 : orb (wW mk) P b (r - 1 + 1) = b := by rw [show r - 1 + 1 = r by have := hr.1; omega]; exact hr.2.2.1
        have e3 : q = P (wW mk (orb (wW mk) P b (r - 1))) := by rw [e, h0]; exact e2.symm
        rw [e3]
        exact (hg.2.2.1.2.2 _ (hg.2.2.1.2.1 _ (orb_D hg.2.2.1 hb _)).1).2.1
      · refine ⟨i - 1, by omega, Or.inr ?_⟩
        have e3 : q = P (wW mk (orb (wW mk) P b (i - 1))) := by
          rw [e]
          show _ = orb (wW mk) P b (i - 1 + 1)
          rw [show i - 1 + 1 = i by omega]
        rw [e3]
        exact (hg.2.2.1.2.2 _ (hg.2.2.1.2.1 _ (orb_D hg.2.2.1 hb _)).1).2.1
    · right
      by_cases h0 : i + 1 = r
      · refine ⟨0, by omega, Or.inl ?_⟩
        rw [e]
        show orb (wW mk) P b (i + 1) = b
        rw [h0]
        exact hr.2.2.1
      · exact ⟨i + 1, by omega, Or.inl (by rw [e]; rfl)⟩
  intro q hq
  obtain ⟨v1, v2, v3⟩ := hg.2.2.1.2.2 q hq
  rcases h01 q with e | e
  · rw [e]
    rcases h01 (P q) with e2 | e2
    · exact e2
    · have := one (P q) v1 e2
      rw [v2, e] at this
      exact absurd this (by decide)
  · rw [e]
    exact one q hq e
end WLK
