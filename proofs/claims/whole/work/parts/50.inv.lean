/-! what holds between two calls: the class and the reference hold the same -/
def scC (a k : Nat) : Prop := (3 ≤ a ∧ a ≤ 9) ∨ (a = 10 ∧ 5 ≤ k) ∨ (12 ≤ a ∧ a ≤ 67) ∨ a = 74 ∨ a = 75 ∨ (101 ≤ a ∧ a ≤ 107 ∧ 3 ≤ k ∧ k ≤ 4 ∧ a % 2 = 1)
def scM (a k : Nat) : Prop := (a = 109 ∧ k ≠ 7 ∧ k ≠ 8 ∧ k ≠ 9 ∧ k ≠ 11 ∧ k ≠ 15) ∨ a = 115 ∨ (123 ≤ a ∧ a ≤ 148)
/-- no row of the grid stands twice -/
def inj28 (m : sm_M) : Prop := ∀ i j, i < 24 → j < 24 → m.2.2.1 28 i = m.2.2.1 28 j → i = j
/-- m' is m but at the places P, and the grid's rows may have changed places -/
def frw (P : Nat → Nat → Prop) (m m' : sm_M) : Prop := (∀ a k, ¬ P a k → m'.1 a k = m.1 a k ∧ m'.2.1 a k = m.2.1 a k) ∧ (∀ b, b ≠ 28 → m'.2.2.1 b = m.2.2.1 b) ∧ m'.2.2.2 = m.2.2.2 ∧ (inj28 m → inj28 m')
theorem fr.w {P : Nat → Nat → Prop} {m m' : sm_M} (h : fr P m m') : frw P m m' := ⟨h.1, fun b _ => by rw [h.2], by rw [h.2], fun q => by unfold inj28 at *; rw [h.2]; exact q⟩
theorem frw.rf {P : Nat → Nat → Prop} {m : sm_M} : frw P m m := fr.rf.w
theorem frw.tr {P : Nat → Nat → Prop} {m m' m'' : sm_M} (h : frw P m m') (h' : frw P m' m'') : frw P m m'' := ⟨fun a k hp => ⟨((h'.1 a k hp).1).trans (h.1 a k hp).1, ((h'.1 a k hp).2).trans (h.1 a k hp).2⟩, fun b hb => (h'.2.1 b hb).trans (h.2.1 b hb), h'.2.2.1.trans h.2.2.1, fun q => h'.2.2.2 (h.2.2.2 q)⟩
theorem frw.mono {P P' : Nat → Nat → Prop} {m m' : sm_M} (h : frw P m m') (hp : ∀ a k, P a k → P' a k) : frw P' m m' := ⟨fun a k hn => h.1 a k (fun q => hn (hp a k q)), h.2⟩
theorem frw.i {P : Nat → Nat → Prop} {m m' : sm_M} (h : frw P m m') {a k : Nat} (hp : ¬ P a k) : m'.1 a k = m.1 a k := (h.1 a k hp).1
theorem frw.j {P : Nat → Nat → Prop} {m m' : sm_M} (h : frw P m m') {a k : Nat} (hp : ¬ P a k) : m'.2.1 a k = m.2.1 a k := (h.1 a k hp).2
/-- the lists of names: which pairs are of a size -/
def lsz : Nat → Nat → Nat → Nat
  | 0, _, _ => 0
  | f + 1, a, b => if b = 0 then 0 else a / b + lsz f b (a % b)
def lok (s a b : Nat) : Bool := Nat.gcd a b == 1 && lsz 20 a b == s && (List.range b).all (fun v => v * b % a != 1)
def lcode (s : Nat) : List Nat := (List.range 401).flatMap (fun a => ((List.range a).filter (fun b => decide (1 ≤ b) && decide (2 ≤ a) && lok s a b)).map (fun b => 1024 * a + b))
def sumI (w : Nat → Int) : Nat → Int
  | 0 => 0
  | n + 1 => sumI w n + w n
def kl (m : sm_M) (i : Nat) (t : Nat → Int) (n : Nat) : Prop := m.1 114 i = iI (n : Nat) ∧ ∀ k, k < n → m.1 113 (60 * i + k) = iI (tc (t k))
def SL (m : sm_M) : Prop := ∀ i, i < 6 → ∃ t n, vT t n ∧ tgm m (77 + 4 * i) t n ∧ hl m i t n
def KP (m : sm_M) : Prop := m.1 0 15 ≠ 0 → (m.1 0 14 = m.1 109 8 ∧ ∀ i, i < 6 → ∃ t n, vT t n ∧ tgm m (79 + 4 * i) t n ∧ kl m i t n)
def ZZ (m : sm_M) : Prop := m.1 0 13 = m.1 109 7 ∧ m.1 0 15 = m.1 109 9
def tpn (m : sm_M) (n : Nat) (b : Nat → Int) : Prop := n ≤ 100 ∧ m.1 10 4 = iI (n : Nat) ∧ m.1 109 11 = iI (n : Nat) ∧ ∀ k, k < n → 0 ≤ b k ∧ b k ≤ 255 ∧ m.1 11 k = iI (b k) ∧ m.1 116 k = iI (b k)
def TP (m : sm_M) : Prop := ∃ n b, tpn m n b
def bkn (c : Nat) (m : sm_M) (n : Nat) (p q w : Nat → Int) : Prop := n ≤ 40 ∧ m.1 70 2 = iI (n : Nat) ∧ m.1 109 15 = iI (n : Nat) ∧ (∀ k, k < n → (0 ≤ p k ∧ p k ≤ 1000000000 ∧ 0 ≤ q k ∧ q k ≤ 1000000000 ∧ 1 ≤ w k ∧ w k ≤ c) ∧ m.2.1 71 k = pk (p k) (q k) ∧ m.1 117 k = iI (p k) ∧ m.1 118 k = iI (q k) ∧ m.1 72 k = iI (w k) ∧ m.1 119 k = iI (w k)) ∧ (∀ j k, j < n → k < n → p j = p k → q j = q k → j = k) ∧ m.1 70 3 = iI (sumI w n)
def BK (c : Nat) (m : sm_M) : Prop := ∃ n p q w, bkn c m n p q w
def shn (m : sm_M) (s : Nat) (b : Int) (n : Nat) : Prop := (b = 0 ∨ b = 8 ∨ b = 16 ∨ b = 32 ∨ b = 64) ∧ n ≤ 48 ∧ m.1 (101 + 2 * s) 1 = iI b ∧ m.1 121 s = iI b ∧ m.1 (101 + 2 * s) 2 = iI (n : Nat) ∧ m.1 122 s = iI (n : Nat) ∧ ∀ k, k < 48 → m.2.1 (102 + 2 * s) k = m.2.1 120 (48 * s + k)
def SH (m : sm_M) : Prop := ∀ s, s < 4 → ∃ b n, shn m s b n
def LI (m : sm_M) : Prop := inj28 m ∧ ∀ s r, 2 ≤ s → s ≤ 12 → m.2.2.1 69 s = some r → 149 ≤ r ∧ sm_N m.2.2 r = (lcode s).length ∧ ∀ k, k < (lcode s).length → m.1 r k = iI ((lcode s).getD k 0 : Nat)
def ER (m : sm_M) : Prop := ∀ k, k < 7 → m.1 76 k = m.1 110 k
def Core (c : Nat) (m : sm_M) : Prop := SL m ∧ KP m ∧ ZZ m ∧ TP m ∧ BK c m ∧ SH m ∧ LI m
def Inv (c : Nat) (m : sm_M) : Prop := c ≤ 1000 ∧ Core c m ∧ ER m
section FRW
variable {P : Nat → Nat → Prop} {m m' : sm_M}
theorem tgm.frw {a n : Nat} {t : Nat → Int} (h : tgm m a t n) (hf : frw P m m') (h1 : ∀ k, ¬ P a k) (h2 : ∀ k, ¬ P (a + 1) k) : tgm m' a t n := by
  obtain ⟨⟨g1, g2, g3, g4, g5⟩, x1, x2, x3, x4, x5, x6⟩ := h
  exact ⟨⟨(hf.i (h1 _)).trans g1, fun k hk => (hf.i (h2 _)).trans (g2 k hk), (hf.i (h1 _)).trans g3, (hf.i (h1 _)).trans g4, g5⟩, (hf.i (h1 _)).trans x1, (hf.i (h1 _)).trans x2, (hf.i (h1 _)).trans x3, (hf.i (h1 _)).trans x4, (hf.i (h1 _)).trans x5, fun hg => ⟨(hf.i (h1 _)).trans (x6 hg).1, (hf.i (h1 _)).trans (x6 hg).2⟩⟩
theorem hl.frw {i n : Nat} {t : Nat → Int} (h : hl m i t n) (hf : frw P m m') (h1 : ¬ P 112 i) (h2 : ∀ k, k < n → ¬ P 111 (60 * i + k)) : hl m' i t n := ⟨(hf.i h1).trans h.1, fun k hk => (hf.i (h2 k hk)).trans (h.2 k hk)⟩
theorem kl.frw {i n : Nat} {t : Nat → Int} (h : kl m i t n) (hf : frw P m m') (h1 : ¬ P 114 i) (h2 : ∀ k, k < n → ¬ P 113 (60 * i + k)) : kl m' i t n := ⟨(hf.i h1).trans h.1, fun k hk => (hf.i (h2 k hk)).trans (h.2 k hk)⟩
theorem SL.frw (h : SL m) (hf : frw P m m') (h1 : ∀ a k, 77 ≤ a → a ≤ 100 → ¬ P a k) (h2 : ∀ k, ¬ P 111 k ∧ ¬ P 112 k) : SL m' := fun i hi => by
  obtain ⟨t, n, g1, g2, g3⟩ := h i hi
  exact ⟨t, n, g1, g2.frw hf (fun k => h1 _ k (by omega) (by omega)) (fun k => h1 _ k (by omega) (by omega)), g3.frw hf (h2 _).2 (fun k _ => (h2 _).1)⟩
theorem KP.frw (h : KP m) (hf : frw P m m') (h1 : ∀ a k, 77 ≤ a → a ≤ 100 → ¬ P a k) (h2 : ∀ k, ¬ P 113 k ∧ ¬ P 114 k) (h3 : ¬ P 0 14 ∧ ¬ P 0 15 ∧ ¬ P 109 8) : KP m' := fun h0 => by
  rw [hf.i h3.2.1] at h0
  obtain ⟨q1, q2⟩ := h h0
  refine ⟨by rw [hf.i h3.1, hf.i h3.2.2]; exact q1, fun i hi => ?_⟩
  obtain ⟨t, n, g1, g2, g3⟩ := q2 i hi
  exact ⟨t, n, g1, g2.frw hf (fun k => h1 _ k (by omega) (by omega)) (fun k => h1 _ k (by omega) (by omega)), g3.frw hf (h2 _).2 (fun k _ => (h2 _).1)⟩
theorem ZZ.frw (h : ZZ m) (hf : frw P m m') (h1 : ¬ P 0 13 ∧ ¬ P 0 15 ∧ ¬ P 109 7 ∧ ¬ P 109 9) : ZZ m' := ⟨by rw [hf.i h1.1, hf.i h1.2.2.1]; exact h.1, by rw [hf.i h1.2.1, hf.i h1.2.2.2]; exact h.2⟩
theorem tpn.frw {n : Nat} {b : Nat → Int} (h : tpn m n b) (hf : frw P m m') (h1 : ¬ P 10 4 ∧ ¬ P 109 11 ∧ ∀ k, ¬ P 11 k ∧ ¬ P 116 k) : tpn m' n b := ⟨h.1, (hf.i h1.1).trans h.2.1, (hf.i h1.2.1).trans h.2.2.1, fun k hk => ⟨(h.2.2.2 k hk).1, (h.2.2.2 k hk).2.1, (hf.i (h1.2.2 k).1).trans (h.2.2.2 k hk).2.2.1, (hf.i (h1.2.2 k).2).trans (h.2.2.2 k hk).2.2.2⟩⟩
theorem TP.frw (h : TP m) (hf : frw P m m') (h1 : ¬ P 10 4 ∧ ¬ P 109 11 ∧ ∀ k, ¬ P 11 k ∧ ¬ P 116 k) : TP m' := by
  obtain ⟨n, b, g⟩ := h
  exact ⟨n, b, g.frw hf h1⟩
theorem bkn.frw {c n : Nat} {p q w : Nat → Int} (h : bkn c m n p q w) (hf : frw P m m') (h1 : ¬ P 70 2 ∧ ¬ P 70 3 ∧ ¬ P 109 15 ∧ ∀ k, ¬ P 71 k ∧ ¬ P 72 k ∧ ¬ P 117 k ∧ ¬ P 118 k ∧ ¬ P 119 k) : bkn c m' n p q w := by
  obtain ⟨g1, g2, g3, g4, g5, g6⟩ := h
  obtain ⟨p1, p2, p3, p4⟩ := h1
  exact ⟨g1, (hf.i p1).trans g2, (hf.i p3).trans g3, fun k hk => ⟨(g4 k hk).1, (hf.j (p4 k).1).trans (g4 k hk).2.1, (hf.i (p4 k).2.2.1).trans (g4 k hk).2.2.1, (hf.i (p4 k).2.2.2.1).trans (g4 k hk).2.2.2.1, (hf.i (p4 k).2.1).trans (g4 k hk).2.2.2.2.1, (hf.i (p4 k).2.2.2.2).trans (g4 k hk).2.2.2.2.2⟩, g5, (hf.i p2).trans g6⟩
theorem BK.frw {c : Nat} (h : BK c m) (hf : frw P m m') (h1 : ¬ P 70 2 ∧ ¬ P 70 3 ∧ ¬ P 109 15 ∧ ∀ k, ¬ P 71 k ∧ ¬ P 72 k ∧ ¬ P 117 k ∧ ¬ P 118 k ∧ ¬ P 119 k) : BK c m' := by
  obtain ⟨n, p, q, w, g⟩ := h
  exact ⟨n, p, q, w, g.frw hf h1⟩
theorem BK.up {c c' : Nat} (h : BK c m) (hc : c ≤ c') : BK c' m := by
  obtain ⟨n, p, q, w, g1, g2, g3, g4, g5, g6⟩ := h
  exact ⟨n, p, q, w, g1, g2, g3, fun k hk => ⟨by have := (g4 k hk).1; omega, (g4 k hk).2⟩, g5, g6⟩
theorem shn.frw {s n : Nat} {b : Int} (h : shn m s b n) (hf : frw P m m') (h1 : ¬ P (101 + 2 * s) 1 ∧ ¬ P (101 + 2 * s) 2 ∧ ¬ P 121 s ∧ ¬ P 122 s ∧ ∀ k, ¬ P (102 + 2 * s) k ∧ ¬ P 120 k) : shn m' s b n := by
  obtain ⟨g1, g2, g3, g4, g5, g6, g7⟩ := h
  obtain ⟨p1, p2, p3, p4, p5⟩ := h1
  exact ⟨g1, g2, (hf.i p1).trans g3, (hf.i p3).trans g4, (hf.i p2).trans g5, (hf.i p4).trans g6, fun k hk => by rw [hf.j (p5 k).1, hf.j (p5 _).2]; exact g7 k hk⟩
theorem SH.frw (h : SH m) (hf : frw P m m') (h1 : ∀ s, s < 4 → ¬ P (101 + 2 * s) 1 ∧ ¬ P (101 + 2 * s) 2 ∧ ¬ P 121 s ∧ ¬ P 122 s ∧ ∀ k, ¬ P (102 + 2 * s) k ∧ ¬ P 120 k) : SH m' := fun s hs => by
  obtain ⟨b, n, g⟩ := h s hs
  exact ⟨b, n, g.frw hf (h1 s hs)⟩
theorem LI.frw (h : LI m) (hf : frw P m m') (h1 : ∀ a k, 149 ≤ a → ¬ P a k) : LI m' := ⟨hf.2.2.2 h.1, fun s r h2 h3 h4 => by
  rw [hf.2.1 69 (by decide)] at h4
  obtain ⟨g1, g2, g3⟩ := h.2 s r h2 h3 h4
  refine ⟨g1, ?_, fun k hk => (hf.i (h1 _ _ g1)).trans (g3 k hk)⟩
  show sm_N m'.2.2 r = _
  rw [show sm_N m'.2.2 = sm_N m.2.2 by show m'.2.2.2.2.1 = m.2.2.2.2.1; rw [hf.2.2.1]]
  exact g2⟩
end FRW
/-- all scratch, and the errors -/
def scE (a k : Nat) : Prop := scC a k ∨ scM a k ∨ a = 76 ∨ a = 110
theorem Core.frw {c : Nat} {m m' : sm_M} (h : Core c m) (hf : frw scE m m') : Core c m' := by
  obtain ⟨a1, a2, a3, a4, a5, a6, a7⟩ := h
  refine ⟨a1.frw hf ?_ ?_, a2.frw hf ?_ ?_ ?_, a3.frw hf ?_, a4.frw hf ?_, a5.frw hf ?_, a6.frw hf ?_, a7.frw hf ?_⟩
  · intro a k h1 h2; unfold scE scC scM; omega
  · intro k; unfold scE scC scM; omega
  · intro a k h1 h2; unfold scE scC scM; omega
  · intro k; unfold scE scC scM; omega
  · unfold scE scC scM; omega
  · unfold scE scC scM; omega
  · refine ⟨by unfold scE scC scM; omega, by unfold scE scC scM; omega, fun k => ?_⟩; unfold scE scC scM; omega
  · refine ⟨by unfold scE scC scM; omega, by unfold scE scC scM; omega, by unfold scE scC scM; omega, fun k => ?_⟩; unfold scE scC scM; omega
  · intro s hs; refine ⟨by unfold scE scC scM; omega, by unfold scE scC scM; omega, by unfold scE scC scM; omega, by unfold scE scC scM; omega, fun k => ?_⟩; unfold scE scC scM; omega
  · intro a k h1; unfold scE scC scM; omega
theorem Inv.sc {c : Nat} {m m1 m2 : sm_M} (h : Inv c m) (h1 : frw scC m m1) (h2 : frw scM m1 m2) : Inv c m2 := by
  refine ⟨h.1, h.2.1.frw ((h1.mono (fun a k hb => Or.inl hb)).tr (h2.mono (fun a k hb => Or.inr (Or.inl hb)))), fun k hk => ?_⟩
  rw [h2.i (by unfold scM; omega), h1.i (by unfold scC; omega), h2.i (by unfold scM; omega), h1.i (by unfold scC; omega)]
  exact h.2.2 k hk
theorem Inv.er {c e : Nat} {m m1 m2 : sm_M} (h : Inv c m) (h1 : frw scC m m1) (h2 : frw scM (sm_wI m1 76 e (m1.1 76 e + 1)) m2) : Inv c (sm_wI m2 110 e (m2.1 110 e + 1)) := by
  have f1 : frw scE m1 (sm_wI m1 76 e (m1.1 76 e + 1)) := (fr.rf.wI (Or.inr (Or.inr (Or.inl rfl)))).w
  have f2 : frw scE m2 (sm_wI m2 110 e (m2.1 110 e + 1)) := (fr.rf.wI (Or.inr (Or.inr (Or.inr rfl)))).w
  refine ⟨h.1, h.2.1.frw ((((h1.mono (fun a k hb => Or.inl hb)).tr f1).tr (h2.mono (fun a k hb => Or.inr (Or.inl hb)))).tr f2), fun k hk => ?_⟩
  have e1 : ∀ j, m2.1 76 j = if j = e then m1.1 76 e + 1 else m1.1 76 j := fun j => by
    rw [h2.i (by unfold scM; omega), wI_1]
    simp
  have e2 : ∀ j, m2.1 110 j = m1.1 110 j := fun j => by
    rw [h2.i (by unfold scM; omega), wI_1]
    simp
  have e3 : ∀ j, j < 7 → m1.1 76 j = m1.1 110 j := fun j hj => by
    rw [h1.i (by unfold scC; omega), h1.i (by unfold scC; omega)]
    exact h.2.2 j hj
  rw [wI_1, wI_1, e1, e2, e2]
  by_cases hke : k = e
  · subst hke
    simp [e3 k hk]
  · simp [hke, e3 k hk]
theorem frw.id {P : Nat → Nat → Prop} {m : sm_M} : frw P m m := frw.rf
section ERR
variable {E : sm_E} {L : sm_S → Prop} {d : Nat}
/-- both tell the same error -/
theorem k_err {c e d1 d2 : Nat} {m m1 m2 : sm_M} {x y : Int32} {X : Prop} (h : Inv c m) (h1 : frw scC m m1) (h2 : frw scM (sm_wI m1 76 e (m1.1 76 e + 1)) m2) (hxy : x = y) : x = y ∧ Inv c (sm_wI m2 110 e (m2.1 110 e + 1)) := ⟨hxy, h.er h1 h2⟩
end ERR
