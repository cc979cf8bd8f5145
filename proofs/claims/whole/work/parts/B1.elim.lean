/-! rows are taken from rows -/
section ELI
variable {p : Int} {c n : Nat}
def dlt (i k : Nat) : Int := if k = i then 1 else 0
theorem sum_dlt (f : Nat → Int) (i : Nat) : ∀ c, sumI (fun k => dlt i k * f k) c = if i < c then f i else 0 := by
  intro c
  induction c with
  | zero => rfl
  | succ c ih =>
    show sumI (fun k => dlt i k * f k) c + dlt i c * f c = _
    rw [ih]
    unfold dlt
    by_cases h : c = i
    · subst h
      rw [if_neg (by omega), if_pos rfl, if_pos (by omega), Int.one_mul, Int.zero_add]
    · rw [if_neg h, Int.zero_mul, Int.add_zero]
      by_cases h2 : i < c
      · rw [if_pos h2, if_pos (by omega)]
      · rw [if_neg h2, if_neg (by omega)]
theorem Sp_row {G : Nat → Nat → Int} {i : Nat} (hi : i < c) : Sp p c n G (G i) := ⟨dlt i, fun j _ => by rw [sum_dlt (fun k => G k j) i c, if_pos hi]; exact md.rf⟩
theorem Sp_tr {c' : Nat} {G G' : Nat → Nat → Int} {v : Nat → Int} (h : ∀ i, i < c' → Sp p c n G (G' i)) (hv : Sp p c' n G' v) : Sp p c n G v := by
  obtain ⟨a, ha⟩ := hv
  obtain ⟨C, hC⟩ := Classical.axiomOfChoice (r := fun (i : Nat) (a : Nat → Int) => i < c' → ∀ j, j < n → md p (G' i j) (sumI (fun k => a k * G k j) c)) (fun i => by
    by_cases hi : i < c'
    · obtain ⟨a, ha⟩ := h i hi
      exact ⟨a, fun _ => ha⟩
    · exact ⟨fun _ => 0, fun h => absurd h hi⟩)
  refine ⟨fun k => sumI (fun i => a i * C i k) c', fun j hj => (ha j hj).tr ?_⟩
  have e1 : md p (sumI (fun i => a i * G' i j) c') (sumI (fun i => a i * sumI (fun k => C i k * G k j) c) c') := md_sum c' (fun i hi => (hC i hi j hj).mul (a i))
  refine e1.tr ?_
  have e2 : sumI (fun i => a i * sumI (fun k => C i k * G k j) c) c' = sumI (fun k => sumI (fun i => a i * C i k) c' * G k j) c := by
    have f1 : ∀ i, i < c' → a i * sumI (fun k => C i k * G k j) c = sumI (fun k => a i * (C i k * G k j)) c := fun i _ => (sumI_mul (a i) _ c).symm
    rw [smc c' f1, sumI_swap]
    refine smc c (fun k _ => ?_)
    rw [Int.mul_comm, ← sumI_mul]
    refine smc c' (fun i _ => ?_)
    rw [← Int.mul_assoc, Int.mul_comm]
  rw [e2]
  exact md.rf
theorem Sp_add {G : Nat → Nat → Int} {v u : Nat → Int} {f : Int} (hv : Sp p c n G v) (hu : Sp p c n G u) {x : Nat → Int} (hx : ∀ j, j < n → md p (x j) (v j + f * u j)) : Sp p c n G x := by
  obtain ⟨a, ha⟩ := hv
  obtain ⟨b, hb⟩ := hu
  refine ⟨fun k => a k + f * b k, fun j hj => (hx j hj).tr (((ha j hj).add ((hb j hj).mul f)).tr ?_)⟩
  have e : sumI (fun i => (a i + f * b i) * G i j) c = sumI (fun i => a i * G i j) c + f * sumI (fun i => b i * G i j) c := by
    rw [← sumI_mul, ← sumI_add]
    refine smc c (fun i _ => ?_)
    rw [Int.add_mul, Int.mul_assoc]
  rw [e]
  exact md.rf
/-- the same rows' sums -/
def spE (p : Int) (c n : Nat) (G G' : Nat → Nat → Int) : Prop := (∀ i, i < c → Sp p c n G (G' i)) ∧ ∀ i, i < c → Sp p c n G' (G i)
theorem spE.rf {G : Nat → Nat → Int} : spE p c n G G := ⟨fun _ hi => Sp_row hi, fun _ hi => Sp_row hi⟩
theorem spE.tr {G G' G'' : Nat → Nat → Int} (h : spE p c n G G') (h' : spE p c n G' G'') : spE p c n G G'' := ⟨fun i hi => Sp_tr h.1 (h'.1 i hi), fun i hi => Sp_tr h'.2 (h.2 i hi)⟩
def swp (G : Nat → Nat → Int) (r s : Nat) : Nat → Nat → Int := fun i => if i = r then G s else if i = s then G r else G i
theorem spE_swp {G : Nat → Nat → Int} {r s : Nat} (hr : r < c) (hs : s < c) : spE p c n G (swp G r s) := by
  refine ⟨fun i hi => ?_, fun i hi => ?_⟩
  · unfold swp
    by_cases h1 : i = r
    · rw [if_pos h1]; exact Sp_row hs
    · rw [if_neg h1]
      by_cases h2 : i = s
      · rw [if_pos h2]; exact Sp_row hr
      · rw [if_neg h2]; exact Sp_row hi
  · by_cases h1 : i = r
    · subst h1
      have : swp G i s s = G i := by
        unfold swp
        by_cases h2 : s = i
        · rw [if_pos h2, h2]
        · rw [if_neg h2, if_pos rfl]
      rw [← this]
      exact Sp_row hs
    · by_cases h2 : i = s
      · subst h2
        have : swp G r i r = G i := by unfold swp; rw [if_pos rfl]
        rw [← this]
        exact Sp_row hr
      · have : swp G r s i = G i := by unfold swp; rw [if_neg h1, if_neg h2]
        rw [← this]
        exact Sp_row hi
theorem spE_op {G G' : Nat → Nat → Int} {r : Nat} {f : Nat → Int} (hr : r < c) (h0 : f r = 0) (h : ∀ i j, i < c → j < n → md p (G' i j) (G i j + f i * G r j)) : spE p c n G G' := by
  have hrr : ∀ j, j < n → md p (G r j) (G' r j) := fun j hj => by
    have := h r j hr hj
    rw [h0, Int.zero_mul, Int.add_zero] at this
    exact this.sy
  refine ⟨fun i hi => Sp_add (f := f i) (Sp_row hi) (Sp_row hr) (fun j hj => h i j hi hj), fun i hi => Sp_add (f := -(f i)) (Sp_row (G := G') hi) (Sp_row (G := G') hr) (fun j hj => ?_)⟩
  have e1 := (h i j hi hj).add ((hrr j hj).sy.mul (-(f i)))
  rw [show G i j + f i * G r j + -(f i) * G r j = G i j by rw [Int.neg_mul]; omega] at e1
  exact e1.sy
def unt (p x : Int) : Prop := ∀ a, md p (a * x) 0 → md p a 0
theorem unt.md {x y : Int} (h : unt p x) (hxy : md p x y) : unt p y := fun a ha => h a ((hxy.mul a).tr ha)
/-- elimination on its way: r rows have pivots, all columns below col are done -/
def EI (p : Int) (c n : Nat) (G0 G : Nat → Nat → Int) (r col : Nat) : Prop := r ≤ c ∧ col ≤ n ∧ spE p c n G0 G ∧ ∃ q : Nat → Nat, (∀ i, i < r → q i < col ∧ unt p (G i (q i))) ∧ (∀ i i', i < r → i < i' → i' < c → md p (G i' (q i)) 0) ∧ ∀ i j, r ≤ i → i < c → j < col → md p (G i j) 0
theorem EI_0 {G : Nat → Nat → Int} : EI p c n G G 0 0 := ⟨Nat.zero_le _, Nat.zero_le _, spE.rf, fun _ => 0, fun i hi => absurd hi (Nat.not_lt_zero _), fun i _ hi => absurd hi (Nat.not_lt_zero _), fun i j _ _ hj => absurd hj (Nat.not_lt_zero _)⟩
theorem EI_no {G0 G : Nat → Nat → Int} {r col : Nat} (h : EI p c n G0 G r col) (hc : col < n) (hz : ∀ i, r ≤ i → i < c → md p (G i col) 0) : EI p c n G0 G r (col + 1) := by
  obtain ⟨h1, h2, h3, q, h4, h5, h6⟩ := h
  refine ⟨h1, hc, h3, q, fun i hi => ⟨by have := (h4 i hi).1; omega, (h4 i hi).2⟩, h5, fun i j hi hic hj => ?_⟩
  by_cases hjc : j = col
  · rw [hjc]; exact hz i hi hic
  · exact h6 i j hi hic (by omega)
theorem EI_yes {G0 G G' : Nat → Nat → Int} {r col s : Nat} {f : Nat → Int} (h : EI p c n G0 G r col) (hc : col < n) (hrc : r < c) (hs1 : r ≤ s) (hs2 : s < c) (hu : unt p (G s col)) (h0 : f r = 0) (hG : ∀ i j, i < c → j < n → md p (G' i j) (swp G r s i j + f i * swp G r s r j)) (hz : ∀ i, r < i → i < c → md p (G' i col) 0) : EI p c n G0 G' (r + 1) (col + 1) := by
  obtain ⟨h1, h2, h3, q, h4, h5, h6⟩ := h
  have e1 : spE p c n G0 G' := (h3.tr (spE_swp (r := r) (s := s) hrc hs2)).tr (spE_op hrc h0 hG)
  have srow : ∀ i, i < r → swp G r s i = G i := fun i hi => by unfold swp; rw [if_neg (by omega), if_neg (by omega)]
  have sr : swp G r s r = G s := by unfold swp; rw [if_pos rfl]
  have sge : ∀ i j, r ≤ i → i < c → j < col → md p (swp G r s i j) 0 := by
    intro i j hi hic hj
    unfold swp
    by_cases a : i = r
    · rw [if_pos a]; exact h6 s j hs1 hs2 hj
    · rw [if_neg a]
      by_cases b : i = s
      · rw [if_pos b]; exact h6 r j (Nat.le_refl _) hrc hj
      · rw [if_neg b]; exact h6 i j hi hic hj
  have old : ∀ i j, i < c → j < col → md p (G' i j) (swp G r s i j) := by
    intro i j hi hj
    have a := hG i j hi (by omega)
    have b := (sge r j (Nat.le_refl _) hrc hj).mul (f i)
    rw [Int.mul_zero] at b
    have d := a.tr ((md.rf (x := swp G r s i j)).add b)
    rw [Int.add_zero] at d
    exact d
  have hr' : ∀ j, j < n → md p (G' r j) (G s j) := fun j hj => by
    have := hG r j hrc hj
    rw [h0, Int.zero_mul, Int.add_zero, sr] at this
    exact this
  refine ⟨hrc, hc, e1, fun i => if i = r then col else q i, fun i hi => ?_, fun i i' hi hii hic => ?_, fun i j hi hic hj => ?_⟩
  · by_cases a : i = r
    · subst a
      show (if i = i then col else q i) < col + 1 ∧ unt p (G' i (if i = i then col else q i))
      rw [if_pos rfl]
      exact ⟨by omega, hu.md (hr' col hc).sy⟩
    · show (if i = r then col else q i) < col + 1 ∧ unt p (G' i (if i = r then col else q i))
      rw [if_neg a]
      have b := h4 i (by omega)
      refine ⟨by omega, b.2.md ?_⟩
      have d := old i (q i) (by omega) b.1
      rw [srow i (by omega)] at d
      exact d.sy
  · show md p (G' i' (if i = r then col else q i)) 0
    by_cases a : i = r
    · rw [if_pos a]
      exact hz i' (by omega) hic
    · rw [if_neg a]
      have b := (h4 i (by omega)).1
      refine (old i' (q i) hic b).tr ?_
      by_cases d : i' < r
      · rw [srow i' d]
        exact h5 i i' (by omega) hii hic
      · exact sge i' (q i) (by omega) hic b
  · by_cases a : j = col
    · rw [a]
      exact hz i (by omega) hic
    · exact (old i j hic (by omega)).tr (sge i j (by omega) hic (by omega))
theorem EI_end {G0 G : Nat → Nat → Int} {r col : Nat} (h : EI p c n G0 G r col) (he : col = n ∨ r = c) : ∃ q, Ech p c n r G q := by
  obtain ⟨h1, h2, h3, q, h4, h5, h6⟩ := h
  refine ⟨q, h1, fun i hi => ⟨by have := (h4 i hi).1; omega, (h4 i hi).2⟩, h5, fun i j hi hic hj => ?_⟩
  rcases he with he | he
  · exact h6 i j hi hic (by omega)
  · omega
end ELI
/-- two eliminations, of a matrix and of the same with its columns moved, come to one rank -/
theorem rank_eq {p c n n' r r' : Nat} {M M' G G' : Nat → Nat → Int} {col col' : Nat} (hp : 2 ≤ p) (hn : n ≤ n') (h : EI p c n M G r col) (he : col = n ∨ r = c) (h' : EI p c n' M' G' r' col') (he' : col' = n' ∨ r' = c) (τ : Nat → Nat) (t1 : ∀ j, j < n → τ j < n) (t2 : ∀ j, j < n → ∃ j', j' < n ∧ τ j' = j) (hM : ∀ i j, i < c → j < n → md p (M' i j) (M i (τ j))) (hO : ∀ i j, i < c → n ≤ j → j < n' → md p (M' i j) 0) : r = r' := by
  obtain ⟨q, hE⟩ := EI_end h he
  obtain ⟨q', hE'⟩ := EI_end h' he'
  have hS := h.2.2.1
  have hS' := h'.2.2.1
  -- columns of M' as those of M
  obtain ⟨N, hN⟩ : ∃ N : Nat → Nat → Int, N = fun i j => if j < n then M i (τ j) else 0 := ⟨_, rfl⟩
  obtain ⟨H, hH⟩ : ∃ H : Nat → Nat → Int, H = fun i j => if j < n then G i (τ j) else 0 := ⟨_, rfl⟩
  have lift : ∀ (A : Nat → Nat → Int) (v : Nat → Int), Sp p c n A v → Sp p c n' (fun i j => if j < n then A i (τ j) else 0) (fun j => if j < n then v (τ j) else 0) := by
    intro A v hv
    obtain ⟨a, ha⟩ := hv
    refine ⟨a, fun j hj => ?_⟩
    by_cases hjn : j < n
    · have := ha (τ j) (t1 j hjn)
      simp only [if_pos hjn]
      exact this
    · simp only [if_neg hjn]
      have : sumI (fun i => a i * 0) c = 0 := by
        rw [smc c (g := fun _ => 0) (fun i _ => Int.mul_zero _), sumI_zero]
      rw [this]
      exact md.rf
  have hNM : spE p c n' N M' := by
    have e : ∀ i j, i < c → j < n' → md p (M' i j) (N i j) := by
      intro i j hi hj
      rw [hN]
      by_cases hjn : j < n
      · simp only [if_pos hjn]; exact hM i j hi hjn
      · simp only [if_neg hjn]; exact hO i j hi (by omega) hj
    exact ⟨fun i hi => Sp_add (f := 0) (Sp_row (G := N) hi) (Sp_row (G := N) hi) (fun j hj => by rw [Int.zero_mul, Int.add_zero]; exact e i j hi hj), fun i hi => Sp_add (f := 0) (Sp_row (G := M') hi) (Sp_row (G := M') hi) (fun j hj => by rw [Int.zero_mul, Int.add_zero]; exact (e i j hi hj).sy)⟩
  have hHN : spE p c n' H N := by
    rw [hH, hN]
    exact ⟨fun i hi => lift G (M i) (hS.2 i hi), fun i hi => lift M (G i) (hS.1 i hi)⟩
  have hall : spE p c n' H G' := (hHN.tr hNM).tr hS'
  have hEH : Ech p c n' r H (fun i => Classical.epsilon (fun j' => j' < n ∧ τ j' = q i)) := by
    have sp : ∀ i, i < r → Classical.epsilon (fun j' => j' < n ∧ τ j' = q i) < n ∧ τ (Classical.epsilon (fun j' => j' < n ∧ τ j' = q i)) = q i := fun i hi => Classical.epsilon_spec (t2 (q i) (hE.2.1 i hi).1)
    rw [hH]
    refine ⟨hE.1, fun i hi => ⟨Nat.lt_of_lt_of_le (sp i hi).1 hn, fun a ha => ?_⟩, fun i i' hi hii hic => ?_, fun i j hi hic hj => ?_⟩
    · simp only [if_pos (sp i hi).1, (sp i hi).2] at ha
      exact (hE.2.1 i hi).2 a ha
    · simp only [if_pos (sp i hi).1, (sp i hi).2]
      exact hE.2.2.1 i i' hi hii hic
    · by_cases hjn : j < n
      · simp only [if_pos hjn]
        exact hE.2.2.2 i (τ j) hi hic (t1 j hjn)
      · simp only [if_neg hjn]
        exact md.rf
  have l1 := rank_le hp hEH hE' (fun i hi => hall.1 i (by have := hE'.1; omega))
  have l2 := rank_le hp hE' hEH (fun i hi => hall.2 i (by have := hEH.1; omega))
  omega
