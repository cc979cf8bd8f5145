/-! how a text of a tangle is read -/
def bt (b : Nat → Int) (N i : Nat) : Int := if i < N then b i else -1
theorem bt_lt {b : Nat → Int} {N i : Nat} {x : Int} (h : bt b N i = x) (hx : x ≠ -1) : i < N := by
  unfold bt at h
  split at h
  · assumption
  · exact absurd h.symm hx
theorem bt_dig {b : Nat → Int} {N i : Nat} (h : 48 ≤ bt b N i) : i < N := by
  unfold bt at h
  split at h
  · assumption
  · exact absurd h (by decide)
/-- modes: 0 a unit, 1 a stack, 2 the rest of a stack, 3 a sum, 4 the rest of a sum; from (i, tokens), o opened, to (j, tokens), and whether it was read -/
def RPc (b : Nat → Int) (N : Nat) (C : Nat → Nat → Nat → (Nat → Int) → Nat → Nat → (Nat → Int) → Nat → Bool → Prop) : Prop :=
  (∀ {i : Nat} {t : Nat → Int} {n : Nat} (h : bt b N i = 40 ∨ bt b N i = 116 ∨ bt b N i = 109), C 0 i 6 t n i t n false) ∧
  (∀ {i : Nat} {o : Nat} {t : Nat → Int} {n : Nat} {j : Nat} {t' : Nat → Int} {n' : Nat} (x : Int) (z : Int) (hx : (x = 116 ∧ z = 13) ∨ (x = 109 ∧ z = 14)) (h : bt b N i = x) (ho : o < 6) (h1 : C 0 (i + 1) (o + 1) t n j t' n' true), C 0 i o t n j (tup t' n' z) (n' + 1) true) ∧
  (∀ {i : Nat} {o : Nat} {t : Nat → Int} {n : Nat} {j : Nat} {t' : Nat → Int} {n' : Nat} (x : Int) (hx : x = 116 ∨ x = 109) (h : bt b N i = x) (ho : o < 6) (h1 : C 0 (i + 1) (o + 1) t n j t' n' false), C 0 i o t n j t' n' false) ∧
  (∀ {i : Nat} {o : Nat} {t : Nat → Int} {n : Nat} {j : Nat} {t' : Nat → Int} {n' : Nat} (h : bt b N i = 40) (ho : o < 6) (h1 : C 3 (i + 1) (o + 1) t n j t' n' true) (hj : bt b N j = 41), C 0 i o t n (j + 1) t' n' true) ∧
  (∀ {i : Nat} {o : Nat} {t : Nat → Int} {n : Nat} {j : Nat} {t' : Nat → Int} {n' : Nat} (h : bt b N i = 40) (ho : o < 6) (h1 : C 3 (i + 1) (o + 1) t n j t' n' true) (hj : bt b N j ≠ 41), C 0 i o t n j t' n' false) ∧
  (∀ {i : Nat} {o : Nat} {t : Nat → Int} {n : Nat} {j : Nat} {t' : Nat → Int} {n' : Nat} (h : bt b N i = 40) (ho : o < 6) (h1 : C 3 (i + 1) (o + 1) t n j t' n' false), C 0 i o t n j t' n' false) ∧
  (∀ {i : Nat} {o : Nat} {t : Nat → Int} {n : Nat} (h : bt b N i = 105), C 0 i o t n (i + 1) (tup t n 10) (n + 1) true) ∧
  (∀ {i : Nat} {o : Nat} {t : Nat → Int} {n : Nat} (h1 : 48 ≤ bt b N i) (h2 : bt b N i ≤ 57), C 0 i o t n (i + 1) (tup t n (bt b N i - 48)) (n + 1) true) ∧
  (∀ {i : Nat} {o : Nat} {t : Nat → Int} {n : Nat} (h : bt b N i = 45) (h1 : 48 ≤ bt b N (i + 1)) (h2 : bt b N (i + 1) ≤ 57), C 0 i o t n (i + 2) (tup t n (48 - bt b N (i + 1))) (n + 1) true) ∧
  (∀ {i : Nat} {o : Nat} {t : Nat → Int} {n : Nat} (h : bt b N i = 45) (h1 : bt b N (i + 1) < 48 ∨ 57 < bt b N (i + 1)), C 0 i o t n (i + 1) t n false) ∧
  (∀ {i : Nat} {o : Nat} {t : Nat → Int} {n : Nat} (h : bt b N i ≠ 40 ∧ bt b N i ≠ 116 ∧ bt b N i ≠ 109 ∧ bt b N i ≠ 105 ∧ bt b N i ≠ 45) (h1 : bt b N i < 48 ∨ 57 < bt b N i), C 0 i o t n i t n false) ∧
  (∀ {i : Nat} {o : Nat} {t : Nat → Int} {n : Nat} {j : Nat} {t' : Nat → Int} {n' : Nat} {k : Nat} {t'' : Nat → Int} {n'' : Nat} {ok : Bool} (h1 : C 0 i o t n j t' n' true) (h2 : C 2 j o t' n' k t'' n'' ok), C 1 i o t n k t'' n'' ok) ∧
  (∀ {i : Nat} {o : Nat} {t : Nat → Int} {n : Nat} {j : Nat} {t' : Nat → Int} {n' : Nat} (h1 : C 0 i o t n j t' n' false), C 1 i o t n j t' n' false) ∧
  (∀ {i : Nat} {o : Nat} {t : Nat → Int} {n : Nat} (h : bt b N i ≠ 42), C 2 i o t n i t n true) ∧
  (∀ {i : Nat} {o : Nat} {t : Nat → Int} {n : Nat} {j : Nat} {t' : Nat → Int} {n' : Nat} {k : Nat} {t'' : Nat → Int} {n'' : Nat} {ok : Bool} (h : bt b N i = 42) (h1 : C 0 (i + 1) o t n j t' n' true) (h2 : C 2 j o (tup t' n' 12) (n' + 1) k t'' n'' ok), C 2 i o t n k t'' n'' ok) ∧
  (∀ {i : Nat} {o : Nat} {t : Nat → Int} {n : Nat} {j : Nat} {t' : Nat → Int} {n' : Nat} (h : bt b N i = 42) (h1 : C 0 (i + 1) o t n j t' n' false), C 2 i o t n j t' n' false) ∧
  (∀ {i : Nat} {o : Nat} {t : Nat → Int} {n : Nat} {j : Nat} {t' : Nat → Int} {n' : Nat} {k : Nat} {t'' : Nat → Int} {n'' : Nat} {ok : Bool} (h1 : C 1 i o t n j t' n' true) (h2 : C 4 j o t' n' k t'' n'' ok), C 3 i o t n k t'' n'' ok) ∧
  (∀ {i : Nat} {o : Nat} {t : Nat → Int} {n : Nat} {j : Nat} {t' : Nat → Int} {n' : Nat} (h1 : C 1 i o t n j t' n' false), C 3 i o t n j t' n' false) ∧
  (∀ {i : Nat} {o : Nat} {t : Nat → Int} {n : Nat} (h : bt b N i ≠ 43), C 4 i o t n i t n true) ∧
  (∀ {i : Nat} {o : Nat} {t : Nat → Int} {n : Nat} {j : Nat} {t' : Nat → Int} {n' : Nat} {k : Nat} {t'' : Nat → Int} {n'' : Nat} {ok : Bool} (h : bt b N i = 43) (h1 : C 1 (i + 1) o t n j t' n' true) (h2 : C 4 j o (tup t' n' 11) (n' + 1) k t'' n'' ok), C 4 i o t n k t'' n'' ok) ∧
  (∀ {i : Nat} {o : Nat} {t : Nat → Int} {n : Nat} {j : Nat} {t' : Nat → Int} {n' : Nat} (h : bt b N i = 43) (h1 : C 1 (i + 1) o t n j t' n' false), C 4 i o t n j t' n' false)
def RP (b : Nat → Int) (N : Nat) (md i o : Nat) (t : Nat → Int) (n j : Nat) (t' : Nat → Int) (n' : Nat) (ok : Bool) : Prop := ∀ C : Nat → Nat → Nat → (Nat → Int) → Nat → Nat → (Nat → Int) → Nat → Bool → Prop, RPc b N C → C md i o t n j t' n' ok
section RPS
variable {b : Nat → Int} {N : Nat}
theorem RP.uF {i : Nat} {t : Nat → Int} {n : Nat} (h : bt b N i = 40 ∨ bt b N i = 116 ∨ bt b N i = 109) : RP b N 0 i 6 t n i t n false := fun C hC => hC.1 h
theorem RP.uT {i : Nat} {o : Nat} {t : Nat → Int} {n : Nat} {j : Nat} {t' : Nat → Int} {n' : Nat} (x : Int) (z : Int) (hx : (x = 116 ∧ z = 13) ∨ (x = 109 ∧ z = 14)) (h : bt b N i = x) (ho : o < 6) (h1 : RP b N 0 (i + 1) (o + 1) t n j t' n' true) : RP b N 0 i o t n j (tup t' n' z) (n' + 1) true := fun C hC => hC.2.1 x z hx h ho (h1 C hC)
theorem RP.uTf {i : Nat} {o : Nat} {t : Nat → Int} {n : Nat} {j : Nat} {t' : Nat → Int} {n' : Nat} (x : Int) (hx : x = 116 ∨ x = 109) (h : bt b N i = x) (ho : o < 6) (h1 : RP b N 0 (i + 1) (o + 1) t n j t' n' false) : RP b N 0 i o t n j t' n' false := fun C hC => hC.2.2.1 x hx h ho (h1 C hC)
theorem RP.uP {i : Nat} {o : Nat} {t : Nat → Int} {n : Nat} {j : Nat} {t' : Nat → Int} {n' : Nat} (h : bt b N i = 40) (ho : o < 6) (h1 : RP b N 3 (i + 1) (o + 1) t n j t' n' true) (hj : bt b N j = 41) : RP b N 0 i o t n (j + 1) t' n' true := fun C hC => hC.2.2.2.1 h ho (h1 C hC) hj
theorem RP.uPf {i : Nat} {o : Nat} {t : Nat → Int} {n : Nat} {j : Nat} {t' : Nat → Int} {n' : Nat} (h : bt b N i = 40) (ho : o < 6) (h1 : RP b N 3 (i + 1) (o + 1) t n j t' n' true) (hj : bt b N j ≠ 41) : RP b N 0 i o t n j t' n' false := fun C hC => hC.2.2.2.2.1 h ho (h1 C hC) hj
theorem RP.uPg {i : Nat} {o : Nat} {t : Nat → Int} {n : Nat} {j : Nat} {t' : Nat → Int} {n' : Nat} (h : bt b N i = 40) (ho : o < 6) (h1 : RP b N 3 (i + 1) (o + 1) t n j t' n' false) : RP b N 0 i o t n j t' n' false := fun C hC => hC.2.2.2.2.2.1 h ho (h1 C hC)
theorem RP.uI {i : Nat} {o : Nat} {t : Nat → Int} {n : Nat} (h : bt b N i = 105) : RP b N 0 i o t n (i + 1) (tup t n 10) (n + 1) true := fun C hC => hC.2.2.2.2.2.2.1 h
theorem RP.uD {i : Nat} {o : Nat} {t : Nat → Int} {n : Nat} (h1 : 48 ≤ bt b N i) (h2 : bt b N i ≤ 57) : RP b N 0 i o t n (i + 1) (tup t n (bt b N i - 48)) (n + 1) true := fun C hC => hC.2.2.2.2.2.2.2.1 h1 h2
theorem RP.uN {i : Nat} {o : Nat} {t : Nat → Int} {n : Nat} (h : bt b N i = 45) (h1 : 48 ≤ bt b N (i + 1)) (h2 : bt b N (i + 1) ≤ 57) : RP b N 0 i o t n (i + 2) (tup t n (48 - bt b N (i + 1))) (n + 1) true := fun C hC => hC.2.2.2.2.2.2.2.2.1 h h1 h2
theorem RP.uNf {i : Nat} {o : Nat} {t : Nat → Int} {n : Nat} (h : bt b N i = 45) (h1 : bt b N (i + 1) < 48 ∨ 57 < bt b N (i + 1)) : RP b N 0 i o t n (i + 1) t n false := fun C hC => hC.2.2.2.2.2.2.2.2.2.1 h h1
theorem RP.uX {i : Nat} {o : Nat} {t : Nat → Int} {n : Nat} (h : bt b N i ≠ 40 ∧ bt b N i ≠ 116 ∧ bt b N i ≠ 109 ∧ bt b N i ≠ 105 ∧ bt b N i ≠ 45) (h1 : bt b N i < 48 ∨ 57 < bt b N i) : RP b N 0 i o t n i t n false := fun C hC => hC.2.2.2.2.2.2.2.2.2.2.1 h h1
theorem RP.s {i : Nat} {o : Nat} {t : Nat → Int} {n : Nat} {j : Nat} {t' : Nat → Int} {n' : Nat} {k : Nat} {t'' : Nat → Int} {n'' : Nat} {ok : Bool} (h1 : RP b N 0 i o t n j t' n' true) (h2 : RP b N 2 j o t' n' k t'' n'' ok) : RP b N 1 i o t n k t'' n'' ok := fun C hC => hC.2.2.2.2.2.2.2.2.2.2.2.1 (h1 C hC) (h2 C hC)
theorem RP.sf {i : Nat} {o : Nat} {t : Nat → Int} {n : Nat} {j : Nat} {t' : Nat → Int} {n' : Nat} (h1 : RP b N 0 i o t n j t' n' false) : RP b N 1 i o t n j t' n' false := fun C hC => hC.2.2.2.2.2.2.2.2.2.2.2.2.1 (h1 C hC)
theorem RP.l0 {i : Nat} {o : Nat} {t : Nat → Int} {n : Nat} (h : bt b N i ≠ 42) : RP b N 2 i o t n i t n true := fun C hC => hC.2.2.2.2.2.2.2.2.2.2.2.2.2.1 h
theorem RP.l1 {i : Nat} {o : Nat} {t : Nat → Int} {n : Nat} {j : Nat} {t' : Nat → Int} {n' : Nat} {k : Nat} {t'' : Nat → Int} {n'' : Nat} {ok : Bool} (h : bt b N i = 42) (h1 : RP b N 0 (i + 1) o t n j t' n' true) (h2 : RP b N 2 j o (tup t' n' 12) (n' + 1) k t'' n'' ok) : RP b N 2 i o t n k t'' n'' ok := fun C hC => hC.2.2.2.2.2.2.2.2.2.2.2.2.2.2.1 h (h1 C hC) (h2 C hC)
theorem RP.lf {i : Nat} {o : Nat} {t : Nat → Int} {n : Nat} {j : Nat} {t' : Nat → Int} {n' : Nat} (h : bt b N i = 42) (h1 : RP b N 0 (i + 1) o t n j t' n' false) : RP b N 2 i o t n j t' n' false := fun C hC => hC.2.2.2.2.2.2.2.2.2.2.2.2.2.2.2.1 h (h1 C hC)
theorem RP.a {i : Nat} {o : Nat} {t : Nat → Int} {n : Nat} {j : Nat} {t' : Nat → Int} {n' : Nat} {k : Nat} {t'' : Nat → Int} {n'' : Nat} {ok : Bool} (h1 : RP b N 1 i o t n j t' n' true) (h2 : RP b N 4 j o t' n' k t'' n'' ok) : RP b N 3 i o t n k t'' n'' ok := fun C hC => hC.2.2.2.2.2.2.2.2.2.2.2.2.2.2.2.2.1 (h1 C hC) (h2 C hC)
theorem RP.af {i : Nat} {o : Nat} {t : Nat → Int} {n : Nat} {j : Nat} {t' : Nat → Int} {n' : Nat} (h1 : RP b N 1 i o t n j t' n' false) : RP b N 3 i o t n j t' n' false := fun C hC => hC.2.2.2.2.2.2.2.2.2.2.2.2.2.2.2.2.2.1 (h1 C hC)
theorem RP.m0 {i : Nat} {o : Nat} {t : Nat → Int} {n : Nat} (h : bt b N i ≠ 43) : RP b N 4 i o t n i t n true := fun C hC => hC.2.2.2.2.2.2.2.2.2.2.2.2.2.2.2.2.2.2.1 h
theorem RP.m1 {i : Nat} {o : Nat} {t : Nat → Int} {n : Nat} {j : Nat} {t' : Nat → Int} {n' : Nat} {k : Nat} {t'' : Nat → Int} {n'' : Nat} {ok : Bool} (h : bt b N i = 43) (h1 : RP b N 1 (i + 1) o t n j t' n' true) (h2 : RP b N 4 j o (tup t' n' 11) (n' + 1) k t'' n'' ok) : RP b N 4 i o t n k t'' n'' ok := fun C hC => hC.2.2.2.2.2.2.2.2.2.2.2.2.2.2.2.2.2.2.2.1 h (h1 C hC) (h2 C hC)
theorem RP.mf {i : Nat} {o : Nat} {t : Nat → Int} {n : Nat} {j : Nat} {t' : Nat → Int} {n' : Nat} (h : bt b N i = 43) (h1 : RP b N 1 (i + 1) o t n j t' n' false) : RP b N 4 i o t n j t' n' false := fun C hC => hC.2.2.2.2.2.2.2.2.2.2.2.2.2.2.2.2.2.2.2.2 h (h1 C hC)
theorem RP.ind {motive : ∀ (md i o : Nat) (t : Nat → Int) (n j : Nat) (t' : Nat → Int) (n' : Nat) (ok : Bool), RP b N md i o t n j t' n' ok → Prop}
    (uF : ∀ {i : Nat} {t : Nat → Int} {n : Nat} (h : bt b N i = 40 ∨ bt b N i = 116 ∨ bt b N i = 109) , motive 0 i 6 t n i t n false (RP.uF h))
    (uT : ∀ {i : Nat} {o : Nat} {t : Nat → Int} {n : Nat} {j : Nat} {t' : Nat → Int} {n' : Nat} (x : Int) (z : Int) (hx : (x = 116 ∧ z = 13) ∨ (x = 109 ∧ z = 14)) (h : bt b N i = x) (ho : o < 6) (h1 : RP b N 0 (i + 1) (o + 1) t n j t' n' true) (ih1 : motive 0 (i + 1) (o + 1) t n j t' n' true h1), motive 0 i o t n j (tup t' n' z) (n' + 1) true (RP.uT x z hx h ho h1))
    (uTf : ∀ {i : Nat} {o : Nat} {t : Nat → Int} {n : Nat} {j : Nat} {t' : Nat → Int} {n' : Nat} (x : Int) (hx : x = 116 ∨ x = 109) (h : bt b N i = x) (ho : o < 6) (h1 : RP b N 0 (i + 1) (o + 1) t n j t' n' false) (ih1 : motive 0 (i + 1) (o + 1) t n j t' n' false h1), motive 0 i o t n j t' n' false (RP.uTf x hx h ho h1))
    (uP : ∀ {i : Nat} {o : Nat} {t : Nat → Int} {n : Nat} {j : Nat} {t' : Nat → Int} {n' : Nat} (h : bt b N i = 40) (ho : o < 6) (h1 : RP b N 3 (i + 1) (o + 1) t n j t' n' true) (hj : bt b N j = 41) (ih1 : motive 3 (i + 1) (o + 1) t n j t' n' true h1), motive 0 i o t n (j + 1) t' n' true (RP.uP h ho h1 hj))
    (uPf : ∀ {i : Nat} {o : Nat} {t : Nat → Int} {n : Nat} {j : Nat} {t' : Nat → Int} {n' : Nat} (h : bt b N i = 40) (ho : o < 6) (h1 : RP b N 3 (i + 1) (o + 1) t n j t' n' true) (hj : bt b N j ≠ 41) (ih1 : motive 3 (i + 1) (o + 1) t n j t' n' true h1), motive 0 i o t n j t' n' false (RP.uPf h ho h1 hj))
    (uPg : ∀ {i : Nat} {o : Nat} {t : Nat → Int} {n : Nat} {j : Nat} {t' : Nat → Int} {n' : Nat} (h : bt b N i = 40) (ho : o < 6) (h1 : RP b N 3 (i + 1) (o + 1) t n j t' n' false) (ih1 : motive 3 (i + 1) (o + 1) t n j t' n' false h1), motive 0 i o t n j t' n' false (RP.uPg h ho h1))
    (uI : ∀ {i : Nat} {o : Nat} {t : Nat → Int} {n : Nat} (h : bt b N i = 105) , motive 0 i o t n (i + 1) (tup t n 10) (n + 1) true (RP.uI h))
    (uD : ∀ {i : Nat} {o : Nat} {t : Nat → Int} {n : Nat} (h1 : 48 ≤ bt b N i) (h2 : bt b N i ≤ 57) , motive 0 i o t n (i + 1) (tup t n (bt b N i - 48)) (n + 1) true (RP.uD h1 h2))
    (uN : ∀ {i : Nat} {o : Nat} {t : Nat → Int} {n : Nat} (h : bt b N i = 45) (h1 : 48 ≤ bt b N (i + 1)) (h2 : bt b N (i + 1) ≤ 57) , motive 0 i o t n (i + 2) (tup t n (48 - bt b N (i + 1))) (n + 1) true (RP.uN h h1 h2))
    (uNf : ∀ {i : Nat} {o : Nat} {t : Nat → Int} {n : Nat} (h : bt b N i = 45) (h1 : bt b N (i + 1) < 48 ∨ 57 < bt b N (i + 1)) , motive 0 i o t n (i + 1) t n false (RP.uNf h h1))
    (uX : ∀ {i : Nat} {o : Nat} {t : Nat → Int} {n : Nat} (h : bt b N i ≠ 40 ∧ bt b N i ≠ 116 ∧ bt b N i ≠ 109 ∧ bt b N i ≠ 105 ∧ bt b N i ≠ 45) (h1 : bt b N i < 48 ∨ 57 < bt b N i) , motive 0 i o t n i t n false (RP.uX h h1))
    (s : ∀ {i : Nat} {o : Nat} {t : Nat → Int} {n : Nat} {j : Nat} {t' : Nat → Int} {n' : Nat} {k : Nat} {t'' : Nat → Int} {n'' : Nat} {ok : Bool} (h1 : RP b N 0 i o t n j t' n' true) (h2 : RP b N 2 j o t' n' k t'' n'' ok) (ih1 : motive 0 i o t n j t' n' true h1) (ih2 : motive 2 j o t' n' k t'' n'' ok h2), motive 1 i o t n k t'' n'' ok (RP.s h1 h2))
    (sf : ∀ {i : Nat} {o : Nat} {t : Nat → Int} {n : Nat} {j : Nat} {t' : Nat → Int} {n' : Nat} (h1 : RP b N 0 i o t n j t' n' false) (ih1 : motive 0 i o t n j t' n' false h1), motive 1 i o t n j t' n' false (RP.sf h1))
    (l0 : ∀ {i : Nat} {o : Nat} {t : Nat → Int} {n : Nat} (h : bt b N i ≠ 42) , motive 2 i o t n i t n true (RP.l0 h))
    (l1 : ∀ {i : Nat} {o : Nat} {t : Nat → Int} {n : Nat} {j : Nat} {t' : Nat → Int} {n' : Nat} {k : Nat} {t'' : Nat → Int} {n'' : Nat} {ok : Bool} (h : bt b N i = 42) (h1 : RP b N 0 (i + 1) o t n j t' n' true) (h2 : RP b N 2 j o (tup t' n' 12) (n' + 1) k t'' n'' ok) (ih1 : motive 0 (i + 1) o t n j t' n' true h1) (ih2 : motive 2 j o (tup t' n' 12) (n' + 1) k t'' n'' ok h2), motive 2 i o t n k t'' n'' ok (RP.l1 h h1 h2))
    (lf : ∀ {i : Nat} {o : Nat} {t : Nat → Int} {n : Nat} {j : Nat} {t' : Nat → Int} {n' : Nat} (h : bt b N i = 42) (h1 : RP b N 0 (i + 1) o t n j t' n' false) (ih1 : motive 0 (i + 1) o t n j t' n' false h1), motive 2 i o t n j t' n' false (RP.lf h h1))
    (a : ∀ {i : Nat} {o : Nat} {t : Nat → Int} {n : Nat} {j : Nat} {t' : Nat → Int} {n' : Nat} {k : Nat} {t'' : Nat → Int} {n'' : Nat} {ok : Bool} (h1 : RP b N 1 i o t n j t' n' true) (h2 : RP b N 4 j o t' n' k t'' n'' ok) (ih1 : motive 1 i o t n j t' n' true h1) (ih2 : motive 4 j o t' n' k t'' n'' ok h2), motive 3 i o t n k t'' n'' ok (RP.a h1 h2))
    (af : ∀ {i : Nat} {o : Nat} {t : Nat → Int} {n : Nat} {j : Nat} {t' : Nat → Int} {n' : Nat} (h1 : RP b N 1 i o t n j t' n' false) (ih1 : motive 1 i o t n j t' n' false h1), motive 3 i o t n j t' n' false (RP.af h1))
    (m0 : ∀ {i : Nat} {o : Nat} {t : Nat → Int} {n : Nat} (h : bt b N i ≠ 43) , motive 4 i o t n i t n true (RP.m0 h))
    (m1 : ∀ {i : Nat} {o : Nat} {t : Nat → Int} {n : Nat} {j : Nat} {t' : Nat → Int} {n' : Nat} {k : Nat} {t'' : Nat → Int} {n'' : Nat} {ok : Bool} (h : bt b N i = 43) (h1 : RP b N 1 (i + 1) o t n j t' n' true) (h2 : RP b N 4 j o (tup t' n' 11) (n' + 1) k t'' n'' ok) (ih1 : motive 1 (i + 1) o t n j t' n' true h1) (ih2 : motive 4 j o (tup t' n' 11) (n' + 1) k t'' n'' ok h2), motive 4 i o t n k t'' n'' ok (RP.m1 h h1 h2))
    (mf : ∀ {i : Nat} {o : Nat} {t : Nat → Int} {n : Nat} {j : Nat} {t' : Nat → Int} {n' : Nat} (h : bt b N i = 43) (h1 : RP b N 1 (i + 1) o t n j t' n' false) (ih1 : motive 1 (i + 1) o t n j t' n' false h1), motive 4 i o t n j t' n' false (RP.mf h h1))
    {md i o : Nat} {t : Nat → Int} {n j : Nat} {t' : Nat → Int} {n' : Nat} {ok : Bool} (h : RP b N md i o t n j t' n' ok) : motive md i o t n j t' n' ok h := by
  obtain ⟨h', q⟩ := h (fun md i o t n j t' n' ok => ∃ h : RP b N md i o t n j t' n' ok, motive md i o t n j t' n' ok h) ⟨fun h => ⟨RP.uF h, uF h ⟩,
    fun x z hx h ho ⟨h1, ih1⟩ => ⟨RP.uT x z hx h ho h1, uT x z hx h ho h1 ih1⟩,
    fun x hx h ho ⟨h1, ih1⟩ => ⟨RP.uTf x hx h ho h1, uTf x hx h ho h1 ih1⟩,
    fun h ho ⟨h1, ih1⟩ hj => ⟨RP.uP h ho h1 hj, uP h ho h1 hj ih1⟩,
    fun h ho ⟨h1, ih1⟩ hj => ⟨RP.uPf h ho h1 hj, uPf h ho h1 hj ih1⟩,
    fun h ho ⟨h1, ih1⟩ => ⟨RP.uPg h ho h1, uPg h ho h1 ih1⟩,
    fun h => ⟨RP.uI h, uI h ⟩,
    fun h1 h2 => ⟨RP.uD h1 h2, uD h1 h2 ⟩,
    fun h h1 h2 => ⟨RP.uN h h1 h2, uN h h1 h2 ⟩,
    fun h h1 => ⟨RP.uNf h h1, uNf h h1 ⟩,
    fun h h1 => ⟨RP.uX h h1, uX h h1 ⟩,
    fun ⟨h1, ih1⟩ ⟨h2, ih2⟩ => ⟨RP.s h1 h2, s h1 h2 ih1 ih2⟩,
    fun ⟨h1, ih1⟩ => ⟨RP.sf h1, sf h1 ih1⟩,
    fun h => ⟨RP.l0 h, l0 h ⟩,
    fun h ⟨h1, ih1⟩ ⟨h2, ih2⟩ => ⟨RP.l1 h h1 h2, l1 h h1 h2 ih1 ih2⟩,
    fun h ⟨h1, ih1⟩ => ⟨RP.lf h h1, lf h h1 ih1⟩,
    fun ⟨h1, ih1⟩ ⟨h2, ih2⟩ => ⟨RP.a h1 h2, a h1 h2 ih1 ih2⟩,
    fun ⟨h1, ih1⟩ => ⟨RP.af h1, af h1 ih1⟩,
    fun h => ⟨RP.m0 h, m0 h ⟩,
    fun h ⟨h1, ih1⟩ ⟨h2, ih2⟩ => ⟨RP.m1 h h1 h2, m1 h h1 h2 ih1 ih2⟩,
    fun h ⟨h1, ih1⟩ => ⟨RP.mf h h1, mf h h1 ih1⟩⟩
  exact q
end RPS
/-- where it comes to -/
theorem RP.pos {b : Nat → Int} {N md i o : Nat} {t : Nat → Int} {n j : Nat} {t' : Nat → Int} {n' : Nat} {ok : Bool} (h : RP b N md i o t n j t' n' ok) (hi : i ≤ N) : i ≤ j ∧ j ≤ N ∧ (ok = true → n' + i ≤ n + j) ∧ (ok = true → md = 0 ∨ md = 1 ∨ md = 3 → i < j) := by
  induction h using RP.ind with
  | uF h => exact ⟨Nat.le_refl _, hi, fun q => (by cases q), fun q => (by cases q)⟩
  | uT x z hx h ho h1 ih =>
    have := bt_lt h (by omega)
    have := ih (by omega)
    simp only [true_implies] at *
    omega
  | uTf x hx h ho h1 ih =>
    have := bt_lt h (by omega)
    have := ih (by omega)
    exact ⟨by omega, by omega, fun q => (by cases q), fun q => (by cases q)⟩
  | uP h ho h1 hj ih =>
    have := bt_lt h (by omega)
    have := ih (by omega)
    have := bt_lt hj (by omega)
    simp only [true_implies] at *
    omega
  | uPf h ho h1 hj ih =>
    have := bt_lt h (by omega)
    have := ih (by omega)
    exact ⟨by omega, by omega, fun q => (by cases q), fun q => (by cases q)⟩
  | uPg h ho h1 ih =>
    have := bt_lt h (by omega)
    have := ih (by omega)
    exact ⟨by omega, by omega, fun q => (by cases q), fun q => (by cases q)⟩
  | uI h =>
    have := bt_lt h (by omega)
    omega
  | uD h1 h2 =>
    have := bt_dig h1
    omega
  | uN h h1 h2 =>
    have := bt_dig h1
    omega
  | uNf h h1 =>
    have := bt_lt h (by omega)
    exact ⟨by omega, by omega, fun q => (by cases q), fun q => (by cases q)⟩
  | uX h h1 => exact ⟨Nat.le_refl _, hi, fun q => (by cases q), fun q => (by cases q)⟩
  | s h1 h2 ih1 ih2 =>
    have a := ih1 hi
    have c := ih2 a.2.1
    have a4 := a.2.2.2 rfl (Or.inl rfl)
    have a3 := a.2.2.1 rfl
    exact ⟨by omega, by omega, fun q => (by have := c.2.2.1 q; omega), fun _ _ => by omega⟩
  | sf h1 ih =>
    have := ih hi
    exact ⟨by omega, by omega, fun q => (by cases q), fun q => (by cases q)⟩
  | l0 h => exact ⟨Nat.le_refl _, hi, fun _ => Nat.le_refl _, fun _ q => by omega⟩
  | l1 h h1 h2 ih1 ih2 =>
    have := bt_lt h (by omega)
    have a := ih1 (by omega)
    have c := ih2 a.2.1
    have a3 := a.2.2.1 rfl
    exact ⟨by omega, by omega, fun q => (by have := c.2.2.1 q; omega), fun _ q => by omega⟩
  | lf h h1 ih =>
    have := bt_lt h (by omega)
    have := ih (by omega)
    exact ⟨by omega, by omega, fun q => (by cases q), fun q => (by cases q)⟩
  | a h1 h2 ih1 ih2 =>
    have a := ih1 hi
    have c := ih2 a.2.1
    have a4 := a.2.2.2 rfl (Or.inr (Or.inl rfl))
    have a3 := a.2.2.1 rfl
    exact ⟨by omega, by omega, fun q => (by have := c.2.2.1 q; omega), fun _ _ => by omega⟩
  | af h1 ih =>
    have := ih hi
    exact ⟨by omega, by omega, fun q => (by cases q), fun q => (by cases q)⟩
  | m0 h => exact ⟨Nat.le_refl _, hi, fun _ => Nat.le_refl _, fun _ q => by omega⟩
  | m1 h h1 h2 ih1 ih2 =>
    have := bt_lt h (by omega)
    have a := ih1 (by omega)
    have c := ih2 a.2.1
    have a3 := a.2.2.1 rfl
    exact ⟨by omega, by omega, fun q => (by have := c.2.2.1 q; omega), fun _ q => by omega⟩
  | mf h h1 ih =>
    have := bt_lt h (by omega)
    have := ih (by omega)
    exact ⟨by omega, by omega, fun q => (by cases q), fun q => (by cases q)⟩
/-- what stands after it -/
theorem RP.nxt {b : Nat → Int} {N md i o : Nat} {t : Nat → Int} {n j : Nat} {t' : Nat → Int} {n' : Nat} {ok : Bool} (h : RP b N md i o t n j t' n' ok) (hk : ok = true) : (md = 1 ∨ md = 2 → bt b N j ≠ 42) ∧ (md = 3 → bt b N j ≠ 42 ∧ bt b N j ≠ 43) ∧ (md = 4 → bt b N i ≠ 42 → bt b N j ≠ 42 ∧ bt b N j ≠ 43) := by
  induction h using RP.ind with
  | s h1 h2 ih1 ih2 => exact ⟨fun _ => (ih2 hk).1 (Or.inr rfl), by omega, by omega⟩
  | l0 h => exact ⟨fun _ => h, by omega, by omega⟩
  | l1 h h1 h2 ih1 ih2 => exact ⟨fun _ => (ih2 hk).1 (Or.inr rfl), by omega, by omega⟩
  | a h1 h2 ih1 ih2 => exact ⟨by omega, fun _ => (ih2 hk).2.2 rfl ((ih1 rfl).1 (Or.inl rfl)), by omega⟩
  | m0 h => exact ⟨by omega, by omega, fun _ q => ⟨q, h⟩⟩
  | m1 h h1 h2 ih1 ih2 => exact ⟨by omega, by omega, fun _ _ => (ih2 hk).2.2 rfl ((ih1 rfl).1 (Or.inl rfl))⟩
  | _ => first | (exact absurd hk (by decide)) | (exact ⟨by omega, by omega, by omega⟩)
theorem up_h {t : Nat → Int} {n h : Nat} {z : Int} (hz : z = 11 ∨ z = 12) (a : (ev t n).1 = h + 1) : (ev (tup t n z) (n + 1)).1 = h := by
  rw [ev_tup1, evStep_h, if_neg (by omega), if_pos (by omega), a]
  rfl
/-- the tokens have what they need -/
theorem RP.tok {b : Nat → Int} {N md i o : Nat} {t : Nat → Int} {n j : Nat} {t' : Nat → Int} {n' : Nat} {ok : Bool} (h : RP b N md i o t n j t' n' ok) (hk : ok = true) : okT t n → (md = 2 ∨ md = 4 → 1 ≤ (ev t n).1) → okT t' n' ∧ (ev t' n').1 = (if md = 2 ∨ md = 4 then (ev t n).1 else (ev t n).1 + 1) := by
  induction h using RP.ind with
  | uT x z hx h ho h1 ih =>
    intro h2 _
    obtain ⟨a1, a2⟩ := ih rfl h2 (by omega)
    rw [if_neg (by omega)] at a2
    refine ⟨okT_tup a1 (by omega) (by omega) (by omega) (by omega), ?_⟩
    rw [ev_tup1, evStep_h, if_neg (by omega), if_neg (by omega), a2, if_neg (by omega)]
  | uP h ho h1 hj ih =>
    intro h2 _
    obtain ⟨a1, a2⟩ := ih rfl h2 (by omega)
    rw [if_neg (by omega)] at a2
    exact ⟨a1, by rw [a2, if_neg (by omega)]⟩
  | uI h =>
    intro h2 _
    refine ⟨okT_tup h2 (by omega) (by omega) (by omega) (by omega), ?_⟩
    rw [ev_tup1, evStep_h, if_pos (by omega), if_neg (by omega)]
  | uD h1 h3 =>
    intro h2 _
    refine ⟨okT_tup h2 (by omega) (by omega) (by omega) (by omega), ?_⟩
    rw [ev_tup1, evStep_h, if_pos (by omega), if_neg (by omega)]
  | uN h h1 h3 =>
    intro h2 _
    refine ⟨okT_tup h2 (by omega) (by omega) (by omega) (by omega), ?_⟩
    rw [ev_tup1, evStep_h, if_pos (by omega), if_neg (by omega)]
  | s h1 h2 ih1 ih2 =>
    intro h3 _
    obtain ⟨a1, a2⟩ := ih1 rfl h3 (by omega)
    rw [if_neg (by omega)] at a2
    obtain ⟨c1, c2⟩ := ih2 hk a1 (by omega)
    rw [if_pos (by omega)] at c2
    exact ⟨c1, by rw [c2, a2, if_neg (by omega)]⟩
  | l0 h => intro h2 _; exact ⟨h2, by rw [if_pos (by omega)]⟩
  | l1 h h1 h2 ih1 ih2 =>
    intro h3 h4
    have h5 := h4 (by omega)
    obtain ⟨a1, a2⟩ := ih1 rfl h3 (by omega)
    rw [if_neg (by omega)] at a2
    have k1 := okT_tup (z := 12) a1 (by omega) (by omega) (by omega) (by omega)
    have k2 := up_h (z := 12) (by omega) a2
    obtain ⟨c1, c2⟩ := ih2 hk k1 (by omega)
    rw [if_pos (by omega)] at c2
    exact ⟨c1, by rw [c2, k2, if_pos (by omega)]⟩
  | a h1 h2 ih1 ih2 =>
    intro h3 _
    obtain ⟨a1, a2⟩ := ih1 rfl h3 (by omega)
    rw [if_neg (by omega)] at a2
    obtain ⟨c1, c2⟩ := ih2 hk a1 (by omega)
    rw [if_pos (by omega)] at c2
    exact ⟨c1, by rw [c2, a2, if_neg (by omega)]⟩
  | m0 h => intro h2 _; exact ⟨h2, by rw [if_pos (by omega)]⟩
  | m1 h h1 h2 ih1 ih2 =>
    intro h3 h4
    have h5 := h4 (by omega)
    obtain ⟨a1, a2⟩ := ih1 rfl h3 (by omega)
    rw [if_neg (by omega)] at a2
    have k1 := okT_tup (z := 11) a1 (by omega) (by omega) (by omega) (by omega)
    have k2 := up_h (z := 11) (by omega) a2
    obtain ⟨c1, c2⟩ := ih2 hk k1 (by omega)
    rw [if_pos (by omega)] at c2
    exact ⟨c1, by rw [c2, k2, if_pos (by omega)]⟩
  | _ => exact absurd hk (by decide)
/-- every text comes to something -/
theorem RP.ex (b : Nat → Int) (N : Nat) : ∀ (k i : Nat), i ≤ N → N < i + k → ∀ (o : Nat) (t : Nat → Int) (n : Nat), o ≤ 6 → ∀ md, md ≤ 4 → ∃ j t' n' ok, RP b N md i o t n j t' n' ok := by
  intro k
  induction k with
  | zero => intro i h1 h2; omega
  | succ k ih =>
    intro i hi hk
    have U : ∀ (o : Nat) (t : Nat → Int) (n : Nat), o ≤ 6 → ∃ j t' n' ok, RP b N 0 i o t n j t' n' ok := by
      intro o t n ho
      by_cases h0 : bt b N i = 40 ∨ bt b N i = 116 ∨ bt b N i = 109
      · by_cases h6 : o = 6
        · subst h6
          exact ⟨_, _, _, _, .uF h0⟩
        · have hlt : i < N := by rcases h0 with h | h | h <;> exact bt_lt h (by decide)
          by_cases h4 : bt b N i = 40
          · obtain ⟨j, t', n', ok, h⟩ := ih (i + 1) (by omega) (by omega) (o + 1) t n (by omega) 3 (by omega)
            cases ok with
            | false => exact ⟨_, _, _, _, .uPg h4 (by omega) h⟩
            | true =>
              by_cases hj : bt b N j = 41
              · exact ⟨_, _, _, _, .uP h4 (by omega) h hj⟩
              · exact ⟨_, _, _, _, .uPf h4 (by omega) h hj⟩
          · have h0' := h0.resolve_left h4
            obtain ⟨j, t', n', ok, h⟩ := ih (i + 1) (by omega) (by omega) (o + 1) t n (by omega) 0 (by omega)
            cases ok with
            | false => exact ⟨_, _, _, _, .uTf _ h0' rfl (by omega) h⟩
            | true =>
              rcases h0' with h0' | h0'
              · exact ⟨_, _, _, _, .uT 116 13 (by omega) h0' (by omega) h⟩
              · exact ⟨_, _, _, _, .uT 109 14 (by omega) h0' (by omega) h⟩
      · by_cases h5 : bt b N i = 105
        · exact ⟨_, _, _, _, .uI h5⟩
        · by_cases h6 : bt b N i = 45
          · by_cases h7 : 48 ≤ bt b N (i + 1) ∧ bt b N (i + 1) ≤ 57
            · exact ⟨_, _, _, _, .uN h6 h7.1 h7.2⟩
            · exact ⟨_, _, _, _, .uNf h6 (by omega)⟩
          · by_cases h7 : 48 ≤ bt b N i ∧ bt b N i ≤ 57
            · exact ⟨_, _, _, _, .uD h7.1 h7.2⟩
            · exact ⟨_, _, _, _, .uX (by omega) (by omega)⟩
    have S2 : ∀ (o : Nat) (t : Nat → Int) (n : Nat), o ≤ 6 → ∃ j t' n' ok, RP b N 2 i o t n j t' n' ok := by
      intro o t n ho
      by_cases h0 : bt b N i = 42
      · have hlt := bt_lt h0 (by decide)
        obtain ⟨j, t', n', ok, h⟩ := ih (i + 1) (by omega) (by omega) o t n ho 0 (by omega)
        cases ok with
        | false => exact ⟨_, _, _, _, .lf h0 h⟩
        | true =>
          have hp := h.pos (by omega)
          obtain ⟨j2, t2, n2, ok2, h2⟩ := ih j (by omega) (by omega) o (tup t' n' 12) (n' + 1) ho 2 (by omega)
          exact ⟨_, _, _, _, .l1 h0 h h2⟩
      · exact ⟨_, _, _, _, .l0 h0⟩
    have S1 : ∀ (o : Nat) (t : Nat → Int) (n : Nat), o ≤ 6 → ∃ j t' n' ok, RP b N 1 i o t n j t' n' ok := by
      intro o t n ho
      obtain ⟨j, t', n', ok, h⟩ := U o t n ho
      cases ok with
      | false => exact ⟨_, _, _, _, .sf h⟩
      | true =>
        have hp := h.pos hi
        have hp2 := hp.2.2.2 rfl (Or.inl rfl)
        obtain ⟨j2, t2, n2, ok2, h2⟩ := ih j (by omega) (by omega) o t' n' ho 2 (by omega)
        exact ⟨_, _, _, _, .s h h2⟩
    have S4 : ∀ (o : Nat) (t : Nat → Int) (n : Nat), o ≤ 6 → ∃ j t' n' ok, RP b N 4 i o t n j t' n' ok := by
      intro o t n ho
      by_cases h0 : bt b N i = 43
      · have hlt := bt_lt h0 (by decide)
        obtain ⟨j, t', n', ok, h⟩ := ih (i + 1) (by omega) (by omega) o t n ho 1 (by omega)
        cases ok with
        | false => exact ⟨_, _, _, _, .mf h0 h⟩
        | true =>
          have hp := h.pos (by omega)
          obtain ⟨j2, t2, n2, ok2, h2⟩ := ih j (by omega) (by omega) o (tup t' n' 11) (n' + 1) ho 4 (by omega)
          exact ⟨_, _, _, _, .m1 h0 h h2⟩
      · exact ⟨_, _, _, _, .m0 h0⟩
    intro o t n ho md hmd
    rcases (show md = 0 ∨ md = 1 ∨ md = 2 ∨ md = 3 ∨ md = 4 by omega) with rfl | rfl | rfl | rfl | rfl
    · exact U o t n ho
    · exact S1 o t n ho
    · exact S2 o t n ho
    · obtain ⟨j, t', n', ok, h⟩ := S1 o t n ho
      cases ok with
      | false => exact ⟨_, _, _, _, .af h⟩
      | true =>
        have hp := h.pos hi
        have hp2 := hp.2.2.2 rfl (Or.inr (Or.inl rfl))
        obtain ⟨j2, t2, n2, ok2, h2⟩ := ih j (by omega) (by omega) o t' n' ho 4 (by omega)
        exact ⟨_, _, _, _, .a h h2⟩
    · exact S4 o t n ho
