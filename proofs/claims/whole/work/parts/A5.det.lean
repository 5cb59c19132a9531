/-! determinants -/
def skp (j t : Nat) : Nat := if t < j then t else t + 1
def sw (s i : Nat) : Nat := if i = s then s + 1 else if i = s + 1 then s else i
def sgs : Nat → (Nat → Int) → Int
  | 0, _ => 0
  | k + 1, f => sgs k f + (if k % 2 = 0 then f k else - f k)
def dtm : Nat → (Nat → Nat → Int) → Int
  | 0, _ => 1
  | k + 1, a => sgs (k + 1) (fun j => a 0 j * dtm k (fun i t => a (i + 1) (skp j t)))
theorem skp_lt {k j t : Nat} (h : t < k) : skp j t < k + 1 := by unfold skp; split <;> omega
theorem sgs_congr : ∀ {k : Nat} {f g : Nat → Int}, (∀ j, j < k → f j = g j) → sgs k f = sgs k g
  | 0, _, _, _ => rfl
  | k + 1, f, g, h => by
    show sgs k f + (if k % 2 = 0 then f k else - f k) = sgs k g + (if k % 2 = 0 then g k else - g k)
    rw [sgs_congr (fun j hj => h j (by omega)), h k (by omega)]
theorem sgs_lin : ∀ {k : Nat} {f g h : Nat → Int} {x y : Int}, (∀ j, j < k → f j = x * g j + y * h j) → sgs k f = x * sgs k g + y * sgs k h
  | 0, _, _, _, x, y, _ => by show (0 : Int) = x * 0 + y * 0; omega
  | k + 1, f, g, h, x, y, e => by
    show sgs k f + (if k % 2 = 0 then f k else - f k) = x * (sgs k g + (if k % 2 = 0 then g k else - g k)) + y * (sgs k h + (if k % 2 = 0 then h k else - h k))
    rw [sgs_lin (fun j hj => e j (by omega)), e k (by omega)]
    generalize sgs k g = A
    generalize sgs k h = B
    generalize g k = C
    generalize h k = D
    split <;> grind
theorem sgs_neg {k : Nat} {f g : Nat → Int} (h : ∀ j, j < k → f j = - g j) : sgs k f = - sgs k g := by
  have := sgs_lin (k := k) (f := f) (g := g) (h := g) (x := -1) (y := 0) (fun j hj => by rw [h j hj]; omega)
  omega
theorem sgs_zero {k : Nat} {f : Nat → Int} (h : ∀ j, j < k → f j = 0) : sgs k f = 0 := by
  have := sgs_lin (k := k) (f := f) (g := f) (h := f) (x := 0) (y := 0) (fun j hj => by rw [h j hj]; omega)
  omega
theorem dtm_congr : ∀ {k : Nat} {a b : Nat → Nat → Int}, (∀ i j, i < k → j < k → a i j = b i j) → dtm k a = dtm k b
  | 0, _, _, _ => rfl
  | k + 1, a, b, h => sgs_congr (fun j hj => by
    rw [h 0 j (by omega) hj, dtm_congr (k := k) (fun i t hi ht => h (i + 1) (skp j t) (by omega) (skp_lt ht))])
theorem dtm_lin : ∀ {k s : Nat} {a b c : Nat → Nat → Int} {x y : Int}, s < k → (∀ i t, i < k → t < k → i ≠ s → a i t = b i t ∧ a i t = c i t) → (∀ t, t < k → a s t = x * b s t + y * c s t) → dtm k a = x * dtm k b + y * dtm k c
  | 0, s, _, _, _, _, _, hs, _, _ => absurd hs (by omega)
  | k + 1, 0, a, b, c, x, y, hs, h1, h2 => sgs_lin (fun j hj => by
    have e1 : dtm k (fun i t => a (i + 1) (skp j t)) = dtm k (fun i t => b (i + 1) (skp j t)) := dtm_congr (fun i t hi ht => (h1 (i + 1) (skp j t) (by omega) (skp_lt ht) (by omega)).1)
    have e2 : dtm k (fun i t => a (i + 1) (skp j t)) = dtm k (fun i t => c (i + 1) (skp j t)) := dtm_congr (fun i t hi ht => (h1 (i + 1) (skp j t) (by omega) (skp_lt ht) (by omega)).2)
    rw [← e1, ← e2, h2 j hj]
    generalize dtm k (fun i t => a (i + 1) (skp j t)) = M
    generalize b 0 j = B
    generalize c 0 j = C
    grind)
  | k + 1, s + 1, a, b, c, x, y, hs, h1, h2 => sgs_lin (fun j hj => by
    have e := dtm_lin (k := k) (s := s) (a := fun i t => a (i + 1) (skp j t)) (b := fun i t => b (i + 1) (skp j t)) (c := fun i t => c (i + 1) (skp j t)) (x := x) (y := y) (by omega) (fun i t hi ht his => h1 (i + 1) (skp j t) (by omega) (skp_lt ht) (by omega)) (fun t ht => h2 (skp j t) (skp_lt ht))
    have h0 := h1 0 j (by omega) hj (by omega)
    rw [e, ← h0.1, ← h0.2]
    generalize dtm k (fun i t => b (i + 1) (skp j t)) = M
    generalize dtm k (fun i t => c (i + 1) (skp j t)) = N
    generalize a 0 j = A
    grind)
theorem dtm_col0 : ∀ {k : Nat} {a : Nat → Nat → Int}, 1 ≤ k → (∀ i, i < k → a i 0 = 0) → dtm k a = 0
  | 0, _, h, _ => absurd h (by omega)
  | k + 1, a, _, h => sgs_zero (fun j hj => by
    by_cases e : j = 0
    · rw [e, h 0 (by omega), Int.zero_mul]
    · rw [dtm_col0 (k := k) (a := fun i t => a (i + 1) (skp j t)) (by omega) (fun i hi => by
        show a (i + 1) (skp j 0) = 0
        rw [show skp j 0 = 0 by unfold skp; rw [if_pos (by omega)]]
        exact h (i + 1) (by omega)), Int.mul_zero])
set_option maxRecDepth 100000 in
theorem dtm_sw2 (a : Nat → Nat → Int) : dtm 2 (fun i j => a (sw 0 i) j) = - dtm 2 a := by
  have e1 : dtm 2 a = 0 + a 0 0 * (0 + a 1 1 * (1)) + -(a 0 1 * (0 + a 1 0 * (1))) := rfl
  have e2 : dtm 2 (fun i j => a (sw 0 i) j) = 0 + a 1 0 * (0 + a 0 1 * (1)) + -(a 1 1 * (0 + a 0 0 * (1))) := rfl
  rw [e1, e2]
  generalize a 0 0 = x00
  generalize a 0 1 = x01
  generalize a 1 0 = x10
  generalize a 1 1 = x11
  grind
set_option maxRecDepth 100000 in
theorem dtm_sw3 (a : Nat → Nat → Int) : dtm 3 (fun i j => a (sw 0 i) j) = - dtm 3 a := by
  have e1 : dtm 3 a = 0 + a 0 0 * (0 + a 1 1 * (0 + a 2 2 * (1)) + -(a 1 2 * (0 + a 2 1 * (1)))) + -(a 0 1 * (0 + a 1 0 * (0 + a 2 2 * (1)) + -(a 1 2 * (0 + a 2 0 * (1))))) + a 0 2 * (0 + a 1 0 * (0 + a 2 1 * (1)) + -(a 1 1 * (0 + a 2 0 * (1)))) := rfl
  have e2 : dtm 3 (fun i j => a (sw 0 i) j) = 0 + a 1 0 * (0 + a 0 1 * (0 + a 2 2 * (1)) + -(a 0 2 * (0 + a 2 1 * (1)))) + -(a 1 1 * (0 + a 0 0 * (0 + a 2 2 * (1)) + -(a 0 2 * (0 + a 2 0 * (1))))) + a 1 2 * (0 + a 0 0 * (0 + a 2 1 * (1)) + -(a 0 1 * (0 + a 2 0 * (1)))) := rfl
  rw [e1, e2]
  generalize a 0 0 = x00
  generalize a 0 1 = x01
  generalize a 0 2 = x02
  generalize a 1 0 = x10
  generalize a 1 1 = x11
  generalize a 1 2 = x12
  generalize a 2 0 = x20
  generalize a 2 1 = x21
  generalize a 2 2 = x22
  grind
set_option maxRecDepth 100000 in
theorem dtm_sw4 (a : Nat → Nat → Int) : dtm 4 (fun i j => a (sw 0 i) j) = - dtm 4 a := by
  have e1 : dtm 4 a = 0 + a 0 0 * (0 + a 1 1 * (0 + a 2 2 * (0 + a 3 3 * (1)) + -(a 2 3 * (0 + a 3 2 * (1)))) + -(a 1 2 * (0 + a 2 1 * (0 + a 3 3 * (1)) + -(a 2 3 * (0 + a 3 1 * (1))))) + a 1 3 * (0 + a 2 1 * (0 + a 3 2 * (1)) + -(a 2 2 * (0 + a 3 1 * (1))))) + -(a 0 1 * (0 + a 1 0 * (0 + a 2 2 * (0 + a 3 3 * (1)) + -(a 2 3 * (0 + a 3 2 * (1)))) + -(a 1 2 * (0 + a 2 0 * (0 + a 3 3 * (1)) + -(a 2 3 * (0 + a 3 0 * (1))))) + a 1 3 * (0 + a 2 0 * (0 + a 3 2 * (1)) + -(a 2 2 * (0 + a 3 0 * (1)))))) + a 0 2 * (0 + a 1 0 * (0 + a 2 1 * (0 + a 3 3 * (1)) + -(a 2 3 * (0 + a 3 1 * (1)))) + -(a 1 1 * (0 + a 2 0 * (0 + a 3 3 * (1)) + -(a 2 3 * (0 + a 3 0 * (1))))) + a 1 3 * (0 + a 2 0 * (0 + a 3 1 * (1)) + -(a 2 1 * (0 + a 3 0 * (1))))) + -(a 0 3 * (0 + a 1 0 * (0 + a 2 1 * (0 + a 3 2 * (1)) + -(a 2 2 * (0 + a 3 1 * (1)))) + -(a 1 1 * (0 + a 2 0 * (0 + a 3 2 * (1)) + -(a 2 2 * (0 + a 3 0 * (1))))) + a 1 2 * (0 + a 2 0 * (0 + a 3 1 * (1)) + -(a 2 1 * (0 + a 3 0 * (1)))))) := rfl
  have e2 : dtm 4 (fun i j => a (sw 0 i) j) = 0 + a 1 0 * (0 + a 0 1 * (0 + a 2 2 * (0 + a 3 3 * (1)) + -(a 2 3 * (0 + a 3 2 * (1)))) + -(a 0 2 * (0 + a 2 1 * (0 + a 3 3 * (1)) + -(a 2 3 * (0 + a 3 1 * (1))))) + a 0 3 * (0 + a 2 1 * (0 + a 3 2 * (1)) + -(a 2 2 * (0 + a 3 1 * (1))))) + -(a 1 1 * (0 + a 0 0 * (0 + a 2 2 * (0 + a 3 3 * (1)) + -(a 2 3 * (0 + a 3 2 * (1)))) + -(a 0 2 * (0 + a 2 0 * (0 + a 3 3 * (1)) + -(a 2 3 * (0 + a 3 0 * (1))))) + a 0 3 * (0 + a 2 0 * (0 + a 3 2 * (1)) + -(a 2 2 * (0 + a 3 0 * (1)))))) + a 1 2 * (0 + a 0 0 * (0 + a 2 1 * (0 + a 3 3 * (1)) + -(a 2 3 * (0 + a 3 1 * (1)))) + -(a 0 1 * (0 + a 2 0 * (0 + a 3 3 * (1)) + -(a 2 3 * (0 + a 3 0 * (1))))) + a 0 3 * (0 + a 2 0 * (0 + a 3 1 * (1)) + -(a 2 1 * (0 + a 3 0 * (1))))) + -(a 1 3 * (0 + a 0 0 * (0 + a 2 1 * (0 + a 3 2 * (1)) + -(a 2 2 * (0 + a 3 1 * (1)))) + -(a 0 1 * (0 + a 2 0 * (0 + a 3 2 * (1)) + -(a 2 2 * (0 + a 3 0 * (1))))) + a 0 2 * (0 + a 2 0 * (0 + a 3 1 * (1)) + -(a 2 1 * (0 + a 3 0 * (1)))))) := rfl
  rw [e1, e2]
  generalize a 0 0 = x00
  generalize a 0 1 = x01
  generalize a 0 2 = x02
  generalize a 0 3 = x03
  generalize a 1 0 = x10
  generalize a 1 1 = x11
  generalize a 1 2 = x12
  generalize a 1 3 = x13
  generalize a 2 0 = x20
  generalize a 2 1 = x21
  generalize a 2 2 = x22
  generalize a 2 3 = x23
  generalize a 3 0 = x30
  generalize a 3 1 = x31
  generalize a 3 2 = x32
  generalize a 3 3 = x33
  grind
set_option maxRecDepth 100000 in
theorem dtm_sw5 (a : Nat → Nat → Int) : dtm 5 (fun i j => a (sw 0 i) j) = - dtm 5 a := by
  have e1 : dtm 5 a = 0 + a 0 0 * (0 + a 1 1 * (0 + a 2 2 * (0 + a 3 3 * (0 + a 4 4 * (1)) + -(a 3 4 * (0 + a 4 3 * (1)))) + -(a 2 3 * (0 + a 3 2 * (0 + a 4 4 * (1)) + -(a 3 4 * (0 + a 4 2 * (1))))) + a 2 4 * (0 + a 3 2 * (0 + a 4 3 * (1)) + -(a 3 3 * (0 + a 4 2 * (1))))) + -(a 1 2 * (0 + a 2 1 * (0 + a 3 3 * (0 + a 4 4 * (1)) + -(a 3 4 * (0 + a 4 3 * (1)))) + -(a 2 3 * (0 + a 3 1 * (0 + a 4 4 * (1)) + -(a 3 4 * (0 + a 4 1 * (1))))) + a 2 4 * (0 + a 3 1 * (0 + a 4 3 * (1)) + -(a 3 3 * (0 + a 4 1 * (1)))))) + a 1 3 * (0 + a 2 1 * (0 + a 3 2 * (0 + a 4 4 * (1)) + -(a 3 4 * (0 + a 4 2 * (1)))) + -(a 2 2 * (0 + a 3 1 * (0 + a 4 4 * (1)) + -(a 3 4 * (0 + a 4 1 * (1))))) + a 2 4 * (0 + a 3 1 * (0 + a 4 2 * (1)) + -(a 3 2 * (0 + a 4 1 * (1))))) + -(a 1 4 * (0 + a 2 1 * (0 + a 3 2 * (0 + a 4 3 * (1)) + -(a 3 3 * (0 + a 4 2 * (1)))) + -(a 2 2 * (0 + a 3 1 * (0 + a 4 3 * (1)) + -(a 3 3 * (0 + a 4 1 * (1))))) + a 2 3 * (0 + a 3 1 * (0 + a 4 2 * (1)) + -(a 3 2 * (0 + a 4 1 * (1))))))) + -(a 0 1 * (0 + a 1 0 * (0 + a 2 2 * (0 + a 3 3 * (0 + a 4 4 * (1)) + -(a 3 4 * (0 + a 4 3 * (1)))) + -(a 2 3 * (0 + a 3 2 * (0 + a 4 4 * (1)) + -(a 3 4 * (0 + a 4 2 * (1))))) + a 2 4 * (0 + a 3 2 * (0 + a 4 3 * (1)) + -(a 3 3 * (0 + a 4 2 * (1))))) + -(a 1 2 * (0 + a 2 0 * (0 + a 3 3 * (0 + a 4 4 * (1)) + -(a 3 4 * (0 + a 4 3 * (1)))) + -(a 2 3 * (0 + a 3 0 * (0 + a 4 4 * (1)) + -(a 3 4 * (0 + a 4 0 * (1))))) + a 2 4 * (0 + a 3 0 * (0 + a 4 3 * (1)) + -(a 3 3 * (0 + a 4 0 * (1)))))) + a 1 3 * (0 + a 2 0 * (0 + a 3 2 * (0 + a 4 4 * (1)) + -(a 3 4 * (0 + a 4 2 * (1)))) + -(a 2 2 * (0 + a 3 0 * (0 + a 4 4 * (1)) + -(a 3 4 * (0 + a 4 0 * (1))))) + a 2 4 * (0 + a 3 0 * (0 + a 4 2 * (1)) + -(a 3 2 * (0 + a 4 0 * (1))))) + -(a 1 4 * (0 + a 2 0 * (0 + a 3 2 * (0 + a 4 3 * (1)) + -(a 3 3 * (0 + a 4 2 * (1)))) + -(a 2 2 * (0 + a 3 0 * (0 + a 4 3 * (1)) + -(a 3 3 * (0 + a 4 0 * (1))))) + a 2 3 * (0 + a 3 0 * (0 + a 4 2 * (1)) + -(a 3 2 * (0 + a 4 0 * (1)))))))) + a 0 2 * (0 + a 1 0 * (0 + a 2 1 * (0 + a 3 3 * (0 + a 4 4 * (1)) + -(a 3 4 * (0 + a 4 3 * (1)))) + -(a 2 3 * (0 + a 3 1 * (0 + a 4 4 * (1)) + -(a 3 4 * (0 + a 4 1 * (1))))) + a 2 4 * (0 + a 3 1 * (0 + a 4 3 * (1)) + -(a 3 3 * (0 + a 4 1 * (1))))) + -(a 1 1 * (0 + a 2 0 * (0 + a 3 3 * (0 + a 4 4 * (1)) + -(a 3 4 * (0 + a 4 3 * (1)))) + -(a 2 3 * (0 + a 3 0 * (0 + a 4 4 * (1)) + -(a 3 4 * (0 + a 4 0 * (1))))) + a 2 4 * (0 + a 3 0 * (0 + a 4 3 * (1)) + -(a 3 3 * (0 + a 4 0 * (1)))))) + a 1 3 * (0 + a 2 0 * (0 + a 3 1 * (0 + a 4 4 * (1)) + -(a 3 4 * (0 + a 4 1 * (1)))) + -(a 2 1 * (0 + a 3 0 * (0 + a 4 4 * (1)) + -(a 3 4 * (0 + a 4 0 * (1))))) + a 2 4 * (0 + a 3 0 * (0 + a 4 1 * (1)) + -(a 3 1 * (0 + a 4 0 * (1))))) + -(a 1 4 * (0 + a 2 0 * (0 + a 3 1 * (0 + a 4 3 * (1)) + -(a 3 3 * (0 + a 4 1 * (1)))) + -(a 2 1 * (0 + a 3 0 * (0 + a 4 3 * (1)) + -(a 3 3 * (0 + a 4 0 * (1))))) + a 2 3 * (0 + a 3 0 * (0 + a 4 1 * (1)) + -(a 3 1 * (0 + a 4 0 * (1))))))) + -(a 0 3 * (0 + a 1 0 * (0 + a 2 1 * (0 + a 3 2 * (0 + a 4 4 * (1)) + -(a 3 4 * (0 + a 4 2 * (1)))) + -(a 2 2 * (0 + a 3 1 * (0 + a 4 4 * (1)) + -(a 3 4 * (0 + a 4 1 * (1))))) + a 2 4 * (0 + a 3 1 * (0 + a 4 2 * (1)) + -(a 3 2 * (0 + a 4 1 * (1))))) + -(a 1 1 * (0 + a 2 0 * (0 + a 3 2 * (0 + a 4 4 * (1)) + -(a 3 4 * (0 + a 4 2 * (1)))) + -(a 2 2 * (0 + a 3 0 * (0 + a 4 4 * (1)) + -(a 3 4 * (0 + a 4 0 * (1))))) + a 2 4 * (0 + a 3 0 * (0 + a 4 2 * (1)) + -(a 3 2 * (0 + a 4 0 * (1)))))) + a 1 2 * (0 + a 2 0 * (0 + a 3 1 * (0 + a 4 4 * (1)) + -(a 3 4 * (0 + a 4 1 * (1)))) + -(a 2 1 * (0 + a 3 0 * (0 + a 4 4 * (1)) + -(a 3 4 * (0 + a 4 0 * (1))))) + a 2 4 * (0 + a 3 0 * (0 + a 4 1 * (1)) + -(a 3 1 * (0 + a 4 0 * (1))))) + -(a 1 4 * (0 + a 2 0 * (0 + a 3 1 * (0 + a 4 2 * (1)) + -(a 3 2 * (0 + a 4 1 * (1)))) + -(a 2 1 * (0 + a 3 0 * (0 + a 4 2 * (1)) + -(a 3 2 * (0 + a 4 0 * (1))))) + a 2 2 * (0 + a 3 0 * (0 + a 4 1 * (1)) + -(a 3 1 * (0 + a 4 0 * (1)))))))) + a 0 4 * (0 + a 1 0 * (0 + a 2 1 * (0 + a 3 2 * (0 + a 4 3 * (1)) + -(a 3 3 * (0 + a 4 2 * (1)))) + -(a 2 2 * (0 + a 3 1 * (0 + a 4 3 * (1)) + -(a 3 3 * (0 + a 4 1 * (1))))) + a 2 3 * (0 + a 3 1 * (0 + a 4 2 * (1)) + -(a 3 2 * (0 + a 4 1 * (1))))) + -(a 1 1 * (0 + a 2 0 * (0 + a 3 2 * (0 + a 4 3 * (1)) + -(a 3 3 * (0 + a 4 2 * (1)))) + -(a 2 2 * (0 + a 3 0 * (0 + a 4 3 * (1)) + -(a 3 3 * (0 + a 4 0 * (1))))) + a 2 3 * (0 + a 3 0 * (0 + a 4 2 * (1)) + -(a 3 2 * (0 + a 4 0 * (1)))))) + a 1 2 * (0 + a 2 0 * (0 + a 3 1 * (0 + a 4 3 * (1)) + -(a 3 3 * (0 + a 4 1 * (1)))) + -(a 2 1 * (0 + a 3 0 * (0 + a 4 3 * (1)) + -(a 3 3 * (0 + a 4 0 * (1))))) + a 2 3 * (0 + a 3 0 * (0 + a 4 1 * (1)) + -(a 3 1 * (0 + a 4 0 * (1))))) + -(a 1 3 * (0 + a 2 0 * (0 + a 3 1 * (0 + a 4 2 * (1)) + -(a 3 2 * (0 + a 4 1 * (1)))) + -(a 2 1 * (0 + a 3 0 * (0 + a 4 2 * (1)) + -(a 3 2 * (0 + a 4 0 * (1))))) + a 2 2 * (0 + a 3 0 * (0 + a 4 1 * (1)) + -(a 3 1 * (0 + a 4 0 * (1))))))) := rfl
  have e2 : dtm 5 (fun i j => a (sw 0 i) j) = 0 + a 1 0 * (0 + a 0 1 * (0 + a 2 2 * (0 + a 3 3 * (0 + a 4 4 * (1)) + -(a 3 4 * (0 + a 4 3 * (1)))) + -(a 2 3 * (0 + a 3 2 * (0 + a 4 4 * (1)) + -(a 3 4 * (0 + a 4 2 * (1))))) + a 2 4 * (0 + a 3 2 * (0 + a 4 3 * (1)) + -(a 3 3 * (0 + a 4 2 * (1))))) + -(a 0 2 * (0 + a 2 1 * (0 + a 3 3 * (0 + a 4 4 * (1)) + -(a 3 4 * (0 + a 4 3 * (1)))) + -(a 2 3 * (0 + a 3 1 * (0 + a 4 4 * (1)) + -(a 3 4 * (0 + a 4 1 * (1))))) + a 2 4 * (0 + a 3 1 * (0 + a 4 3 * (1)) + -(a 3 3 * (0 + a 4 1 * (1)))))) + a 0 3 * (0 + a 2 1 * (0 + a 3 2 * (0 + a 4 4 * (1)) + -(a 3 4 * (0 + a 4 2 * (1)))) + -(a 2 2 * (0 + a 3 1 * (0 + a 4 4 * (1)) + -(a 3 4 * (0 + a 4 1 * (1))))) + a 2 4 * (0 + a 3 1 * (0 + a 4 2 * (1)) + -(a 3 2 * (0 + a 4 1 * (1))))) + -(a 0 4 * (0 + a 2 1 * (0 + a 3 2 * (0 + a 4 3 * (1)) + -(a 3 3 * (0 + a 4 2 * (1)))) + -(a 2 2 * (0 + a 3 1 * (0 + a 4 3 * (1)) + -(a 3 3 * (0 + a 4 1 * (1))))) + a 2 3 * (0 + a 3 1 * (0 + a 4 2 * (1)) + -(a 3 2 * (0 + a 4 1 * (1))))))) + -(a 1 1 * (0 + a 0 0 * (0 + a 2 2 * (0 + a 3 3 * (0 + a 4 4 * (1)) + -(a 3 4 * (0 + a 4 3 * (1)))) + -(a 2 3 * (0 + a 3 2 * (0 + a 4 4 * (1)) + -(a 3 4 * (0 + a 4 2 * (1))))) + a 2 4 * (0 + a 3 2 * (0 + a 4 3 * (1)) + -(a 3 3 * (0 + a 4 2 * (1))))) + -(a 0 2 * (0 + a 2 0 * (0 + a 3 3 * (0 + a 4 4 * (1)) + -(a 3 4 * (0 + a 4 3 * (1)))) + -(a 2 3 * (0 + a 3 0 * (0 + a 4 4 * (1)) + -(a 3 4 * (0 + a 4 0 * (1))))) + a 2 4 * (0 + a 3 0 * (0 + a 4 3 * (1)) + -(a 3 3 * (0 + a 4 0 * (1)))))) + a 0 3 * (0 + a 2 0 * (0 + a 3 2 * (0 + a 4 4 * (1)) + -(a 3 4 * (0 + a 4 2 * (1)))) + -(a 2 2 * (0 + a 3 0 * (0 + a 4 4 * (1)) + -(a 3 4 * (0 + a 4 0 * (1))))) + a 2 4 * (0 + a 3 0 * (0 + a 4 2 * (1)) + -(a 3 2 * (0 + a 4 0 * (1))))) + -(a 0 4 * (0 + a 2 0 * (0 + a 3 2 * (0 + a 4 3 * (1)) + -(a 3 3 * (0 + a 4 2 * (1)))) + -(a 2 2 * (0 + a 3 0 * (0 + a 4 3 * (1)) + -(a 3 3 * (0 + a 4 0 * (1))))) + a 2 3 * (0 + a 3 0 * (0 + a 4 2 * (1)) + -(a 3 2 * (0 + a 4 0 * (1)))))))) + a 1 2 * (0 + a 0 0 * (0 + a 2 1 * (0 + a 3 3 * (0 + a 4 4 * (1)) + -(a 3 4 * (0 + a 4 3 * (1)))) + -(a 2 3 * (0 + a 3 1 * (0 + a 4 4 * (1)) + -(a 3 4 * (0 + a 4 1 * (1))))) + a 2 4 * (0 + a 3 1 * (0 + a 4 3 * (1)) + -(a 3 3 * (0 + a 4 1 * (1))))) + -(a 0 1 * (0 + a 2 0 * (0 + a 3 3 * (0 + a 4 4 * (1)) + -(a 3 4 * (0 + a 4 3 * (1)))) + -(a 2 3 * (0 + a 3 0 * (0 + a 4 4 * (1)) + -(a 3 4 * (0 + a 4 0 * (1))))) + a 2 4 * (0 + a 3 0 * (0 + a 4 3 * (1)) + -(a 3 3 * (0 + a 4 0 * (1)))))) + a 0 3 * (0 + a 2 0 * (0 + a 3 1 * (0 + a 4 4 * (1)) + -(a 3 4 * (0 + a 4 1 * (1)))) + -(a 2 1 * (0 + a 3 0 * (0 + a 4 4 * (1)) + -(a 3 4 * (0 + a 4 0 * (1))))) + a 2 4 * (0 + a 3 0 * (0 + a 4 1 * (1)) + -(a 3 1 * (0 + a 4 0 * (1))))) + -(a 0 4 * (0 + a 2 0 * (0 + a 3 1 * (0 + a 4 3 * (1)) + -(a 3 3 * (0 + a 4 1 * (1)))) + -(a 2 1 * (0 + a 3 0 * (0 + a 4 3 * (1)) + -(a 3 3 * (0 + a 4 0 * (1))))) + a 2 3 * (0 + a 3 0 * (0 + a 4 1 * (1)) + -(a 3 1 * (0 + a 4 0 * (1))))))) + -(a 1 3 * (0 + a 0 0 * (0 + a 2 1 * (0 + a 3 2 * (0 + a 4 4 * (1)) + -(a 3 4 * (0 + a 4 2 * (1)))) + -(a 2 2 * (0 + a 3 1 * (0 + a 4 4 * (1)) + -(a 3 4 * (0 + a 4 1 * (1))))) + a 2 4 * (0 + a 3 1 * (0 + a 4 2 * (1)) + -(a 3 2 * (0 + a 4 1 * (1))))) + -(a 0 1 * (0 + a 2 0 * (0 + a 3 2 * (0 + a 4 4 * (1)) + -(a 3 4 * (0 + a 4 2 * (1)))) + -(a 2 2 * (0 + a 3 0 * (0 + a 4 4 * (1)) + -(a 3 4 * (0 + a 4 0 * (1))))) + a 2 4 * (0 + a 3 0 * (0 + a 4 2 * (1)) + -(a 3 2 * (0 + a 4 0 * (1)))))) + a 0 2 * (0 + a 2 0 * (0 + a 3 1 * (0 + a 4 4 * (1)) + -(a 3 4 * (0 + a 4 1 * (1)))) + -(a 2 1 * (0 + a 3 0 * (0 + a 4 4 * (1)) + -(a 3 4 * (0 + a 4 0 * (1))))) + a 2 4 * (0 + a 3 0 * (0 + a 4 1 * (1)) + -(a 3 1 * (0 + a 4 0 * (1))))) + -(a 0 4 * (0 + a 2 0 * (0 + a 3 1 * (0 + a 4 2 * (1)) + -(a 3 2 * (0 + a 4 1 * (1)))) + -(a 2 1 * (0 + a 3 0 * (0 + a 4 2 * (1)) + -(a 3 2 * (0 + a 4 0 * (1))))) + a 2 2 * (0 + a 3 0 * (0 + a 4 1 * (1)) + -(a 3 1 * (0 + a 4 0 * (1)))))))) + a 1 4 * (0 + a 0 0 * (0 + a 2 1 * (0 + a 3 2 * (0 + a 4 3 * (1)) + -(a 3 3 * (0 + a 4 2 * (1)))) + -(a 2 2 * (0 + a 3 1 * (0 + a 4 3 * (1)) + -(a 3 3 * (0 + a 4 1 * (1))))) + a 2 3 * (0 + a 3 1 * (0 + a 4 2 * (1)) + -(a 3 2 * (0 + a 4 1 * (1))))) + -(a 0 1 * (0 + a 2 0 * (0 + a 3 2 * (0 + a 4 3 * (1)) + -(a 3 3 * (0 + a 4 2 * (1)))) + -(a 2 2 * (0 + a 3 0 * (0 + a 4 3 * (1)) + -(a 3 3 * (0 + a 4 0 * (1))))) + a 2 3 * (0 + a 3 0 * (0 + a 4 2 * (1)) + -(a 3 2 * (0 + a 4 0 * (1)))))) + a 0 2 * (0 + a 2 0 * (0 + a 3 1 * (0 + a 4 3 * (1)) + -(a 3 3 * (0 + a 4 1 * (1)))) + -(a 2 1 * (0 + a 3 0 * (0 + a 4 3 * (1)) + -(a 3 3 * (0 + a 4 0 * (1))))) + a 2 3 * (0 + a 3 0 * (0 + a 4 1 * (1)) + -(a 3 1 * (0 + a 4 0 * (1))))) + -(a 0 3 * (0 + a 2 0 * (0 + a 3 1 * (0 + a 4 2 * (1)) + -(a 3 2 * (0 + a 4 1 * (1)))) + -(a 2 1 * (0 + a 3 0 * (0 + a 4 2 * (1)) + -(a 3 2 * (0 + a 4 0 * (1))))) + a 2 2 * (0 + a 3 0 * (0 + a 4 1 * (1)) + -(a 3 1 * (0 + a 4 0 * (1))))))) := rfl
  rw [e1, e2]
  generalize a 0 0 = x00
  generalize a 0 1 = x01
  generalize a 0 2 = x02
  generalize a 0 3 = x03
  generalize a 0 4 = x04
  generalize a 1 0 = x10
  generalize a 1 1 = x11
  generalize a 1 2 = x12
  generalize a 1 3 = x13
  generalize a 1 4 = x14
  generalize a 2 0 = x20
  generalize a 2 1 = x21
  generalize a 2 2 = x22
  generalize a 2 3 = x23
  generalize a 2 4 = x24
  generalize a 3 0 = x30
  generalize a 3 1 = x31
  generalize a 3 2 = x32
  generalize a 3 3 = x33
  generalize a 3 4 = x34
  generalize a 4 0 = x40
  generalize a 4 1 = x41
  generalize a 4 2 = x42
  generalize a 4 3 = x43
  generalize a 4 4 = x44
  grind
theorem sw_succ (s i : Nat) : sw (s + 1) (i + 1) = sw s i + 1 := by
  unfold sw
  by_cases h1 : i = s
  · rw [if_pos h1, if_pos (by omega)]
  · rw [if_neg h1, if_neg (by omega)]
    by_cases h2 : i = s + 1
    · rw [if_pos h2, if_pos (by omega)]
    · rw [if_neg h2, if_neg (by omega)]
theorem dtm_swap : ∀ {k s : Nat} {a : Nat → Nat → Int}, k ≤ 5 → s + 1 < k → dtm k (fun i j => a (sw s i) j) = - dtm k a
  | 0, s, _, _, h => absurd h (by omega)
  | k + 1, 0, a, hk, h => by
    have : k = 1 ∨ k = 2 ∨ k = 3 ∨ k = 4 := by omega
    rcases this with rfl | rfl | rfl | rfl
    · exact dtm_sw2 a
    · exact dtm_sw3 a
    · exact dtm_sw4 a
    · exact dtm_sw5 a
  | k + 1, s + 1, a, hk, h => sgs_neg (fun j hj => by
    have e := dtm_swap (k := k) (s := s) (a := fun i t => a (i + 1) (skp j t)) (by omega) (by omega)
    have e2 : (fun i t => a (sw (s + 1) (i + 1)) (skp j t)) = fun i t => a (sw s i + 1) (skp j t) := by
      funext i t
      rw [sw_succ]
    show a (sw (s + 1) 0) j * dtm k (fun i t => a (sw (s + 1) (i + 1)) (skp j t)) = _
    rw [e2, show sw (s + 1) 0 = 0 by unfold sw; rw [if_neg (by omega), if_neg (by omega)]]
    have e' : dtm k (fun i t => a (sw s i + 1) (skp j t)) = - dtm k (fun i t => a (i + 1) (skp j t)) := e
    rw [e', Int.mul_neg])
/-- two rows alike -/
theorem dtm_eqrow {k : Nat} (hk : k ≤ 5) : ∀ (d : Nat) {s : Nat} {a : Nat → Nat → Int}, s + 1 + d < k → (∀ t, t < k → a s t = a (s + 1 + d) t) → dtm k a = 0
  | 0, s, a, hs, h => by
    have e := dtm_swap (k := k) (s := s) (a := a) hk (by omega)
    have e2 : dtm k (fun i j => a (sw s i) j) = dtm k a := dtm_congr (fun i j hi hj => by
      show a (sw s i) j = a i j
      unfold sw
      by_cases h1 : i = s
      · rw [if_pos h1, h1]; exact (h j hj).symm
      · rw [if_neg h1]
        by_cases h2 : i = s + 1
        · rw [if_pos h2, h2]; exact h j hj
        · rw [if_neg h2])
    rw [e2] at e
    omega
  | d + 1, s, a, hs, h => by
    have e := dtm_swap (k := k) (s := s + 1 + d) (a := a) hk (by omega)
    have e2 := dtm_eqrow hk d (s := s) (a := fun i j => a (sw (s + 1 + d) i) j) (by omega) (fun t ht => by
      show a (sw (s + 1 + d) s) t = a (sw (s + 1 + d) (s + 1 + d)) t
      rw [show sw (s + 1 + d) s = s by unfold sw; rw [if_neg (by omega), if_neg (by omega)], show sw (s + 1 + d) (s + 1 + d) = s + 1 + (d + 1) by unfold sw; rw [if_pos rfl]; omega]
      exact h t ht)
    omega
theorem dtm_eqrow' {k s t : Nat} {a : Nat → Nat → Int} (hk : k ≤ 5) (hst : s < t) (ht : t < k) (h : ∀ j, j < k → a s j = a t j) : dtm k a = 0 :=
  dtm_eqrow hk (t - s - 1) (s := s) (by omega) (fun j hj => by rw [h j hj, show s + 1 + (t - s - 1) = t by omega])
/-- rows cleared by the first -/
def chi (a : Nat → Nat → Int) : Nat → Nat → Int := fun i j => a 0 0 * a (i + 1) (j + 1) - a (i + 1) 0 * a 0 (j + 1)
def clr (a : Nat → Nat → Int) (s : Nat) : Nat → Nat → Int := fun i j => if 1 ≤ i ∧ i ≤ s then a 0 0 * a i j - a i 0 * a 0 j else a i j
theorem clr_dtm {k : Nat} (hk : k + 1 ≤ 5) (a : Nat → Nat → Int) : ∀ s, s ≤ k → dtm (k + 1) (clr a s) = a 0 0 ^ s * dtm (k + 1) a
  | 0, _ => by
    rw [Int.pow_zero, Int.one_mul]
    exact dtm_congr (fun i j _ _ => if_neg (by omega))
  | s + 1, hs => by
    have ih := clr_dtm hk a s (by omega)
    have z : dtm (k + 1) (fun i j => if i = s + 1 then a 0 j else clr a s i j) = 0 := dtm_eqrow' (s := 0) (t := s + 1) hk (by omega) (by omega) (fun j hj => by
      show (if 0 = s + 1 then a 0 j else clr a s 0 j) = (if s + 1 = s + 1 then a 0 j else clr a s (s + 1) j)
      rw [if_neg (by omega), if_pos rfl]
      exact if_neg (by omega))
    have e := dtm_lin (k := k + 1) (s := s + 1) (a := clr a (s + 1)) (b := clr a s) (c := fun i j => if i = s + 1 then a 0 j else clr a s i j) (x := a 0 0) (y := - a (s + 1) 0) (by omega) (fun i t hi ht his => by
      show clr a (s + 1) i t = clr a s i t ∧ clr a (s + 1) i t = (if i = s + 1 then a 0 t else clr a s i t)
      rw [if_neg his]
      have : clr a (s + 1) i t = clr a s i t := by
        unfold clr
        by_cases q : 1 ≤ i ∧ i ≤ s
        · rw [if_pos q, if_pos (by omega)]
        · rw [if_neg q, if_neg (by omega)]
      exact ⟨this, this⟩) (fun t ht => by
      show clr a (s + 1) (s + 1) t = a 0 0 * clr a s (s + 1) t + - a (s + 1) 0 * (if s + 1 = s + 1 then a 0 t else clr a s (s + 1) t)
      rw [if_pos rfl]
      unfold clr
      rw [if_pos (by omega), if_neg (by omega), Int.neg_mul]
      omega)
    rw [e, z, ih, Int.mul_zero, Int.add_zero, Int.pow_succ, ← Int.mul_assoc, Int.mul_comm (a 0 0)]
theorem sgs_head : ∀ (k : Nat) (f : Nat → Int), (∀ j, 1 ≤ j → j < k + 1 → f j = 0) → sgs (k + 1) f = f 0
  | 0, f, _ => by show 0 + (if 0 % 2 = 0 then f 0 else - f 0) = f 0; rw [if_pos rfl]; omega
  | k + 1, f, h => by
    show sgs (k + 1) f + (if (k + 1) % 2 = 0 then f (k + 1) else - f (k + 1)) = f 0
    rw [sgs_head k f (fun j h1 h2 => h j h1 (by omega)), h (k + 1) (by omega) (by omega)]
    split <;> omega
theorem chio {k : Nat} (hk : k + 1 ≤ 5) (h1 : 1 ≤ k) (a : Nat → Nat → Int) : a 0 0 ^ k * dtm (k + 1) a = a 0 0 * dtm k (chi a) := by
  rw [← clr_dtm hk a k (Nat.le_refl _)]
  have e : dtm (k + 1) (clr a k) = sgs (k + 1) (fun j => clr a k 0 j * dtm k (fun i t => clr a k (i + 1) (skp j t))) := rfl
  rw [e, sgs_head k _ (fun j hj1 hj2 => by
    show clr a k 0 j * dtm k (fun i t => clr a k (i + 1) (skp j t)) = 0
    rw [dtm_col0 h1 (fun i hi => by
      show clr a k (i + 1) (skp j 0) = 0
      rw [show skp j 0 = 0 by unfold skp; rw [if_pos (by omega)]]
      unfold clr
      rw [if_pos (by omega), Int.mul_comm]
      omega), Int.mul_zero])]
  show clr a k 0 0 * dtm k (fun i t => clr a k (i + 1) (skp 0 t)) = _
  rw [show clr a k 0 0 = a 0 0 from if_neg (by omega)]
  congr 1
  exact dtm_congr (fun i t hi ht => by
    show clr a k (i + 1) (skp 0 t) = chi a i t
    rw [show skp 0 t = t + 1 by unfold skp; rw [if_neg (by omega)]]
    unfold clr chi
    rw [if_pos (by omega)])
/-- a row moved to the top of the others without one -/
def mvr (r i : Nat) (a : Nat → Nat → Int) : Nat → Nat → Int := fun s t => if s = 0 then a r t else a (skp i (s - 1)) t
def mnr (a : Nat → Nat → Int) (i j : Nat) : Nat → Nat → Int := fun s t => a (skp i s) (skp j t)
theorem mvr_dtm {k : Nat} (r i : Nat) (a : Nat → Nat → Int) : dtm (k + 1) (mvr r i a) = sgs (k + 1) (fun j => a r j * dtm k (mnr a i j)) := sgs_congr (fun j hj => by
  show (if 0 = 0 then a r j else _) * dtm k (fun s t => mvr r i a (s + 1) (skp j t)) = _
  rw [if_pos rfl]
  congr 1)
theorem mvr_self {k : Nat} (hk : k + 1 ≤ 5) : ∀ (i : Nat) (a : Nat → Nat → Int), i < k + 1 → dtm (k + 1) (mvr i i a) = if i % 2 = 0 then dtm (k + 1) a else - dtm (k + 1) a
  | 0, a, _ => by
    rw [if_pos rfl]
    exact dtm_congr (fun s t _ _ => by
      unfold mvr
      by_cases e : s = 0
      · rw [if_pos e, e]
      · rw [if_neg e, show skp 0 (s - 1) = s by unfold skp; rw [if_neg (by omega)]; omega])
  | i + 1, a, hi => by
    have ih := mvr_self hk i (fun s t => a (sw i s) t) (by omega)
    have e := dtm_swap (k := k + 1) (s := i) (a := a) hk (by omega)
    have e2 : dtm (k + 1) (mvr (i + 1) (i + 1) a) = dtm (k + 1) (mvr i i (fun s t => a (sw i s) t)) := dtm_congr (fun s t _ _ => by
      show (if s = 0 then a (i + 1) t else a (skp (i + 1) (s - 1)) t) = (if s = 0 then a (sw i i) t else a (sw i (skp i (s - 1))) t)
      by_cases q : s = 0
      · rw [if_pos q, if_pos q, show sw i i = i + 1 by unfold sw; rw [if_pos rfl]]
      · rw [if_neg q, if_neg q]
        congr 1
        unfold skp sw
        by_cases q1 : s - 1 < i
        · rw [if_pos (by omega), if_pos q1, if_neg (by omega), if_neg (by omega)]
        · rw [if_neg q1]
          by_cases q2 : s - 1 = i
          · rw [if_pos (by omega), if_neg (by omega), if_pos (by omega), q2]
          · rw [if_neg (by omega), if_neg (by omega), if_neg (by omega)])
    rw [e2, ih, e]
    by_cases q : i % 2 = 0
    · rw [if_pos q, if_neg (by omega)]
    · rw [if_neg q, if_pos (by omega)]; omega
/-- the square times its minors -/
theorem dtm_adj {k : Nat} (hk : k + 1 ≤ 5) (a : Nat → Nat → Int) {r i : Nat} (hr : r < k + 1) (hi : i < k + 1) : sgs (k + 1) (fun j => a r j * dtm k (mnr a i j)) = if r = i then (if i % 2 = 0 then dtm (k + 1) a else - dtm (k + 1) a) else 0 := by
  rw [← mvr_dtm]
  by_cases e : r = i
  · rw [if_pos e, e]
    exact mvr_self hk i a hi
  · rw [if_neg e]
    by_cases q : r < i
    · refine dtm_eqrow' (s := 0) (t := r + 1) hk (by omega) (by omega) (fun j hj => ?_)
      unfold mvr skp
      rw [if_pos rfl, if_neg (by omega), if_pos (by omega), show r + 1 - 1 = r by omega]
    · refine dtm_eqrow' (s := 0) (t := r) hk (by omega) (by omega) (fun j hj => ?_)
      unfold mvr skp
      rw [if_pos rfl, if_neg (by omega), if_neg (by omega), show r - 1 + 1 = r by omega]
