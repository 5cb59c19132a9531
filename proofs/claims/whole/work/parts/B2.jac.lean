/-! the squares by fraction-free steps -/
set_option maxRecDepth 100000 in
theorem jac0 (b : Nat → Nat → Int) : dtm 2 b * dtm 0 b = dtm 1 (mnr b 0 0) * dtm 1 (mnr b 1 1) - dtm 1 (mnr b 0 1) * dtm 1 (mnr b 1 0) := by
  have e0 : dtm 2 b = 0 + b 0 0 * (0 + b 1 1 * (1)) + -(b 0 1 * (0 + b 1 0 * (1))) := rfl
  have e1 : dtm 0 b = 1 := rfl
  have e2 : dtm 1 (mnr b 0 0) = 0 + b 1 1 * (1) := rfl
  have e3 : dtm 1 (mnr b 1 1) = 0 + b 0 0 * (1) := rfl
  have e4 : dtm 1 (mnr b 0 1) = 0 + b 1 0 * (1) := rfl
  have e5 : dtm 1 (mnr b 1 0) = 0 + b 0 1 * (1) := rfl
  rw [e0, e1, e2, e3, e4, e5]
  generalize b 0 0 = x00
  generalize b 0 1 = x01
  generalize b 1 0 = x10
  generalize b 1 1 = x11
  grind
set_option maxRecDepth 100000 in
theorem jac1 (b : Nat → Nat → Int) : dtm 3 b * dtm 1 b = dtm 2 (mnr b 1 1) * dtm 2 (mnr b 2 2) - dtm 2 (mnr b 1 2) * dtm 2 (mnr b 2 1) := by
  have e0 : dtm 3 b = 0 + b 0 0 * (0 + b 1 1 * (0 + b 2 2 * (1)) + -(b 1 2 * (0 + b 2 1 * (1)))) + -(b 0 1 * (0 + b 1 0 * (0 + b 2 2 * (1)) + -(b 1 2 * (0 + b 2 0 * (1))))) + b 0 2 * (0 + b 1 0 * (0 + b 2 1 * (1)) + -(b 1 1 * (0 + b 2 0 * (1)))) := rfl
  have e1 : dtm 1 b = 0 + b 0 0 * (1) := rfl
  have e2 : dtm 2 (mnr b 1 1) = 0 + b 0 0 * (0 + b 2 2 * (1)) + -(b 0 2 * (0 + b 2 0 * (1))) := rfl
  have e3 : dtm 2 (mnr b 2 2) = 0 + b 0 0 * (0 + b 1 1 * (1)) + -(b 0 1 * (0 + b 1 0 * (1))) := rfl
  have e4 : dtm 2 (mnr b 1 2) = 0 + b 0 0 * (0 + b 2 1 * (1)) + -(b 0 1 * (0 + b 2 0 * (1))) := rfl
  have e5 : dtm 2 (mnr b 2 1) = 0 + b 0 0 * (0 + b 1 2 * (1)) + -(b 0 2 * (0 + b 1 0 * (1))) := rfl
  rw [e0, e1, e2, e3, e4, e5]
  generalize b 0 0 = x00
  generalize b 0 1 = x01
  generalize b 0 2 = x02
  generalize b 1 0 = x10
  generalize b 1 1 = x11
  generalize b 1 2 = x12
  generalize b 2 0 = x20
  generalize b 2 1 = x21
  generalize b 2 2 = x22
  grind
set_option maxRecDepth 100000 in
theorem jac2 (b : Nat → Nat → Int) : dtm 4 b * dtm 2 b = dtm 3 (mnr b 2 2) * dtm 3 (mnr b 3 3) - dtm 3 (mnr b 2 3) * dtm 3 (mnr b 3 2) := by
  have e0 : dtm 4 b = 0 + b 0 0 * (0 + b 1 1 * (0 + b 2 2 * (0 + b 3 3 * (1)) + -(b 2 3 * (0 + b 3 2 * (1)))) + -(b 1 2 * (0 + b 2 1 * (0 + b 3 3 * (1)) + -(b 2 3 * (0 + b 3 1 * (1))))) + b 1 3 * (0 + b 2 1 * (0 + b 3 2 * (1)) + -(b 2 2 * (0 + b 3 1 * (1))))) + -(b 0 1 * (0 + b 1 0 * (0 + b 2 2 * (0 + b 3 3 * (1)) + -(b 2 3 * (0 + b 3 2 * (1)))) + -(b 1 2 * (0 + b 2 0 * (0 + b 3 3 * (1)) + -(b 2 3 * (0 + b 3 0 * (1))))) + b 1 3 * (0 + b 2 0 * (0 + b 3 2 * (1)) + -(b 2 2 * (0 + b 3 0 * (1)))))) + b 0 2 * (0 + b 1 0 * (0 + b 2 1 * (0 + b 3 3 * (1)) + -(b 2 3 * (0 + b 3 1 * (1)))) + -(b 1 1 * (0 + b 2 0 * (0 + b 3 3 * (1)) + -(b 2 3 * (0 + b 3 0 * (1))))) + b 1 3 * (0 + b 2 0 * (0 + b 3 1 * (1)) + -(b 2 1 * (0 + b 3 0 * (1))))) + -(b 0 3 * (0 + b 1 0 * (0 + b 2 1 * (0 + b 3 2 * (1)) + -(b 2 2 * (0 + b 3 1 * (1)))) + -(b 1 1 * (0 + b 2 0 * (0 + b 3 2 * (1)) + -(b 2 2 * (0 + b 3 0 * (1))))) + b 1 2 * (0 + b 2 0 * (0 + b 3 1 * (1)) + -(b 2 1 * (0 + b 3 0 * (1)))))) := rfl
  have e1 : dtm 2 b = 0 + b 0 0 * (0 + b 1 1 * (1)) + -(b 0 1 * (0 + b 1 0 * (1))) := rfl
  have e2 : dtm 3 (mnr b 2 2) = 0 + b 0 0 * (0 + b 1 1 * (0 + b 3 3 * (1)) + -(b 1 3 * (0 + b 3 1 * (1)))) + -(b 0 1 * (0 + b 1 0 * (0 + b 3 3 * (1)) + -(b 1 3 * (0 + b 3 0 * (1))))) + b 0 3 * (0 + b 1 0 * (0 + b 3 1 * (1)) + -(b 1 1 * (0 + b 3 0 * (1)))) := rfl
  have e3 : dtm 3 (mnr b 3 3) = 0 + b 0 0 * (0 + b 1 1 * (0 + b 2 2 * (1)) + -(b 1 2 * (0 + b 2 1 * (1)))) + -(b 0 1 * (0 + b 1 0 * (0 + b 2 2 * (1)) + -(b 1 2 * (0 + b 2 0 * (1))))) + b 0 2 * (0 + b 1 0 * (0 + b 2 1 * (1)) + -(b 1 1 * (0 + b 2 0 * (1)))) := rfl
  have e4 : dtm 3 (mnr b 2 3) = 0 + b 0 0 * (0 + b 1 1 * (0 + b 3 2 * (1)) + -(b 1 2 * (0 + b 3 1 * (1)))) + -(b 0 1 * (0 + b 1 0 * (0 + b 3 2 * (1)) + -(b 1 2 * (0 + b 3 0 * (1))))) + b 0 2 * (0 + b 1 0 * (0 + b 3 1 * (1)) + -(b 1 1 * (0 + b 3 0 * (1)))) := rfl
  have e5 : dtm 3 (mnr b 3 2) = 0 + b 0 0 * (0 + b 1 1 * (0 + b 2 3 * (1)) + -(b 1 3 * (0 + b 2 1 * (1)))) + -(b 0 1 * (0 + b 1 0 * (0 + b 2 3 * (1)) + -(b 1 3 * (0 + b 2 0 * (1))))) + b 0 3 * (0 + b 1 0 * (0 + b 2 1 * (1)) + -(b 1 1 * (0 + b 2 0 * (1)))) := rfl
  rw [e0, e1, e2, e3, e4, e5]
  generalize b 0 0 = x00
  generalize b 0 1 = x01
  generalize b 0 2 = x02
  generalize b 0 3 = x03
  generalize b 1 0 = x10
  generalize b 1 1 = x11
  generalize b 1 2 = x12
  generalize b 1 3 = x13
  generalize b 2 0 = x20
  generalize b 2 1 = x21
  generalize b 2 2 = x22
  generalize b 2 3 = x23
  generalize b 3 0 = x30
  generalize b 3 1 = x31
  generalize b 3 2 = x32
  generalize b 3 3 = x33
  grind
theorem skp_succ (r i : Nat) : skp (r + 1) (i + 1) = skp r i + 1 := by
  unfold skp
  by_cases h : i < r
  · rw [if_pos h, if_pos (by omega)]
  · rw [if_neg h, if_neg (by omega)]
theorem chi_mnr (b : Nat → Nat → Int) (r c : Nat) : chi (mnr b (r + 1) (c + 1)) = mnr (chi b) r c := by
  funext i j
  unfold chi mnr
  rw [skp_succ, skp_succ, show skp (r + 1) 0 = 0 by unfold skp; rw [if_pos (by omega)], show skp (c + 1) 0 = 0 by unfold skp; rw [if_pos (by omega)]]
/-- Chio, with the first entry not 0 -/
theorem chio' {k : Nat} (hk : k + 2 ≤ 5) (b : Nat → Nat → Int) (h0 : b 0 0 ≠ 0) : dtm (k + 1) (chi b) = b 0 0 ^ k * dtm (k + 2) b := by
  have e := chio (k := k + 1) hk (by omega) b
  rw [Int.pow_succ, Int.mul_comm (b 0 0 ^ k), Int.mul_assoc] at e
  exact (Int.eq_of_mul_eq_mul_left h0 e).symm
theorem jac3 (b : Nat → Nat → Int) (h0 : b 0 0 ≠ 0) : dtm 5 b * dtm 3 b = dtm 4 (mnr b 3 3) * dtm 4 (mnr b 4 4) - dtm 4 (mnr b 3 4) * dtm 4 (mnr b 4 3) := by
  have j := jac2 (chi b)
  have c5 : dtm 4 (chi b) = b 0 0 ^ 3 * dtm 5 b := chio' (k := 3) (by decide) b h0
  have c3 : dtm 2 (chi b) = b 0 0 ^ 1 * dtm 3 b := chio' (k := 1) (by decide) b h0
  have cm : ∀ r c, dtm 3 (mnr (chi b) r c) = b 0 0 ^ 2 * dtm 4 (mnr b (r + 1) (c + 1)) := fun r c => by
    rw [← chi_mnr]
    have e0 : mnr b (r + 1) (c + 1) 0 0 = b 0 0 := by
      unfold mnr
      rw [show skp (r + 1) 0 = 0 by unfold skp; rw [if_pos (by omega)], show skp (c + 1) 0 = 0 by unfold skp; rw [if_pos (by omega)]]
    have := chio' (k := 2) (by decide) (mnr b (r + 1) (c + 1)) (by rw [e0]; exact h0)
    rw [e0] at this
    exact this
  rw [c5, c3, cm, cm, cm, cm] at j
  have hp : b 0 0 ^ 4 ≠ 0 := by
    intro q
    have e : b 0 0 ^ 4 = b 0 0 * (b 0 0 * (b 0 0 * b 0 0)) := by
      rw [Int.pow_succ, Int.pow_succ, Int.pow_succ, Int.pow_succ, Int.pow_zero, Int.one_mul]
      grind
    rw [e] at q
    rcases Int.mul_eq_zero.mp q with r | r
    · exact h0 r
    · rcases Int.mul_eq_zero.mp r with r | r
      · exact h0 r
      · rcases Int.mul_eq_zero.mp r with r | r <;> exact h0 r
  refine Int.eq_of_mul_eq_mul_left hp ?_
  have e1 : b 0 0 ^ 4 * (dtm 5 b * dtm 3 b) = b 0 0 ^ 3 * dtm 5 b * (b 0 0 ^ 1 * dtm 3 b) := by
    generalize dtm 5 b = A
    generalize dtm 3 b = C
    generalize b 0 0 = p
    grind
  have e2 : b 0 0 ^ 4 * (dtm 4 (mnr b 3 3) * dtm 4 (mnr b 4 4) - dtm 4 (mnr b 3 4) * dtm 4 (mnr b 4 3)) = b 0 0 ^ 2 * dtm 4 (mnr b 3 3) * (b 0 0 ^ 2 * dtm 4 (mnr b 4 4)) - b 0 0 ^ 2 * dtm 4 (mnr b 3 4) * (b 0 0 ^ 2 * dtm 4 (mnr b 4 3)) := by
    generalize dtm 4 (mnr b 3 3) = A
    generalize dtm 4 (mnr b 4 4) = C
    generalize dtm 4 (mnr b 3 4) = E
    generalize dtm 4 (mnr b 4 3) = F
    generalize b 0 0 = p
    grind
  rw [e1, e2]
  exact j
/-- the first rows and columns with one more each -/
def bord (k : Nat) (a : Nat → Nat → Int) (i j : Nat) : Nat → Nat → Int := fun s t => a (if s < k then s else i) (if t < k then t else j)
theorem jac {k : Nat} (hk : k ≤ 3) (a : Nat → Nat → Int) (h0 : k = 3 → a 0 0 ≠ 0) (i j : Nat) : dtm (k + 2) (bord (k + 1) a i j) * dtm k a = dtm (k + 1) (bord k a i j) * dtm (k + 1) (bord k a k k) - dtm (k + 1) (bord k a i k) * dtm (k + 1) (bord k a k j) := by
  have gen : ∀ x y : Nat, (x = k ∨ x = k + 1) → (y = k ∨ y = k + 1) → dtm (k + 1) (mnr (bord (k + 1) a i j) x y) = dtm (k + 1) (bord k a (if x = k then i else k) (if y = k then j else k)) := fun x y hx hy => dtm_congr (fun s t hs ht => by
    show a (if skp x s < k + 1 then skp x s else i) (if skp y t < k + 1 then skp y t else j) = a (if s < k then s else (if x = k then i else k)) (if t < k then t else (if y = k then j else k))
    have f : ∀ z q u : Nat, (z = k ∨ z = k + 1) → q < k + 1 → (if skp z q < k + 1 then skp z q else u) = (if q < k then q else (if z = k then u else k)) := fun z q u hz hq => by
      unfold skp
      by_cases h1 : q < k
      · rw [if_pos (show q < z by omega), if_pos (by omega), if_pos h1]
      · rw [if_neg h1]
        rcases hz with hz | hz
        · rw [if_neg (show ¬ q < z by omega), if_neg (by omega), if_pos hz]
        · rw [if_pos (show q < z by omega), if_pos (by omega), if_neg (by omega)]; omega
    rw [f x s i hx hs, f y t j hy ht])
  have lead : dtm k (bord (k + 1) a i j) = dtm k a := dtm_congr (fun s t hs ht => by
    show a (if s < k + 1 then s else i) (if t < k + 1 then t else j) = a s t
    rw [if_pos (by omega), if_pos (by omega)])
  have J : dtm (k + 2) (bord (k + 1) a i j) * dtm k (bord (k + 1) a i j) = dtm (k + 1) (mnr (bord (k + 1) a i j) k k) * dtm (k + 1) (mnr (bord (k + 1) a i j) (k + 1) (k + 1)) - dtm (k + 1) (mnr (bord (k + 1) a i j) k (k + 1)) * dtm (k + 1) (mnr (bord (k + 1) a i j) (k + 1) k) := by
    have : k = 0 ∨ k = 1 ∨ k = 2 ∨ k = 3 := by omega
    rcases this with rfl | rfl | rfl | rfl
    · exact jac0 _
    · exact jac1 _
    · exact jac2 _
    · exact jac3 _ (by
        show a (if 0 < 4 then 0 else i) (if 0 < 4 then 0 else j) ≠ 0
        exact h0 rfl)
  rw [lead, gen k k (Or.inl rfl) (Or.inl rfl), gen (k + 1) (k + 1) (Or.inr rfl) (Or.inr rfl), gen k (k + 1) (Or.inl rfl) (Or.inr rfl), gen (k + 1) k (Or.inr rfl) (Or.inl rfl)] at J
  simp only [if_neg (show ¬ k + 1 = k by omega), if_true] at J
  exact J
theorem chi_bord (k : Nat) (a : Nat → Nat → Int) (i j : Nat) : chi (bord (k + 1) a (i + 1) (j + 1)) = bord k (chi a) i j := by
  funext s t
  unfold chi bord
  have f : ∀ q u : Nat, (if q + 1 < k + 1 then q + 1 else u + 1) = (if q < k then q else u) + 1 := fun q u => by
    by_cases h : q < k
    · rw [if_pos h, if_pos (by omega)]
    · rw [if_neg h, if_neg (by omega)]
  rw [f s i, f t j, if_pos (by omega), if_pos (by omega)]
/-- no pivot: nothing comes of it -/
theorem no_pivot : ∀ (k : Nat) {n : Nat} {a : Nat → Nat → Int}, n ≤ 5 → k < n → (∀ s, 1 ≤ s → s ≤ k → dtm s a ≠ 0) → (∀ i, k ≤ i → i < n → dtm (k + 1) (bord k a i k) = 0) → dtm n a = 0
  | 0, n, a, hn, hk, _, h => dtm_col0 (by omega) (fun i hi => by
    have : dtm 1 (bord 0 a i 0) = 0 := h i (by omega) hi
    have e : dtm 1 (bord 0 a i 0) = 0 + a i 0 * 1 := rfl
    omega)
  | k + 1, n, a, hn, hk, hl, h => by
    have h0 : a 0 0 ≠ 0 := by
      have h1 := hl 1 (by omega) (by omega)
      have e : dtm 1 a = 0 + a 0 0 * 1 := rfl
      intro q
      rw [e, q] at h1
      exact h1 rfl
    have hpw : ∀ t : Nat, a 0 0 ^ t ≠ 0 := by
      intro t
      induction t with
      | zero => rw [Int.pow_zero]; decide
      | succ t ih =>
        rw [Int.pow_succ]
        intro q
        rcases Int.mul_eq_zero.mp q with r | r
        · exact ih r
        · exact h0 r
    obtain ⟨q, rfl⟩ : ∃ q, n = q + 2 := ⟨n - 2, by omega⟩
    have e := chio' (k := q) hn a h0
    have ih := no_pivot k (n := q + 1) (a := chi a) (by omega) (by omega) (fun s h1 h2 => by
      obtain ⟨p, rfl⟩ : ∃ p, s = p + 1 := ⟨s - 1, by omega⟩
      rw [chio' (k := p) (by omega) a h0]
      intro r
      rcases Int.mul_eq_zero.mp r with r | r
      · exact hpw p r
      · exact hl (p + 2) (by omega) (by omega) r) (fun i h1 h2 => by
      rw [← chi_bord]
      have e00 : bord (k + 1) a (i + 1) (k + 1) 0 0 = a 0 0 := by
        unfold bord
        rw [if_pos (by omega), if_pos (by omega)]
      rw [chio' (k := k) (by omega) (bord (k + 1) a (i + 1) (k + 1)) (by rw [e00]; exact h0), h (i + 1) (by omega) (by omega), Int.mul_zero])
    rw [ih] at e
    rcases Int.mul_eq_zero.mp e.symm with r | r
    · exact absurd r (hpw q)
    · exact r
/-- any two rows exchanged -/
def swp (k w i : Nat) : Nat := if i = k then w else if i = w then k else i
theorem dtm_swp {n k w : Nat} (hn : n ≤ 5) (hkw : k < w) (hw : w < n) (a : Nat → Nat → Int) : dtm n (fun i j => a (swp k w i) j) = - dtm n a := by
  have P : ∀ x y : Nat → Int, ∃ M : Nat → Nat → Int, M = fun i j => if i = k then x j else if i = w then y j else a i j := fun x y => ⟨_, rfl⟩
  have lin1 : ∀ x x' y : Nat → Int, dtm n (fun i j => if i = k then x j + x' j else if i = w then y j else a i j) = dtm n (fun i j => if i = k then x j else if i = w then y j else a i j) + dtm n (fun i j => if i = k then x' j else if i = w then y j else a i j) := fun x x' y => by
    have := dtm_lin (k := n) (s := k) (a := fun i j => if i = k then x j + x' j else if i = w then y j else a i j) (b := fun i j => if i = k then x j else if i = w then y j else a i j) (c := fun i j => if i = k then x' j else if i = w then y j else a i j) (x := 1) (y := 1) (by omega) (fun i t _ _ h => by
      show (if i = k then x t + x' t else _) = (if i = k then x t else _) ∧ (if i = k then x t + x' t else _) = (if i = k then x' t else _)
      rw [if_neg h, if_neg h, if_neg h]
      exact ⟨rfl, rfl⟩) (fun t _ => by
      show (if k = k then x t + x' t else _) = 1 * (if k = k then x t else _) + 1 * (if k = k then x' t else _)
      rw [if_pos rfl, if_pos rfl, if_pos rfl]; omega)
    omega
  have lin2 : ∀ x y y' : Nat → Int, dtm n (fun i j => if i = k then x j else if i = w then y j + y' j else a i j) = dtm n (fun i j => if i = k then x j else if i = w then y j else a i j) + dtm n (fun i j => if i = k then x j else if i = w then y' j else a i j) := fun x y y' => by
    have := dtm_lin (k := n) (s := w) (a := fun i j => if i = k then x j else if i = w then y j + y' j else a i j) (b := fun i j => if i = k then x j else if i = w then y j else a i j) (c := fun i j => if i = k then x j else if i = w then y' j else a i j) (x := 1) (y := 1) (by omega) (fun i t _ _ h => by
      show (if i = k then x t else if i = w then y t + y' t else a i t) = (if i = k then x t else if i = w then y t else a i t) ∧ (if i = k then x t else if i = w then y t + y' t else a i t) = (if i = k then x t else if i = w then y' t else a i t)
      rw [if_neg h, if_neg h, if_neg h]
      exact ⟨rfl, rfl⟩) (fun t _ => by
      show (if w = k then x t else if w = w then y t + y' t else a w t) = 1 * (if w = k then x t else if w = w then y t else a w t) + 1 * (if w = k then x t else if w = w then y' t else a w t)
      simp only [if_neg (show ¬ w = k by omega), if_true]; omega)
    omega
  have zero : ∀ x : Nat → Int, dtm n (fun i j => if i = k then x j else if i = w then x j else a i j) = 0 := fun x => dtm_eqrow' (s := k) (t := w) hn hkw hw (fun j _ => by
    show (if k = k then x j else _) = (if w = k then x j else if w = w then x j else a w j)
    rw [if_pos rfl, if_neg (by omega), if_pos rfl])
  have h := zero (fun j => a k j + a w j)
  rw [lin1 (a k) (a w), lin2 (a k) (a k) (a w), lin2 (a w) (a k) (a w), zero (a k), zero (a w)] at h
  have e1 : dtm n (fun i j => if i = k then a k j else if i = w then a w j else a i j) = dtm n a := dtm_congr (fun i j _ _ => by
    by_cases h1 : i = k
    · rw [if_pos h1, h1]
    · rw [if_neg h1]
      by_cases h2 : i = w
      · rw [if_pos h2, h2]
      · rw [if_neg h2])
  have e2 : dtm n (fun i j => if i = k then a w j else if i = w then a k j else a i j) = dtm n (fun i j => a (swp k w i) j) := dtm_congr (fun i j _ _ => by
    show _ = a (swp k w i) j
    unfold swp
    by_cases h1 : i = k
    · rw [if_pos h1, if_pos h1]
    · rw [if_neg h1, if_neg h1]
      by_cases h2 : i = w
      · rw [if_pos h2, if_pos h2]
      · rw [if_neg h2, if_neg h2])
  rw [e1, e2] at h
  omega
