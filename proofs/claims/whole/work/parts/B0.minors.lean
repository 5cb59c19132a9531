/-! members of a set in their order; minors of sets -/
def cnt (x : Int) : Nat → Nat
  | 0 => 0
  | c + 1 => cnt x c + (if mb x (c : Int) = true then 1 else 0)
def ntl (x : Int) : List Nat := [0, 1, 2, 3, 4].filter (fun i => mb x ((i : Nat) : Int))
def nt (x : Int) (j : Nat) : Nat := (ntl x).getD j 0
def rmv (x : Int) (j : Nat) : Int := bAnd x (bXor (bShl 1 ((nt x j : Nat) : Int)) (-1))
theorem nt_tab : ∀ x : Fin 32, (cnt (x.val : Int) 5 : Int) = bcn (x.val : Int) ∧ ((x.val ≠ 0) → lsb (x.val : Int) = ((nt (x.val : Int) 0 : Nat) : Int) ∧ 0 < cnt (x.val : Int) 5) ∧ (x.val = 0 ↔ cnt (x.val : Int) 5 = 0) ∧ (∀ c : Fin 5, mb (x.val : Int) (c.val : Int) = true → nt (x.val : Int) (cnt (x.val : Int) c.val) = c.val ∧ cnt (x.val : Int) c.val < cnt (x.val : Int) 5) := by decide +kernel
theorem nt_tab2 : ∀ x : Fin 32, ∀ j : Fin 5, j.val < cnt (x.val : Int) 5 → (nt (x.val : Int) j.val < 5 ∧ mb (x.val : Int) ((nt (x.val : Int) j.val : Nat) : Int) = true) ∧ (0 ≤ rmv (x.val : Int) j.val ∧ rmv (x.val : Int) j.val < (x.val : Int)) ∧ cnt (rmv (x.val : Int) j.val) 5 + 1 = cnt (x.val : Int) 5 ∧ (∀ t : Fin 5, t.val + 1 < cnt (x.val : Int) 5 → nt (rmv (x.val : Int) j.val) t.val = nt (x.val : Int) (skp j.val t.val)) := by decide +kernel
theorem full_tab : ∀ n : Fin 6, (bs n.val (fun _ => true) < 32 ∧ cnt (bs n.val (fun _ => true)) 5 = n.val) ∧ (∀ i : Fin 5, i.val < n.val → nt (bs n.val (fun _ => true)) i.val = i.val) ∧ ∀ x : Fin 32, (x.val : Int) ≤ bs n.val (fun _ => true) → ∀ i : Fin 5, mb (x.val : Int) (i.val : Int) = true → i.val < n.val := by decide +kernel
theorem nt_1 {x : Int} (hx : 0 ≤ x ∧ x < 32) : (cnt x 5 : Int) = bcn x ∧ (x ≠ 0 → lsb x = ((nt x 0 : Nat) : Int) ∧ 0 < cnt x 5) ∧ (x = 0 ↔ cnt x 5 = 0) ∧ (∀ c : Nat, c < 5 → mb x (c : Int) = true → nt x (cnt x c) = c ∧ cnt x c < cnt x 5) := by
  obtain ⟨a, rfl⟩ := fin_of (k := 32) hx.1 hx.2
  obtain ⟨h1, h2, h3, h4⟩ := nt_tab a
  exact ⟨h1, fun q => h2 (fun r => q (by omega)), ⟨fun q => h3.mp (by omega), fun q => by have := h3.mpr q; omega⟩, fun c hc hm => h4 ⟨c, hc⟩ hm⟩
theorem nt_2 {x : Int} (hx : 0 ≤ x ∧ x < 32) {j : Nat} (hj : j < cnt x 5) (hj5 : j < 5) : (nt x j < 5 ∧ mb x ((nt x j : Nat) : Int) = true) ∧ (0 ≤ rmv x j ∧ rmv x j < x) ∧ cnt (rmv x j) 5 + 1 = cnt x 5 ∧ (∀ t : Nat, t < 5 → t + 1 < cnt x 5 → nt (rmv x j) t = nt x (skp j t)) := by
  obtain ⟨a, rfl⟩ := fin_of (k := 32) hx.1 hx.2
  obtain ⟨h1, h2, h3, h4⟩ := nt_tab2 a ⟨j, hj5⟩ hj
  exact ⟨h1, h2, h3, fun t ht hc => h4 ⟨t, ht⟩ hc⟩
theorem cnt_le (x : Int) : ∀ c, cnt x c ≤ c
  | 0 => Nat.le_refl 0
  | c + 1 => by
    have := cnt_le x c
    show cnt x c + (if mb x (c : Int) = true then 1 else 0) ≤ c + 1
    split <;> omega
theorem full_1 {n : Nat} (hn : n ≤ 5) : (bs n (fun _ => true) < 32 ∧ cnt (bs n (fun _ => true)) 5 = n) ∧ (∀ i, i < n → nt (bs n (fun _ => true)) i = i) ∧ ∀ x : Int, 0 ≤ x → x ≤ bs n (fun _ => true) → ∀ i : Nat, i < 5 → mb x (i : Int) = true → i < n := by
  obtain ⟨h1, h2, h3⟩ := full_tab ⟨n, by omega⟩
  refine ⟨h1, fun i hi => h2 ⟨i, by omega⟩ hi, fun x x0 x1 i hi hm => ?_⟩
  have x2 : x ≤ bs n (fun _ => true) := x1
  have hx32 : x < 32 := Int.lt_of_le_of_lt x2 h1.1
  obtain ⟨a, rfl⟩ := fin_of (k := 32) x0 hx32
  exact h3 a x1 ⟨i, hi⟩ hm
/-- the minor of a set of rows and a set of columns -/
def MnV (W : Int → Int → Int) (br : Int → Int) (R C : Int) : Int := dtm (cnt R 5) (fun i j => enN W br (nt R i) (nt C j))
def fct : Nat → Int
  | 0 => 1
  | k + 1 => ((k : Int) + 1) * (10 * fct k)
theorem sgs_bound : ∀ {k : Nat} {f : Nat → Int} {M : Int}, 0 ≤ M → (∀ j, j < k → -M ≤ f j ∧ f j ≤ M) → -((k : Int) * M) ≤ sgs k f ∧ sgs k f ≤ (k : Int) * M
  | 0, _, M, _, _ => by
    show -(((0 : Nat) : Int) * M) ≤ 0 ∧ 0 ≤ ((0 : Nat) : Int) * M
    rw [show ((0 : Nat) : Int) = 0 from rfl, Int.zero_mul]; omega
  | k + 1, f, M, hM, h => by
    have ih := sgs_bound (k := k) hM (fun j hj => h j (by omega))
    have hk := h k (by omega)
    have e : ((k + 1 : Nat) : Int) * M = (k : Int) * M + M := by rw [Int.natCast_add, Int.add_mul]; omega
    show -(((k + 1 : Nat) : Int) * M) ≤ sgs k f + (if k % 2 = 0 then f k else - f k) ∧ sgs k f + (if k % 2 = 0 then f k else - f k) ≤ ((k + 1 : Nat) : Int) * M
    rw [e]
    split <;> omega
theorem fct_pos : ∀ k, 0 < fct k
  | 0 => by show (0 : Int) < 1; decide
  | k + 1 => Int.mul_pos (by omega) (Int.mul_pos (by decide) (fct_pos k))
theorem prod_bound {x y M N : Int} (hx : -M ≤ x ∧ x ≤ M) (hy : -N ≤ y ∧ y ≤ N) (hM : 0 ≤ M) (hN : 0 ≤ N) : -(M * N) ≤ x * y ∧ x * y ≤ M * N := by
  have a1 := Int.mul_nonneg (show 0 ≤ M - x by omega) (show 0 ≤ N + y by omega)
  have a2 := Int.mul_nonneg (show 0 ≤ M + x by omega) (show 0 ≤ N - y by omega)
  have a3 := Int.mul_nonneg (show 0 ≤ M - x by omega) (show 0 ≤ N - y by omega)
  have a4 := Int.mul_nonneg (show 0 ≤ M + x by omega) (show 0 ≤ N + y by omega)
  rw [Int.sub_mul, Int.mul_add, Int.mul_add] at a1
  rw [Int.add_mul, Int.mul_sub, Int.mul_sub] at a2
  rw [Int.sub_mul, Int.mul_sub, Int.mul_sub] at a3
  rw [Int.add_mul, Int.mul_add, Int.mul_add] at a4
  omega
theorem dtm_bound : ∀ {k : Nat} {a : Nat → Nat → Int}, (∀ i j, i < k → j < k → -10 ≤ a i j ∧ a i j ≤ 10) → - fct k ≤ dtm k a ∧ dtm k a ≤ fct k
  | 0, _, _ => by show -(1 : Int) ≤ 1 ∧ (1 : Int) ≤ 1; decide
  | k + 1, a, h => by
    have hp := fct_pos k
    have := sgs_bound (k := k + 1) (f := fun j => a 0 j * dtm k (fun i t => a (i + 1) (skp j t))) (M := 10 * fct k) (by omega) (fun j hj => prod_bound (h 0 j (by omega) hj) (dtm_bound (fun i t hi ht => h (i + 1) (skp j t) (by omega) (skp_lt ht))) (by decide) (by omega))
    exact this
theorem fct_le {k : Nat} (hk : k ≤ 5) : fct k ≤ 12000000 := by
  have : k = 0 ∨ k = 1 ∨ k = 2 ∨ k = 3 ∨ k = 4 ∨ k = 5 := by omega
  rcases this with rfl | rfl | rfl | rfl | rfl | rfl <;> decide
theorem fct_le4 {k : Nat} (hk : k ≤ 4) : fct k ≤ 240000 := by
  have : k = 0 ∨ k = 1 ∨ k = 2 ∨ k = 3 ∨ k = 4 := by omega
  rcases this with rfl | rfl | rfl | rfl | rfl <;> decide
section Min
variable {l : Launch} {G : GT} {d : Nat} {m : MM} {b : Nat} {n : Nat} {D : Int → Int} {W : Int → Int → Int} {br : Int → Int}
theorem enN_rng (B : BW n D W br) {i j : Nat} (hi : i < n) (hj : j < n) : -10 ≤ enN W br i j ∧ enN W br i j ≤ 10 := by
  have hi2 : In n (i : Int) := ⟨by omega, by omega⟩
  have hj2 : In n (j : Int) := ⟨by omega, by omega⟩
  unfold enN
  have := B.br hi2
  have := B.br10 hi2
  have := B.2.2.1 i j hi2 hj2
  split <;> omega
/-- sets of plates that there are -/
def Sub (n : Nat) (x : Int) : Prop := 0 ≤ x ∧ x ≤ bs n (fun _ => true)
theorem Sub.rng (hn : n ≤ 5) {x : Int} (h : Sub n x) : 0 ≤ x ∧ x < 32 := ⟨h.1, Int.lt_of_le_of_lt h.2 (full_1 hn).1.1⟩
theorem Sub.nt (hn : n ≤ 5) {x : Int} (h : Sub n x) {j : Nat} (hj : j < cnt x 5) : nt x j < n := by
  have h5 := cnt_le x 5
  have h2 := nt_2 (h.rng hn) hj (by omega)
  exact (full_1 hn).2.2 x h.1 h.2 _ h2.1.1 h2.1.2
theorem MnV_rng (B : BW n D W br) {R C : Int} (hR : Sub n R) (hC : Sub n C) (e : cnt R 5 = cnt C 5) : - fct (cnt R 5) ≤ MnV W br R C ∧ MnV W br R C ≤ fct (cnt R 5) :=
  dtm_bound (fun i j hi hj => enN_rng B (hR.nt B.1 hi) (hC.nt B.1 (by omega)))
/-- a minor by its first row -/
theorem MnV_exp (hn : n ≤ 5) {R C : Int} (hR : Sub n R) (hC : Sub n C) (e : cnt R 5 = cnt C 5) (h0 : 0 < cnt R 5) : MnV W br R C = sgs (cnt C 5) (fun j => enN W br (nt R 0) (nt C j) * MnV W br (rmv R 0) (rmv C j)) := by
  obtain ⟨k, hk⟩ : ∃ k, cnt R 5 = k + 1 := ⟨cnt R 5 - 1, by omega⟩
  have h5 := cnt_le R 5
  have hR2 := nt_2 (hR.rng hn) h0 (by decide)
  unfold MnV
  rw [← e, hk]
  show sgs (k + 1) _ = _
  refine sgs_congr (fun j hj => ?_)
  have hC2 := nt_2 (hC.rng hn) (j := j) (by omega) (by omega)
  have e1 : cnt (rmv R 0) 5 = k := by omega
  show enN W br (nt R 0) (nt C j) * dtm k (fun i t => enN W br (nt R (i + 1)) (nt C (skp j t))) = _
  rw [e1]
  congr 1
  refine dtm_congr (fun i t hi ht => ?_)
  rw [hR2.2.2.2 i (by omega) (by omega), hC2.2.2.2 t (by omega) (by omega)]
  rw [show skp 0 i = i + 1 by unfold skp; rw [if_neg (by omega)]]
theorem Sub.rmv (hn : n ≤ 5) {x : Int} (h : Sub n x) {j : Nat} (hj : j < cnt x 5) : Sub n (rmv x j) ∧ rmv x j < x ∧ cnt (rmv x j) 5 + 1 = cnt x 5 := by
  have h5 := cnt_le x 5
  have h2 := nt_2 (h.rng hn) hj (by omega)
  exact ⟨⟨h2.2.1.1, by have := h.2; omega⟩, h2.2.1.2, h2.2.2.1⟩
end Min
