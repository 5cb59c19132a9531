/-! sets as the programs write them -/
def mb (s i : Int) : Bool := decide (bAnd (bShr s i) 1 = 1)
theorem or_tab : ∀ x y : Fin 32, (0 ≤ bOr (x.val : Int) (y.val : Int) ∧ bOr (x.val : Int) (y.val : Int) < 32) ∧ ∀ i : Fin 5, mb (bOr (x.val : Int) (y.val : Int)) (i.val : Int) = (mb (x.val : Int) (i.val : Int) || mb (y.val : Int) (i.val : Int)) := by decide +kernel
theorem diff_tab : ∀ x y : Fin 32, (0 ≤ bAnd (x.val : Int) (bXor (y.val : Int) (-1)) ∧ bAnd (x.val : Int) (bXor (y.val : Int) (-1)) < 32) ∧ ∀ i : Fin 5, mb (bAnd (x.val : Int) (bXor (y.val : Int) (-1))) (i.val : Int) = (mb (x.val : Int) (i.val : Int) && !mb (y.val : Int) (i.val : Int)) := by decide +kernel
theorem and_tab : ∀ x y : Fin 32, (0 ≤ bAnd (x.val : Int) (y.val : Int) ∧ bAnd (x.val : Int) (y.val : Int) < 32) ∧ ∀ i : Fin 5, mb (bAnd (x.val : Int) (y.val : Int)) (i.val : Int) = (mb (x.val : Int) (i.val : Int) && mb (y.val : Int) (i.val : Int)) := by decide +kernel
theorem shl_tab : ∀ j : Fin 5, bShl 1 (j.val : Int) = pw (j.val : Int) ∧ ∀ i : Fin 5, mb (bShl 1 (j.val : Int)) (i.val : Int) = decide (i = j) := by decide +kernel
theorem shl_full : ∀ n : Fin 6, bShl 1 (n.val : Int) - 1 = bs n.val (fun _ => true) ∧ bShl 1 (n.val : Int) = bs n.val (fun _ => true) + 1 := by decide +kernel
theorem mb_tab : ∀ x : Fin 32, (x.val : Int) = bs 5 (fun i => mb (x.val : Int) i) := by decide +kernel
theorem fin_of {x : Int} {k : Nat} (h0 : 0 ≤ x) (h1 : x < (k : Int)) : ∃ f : Fin k, x = (f.val : Int) := ⟨⟨x.toNat, by omega⟩, (Int.toNat_of_nonneg h0).symm⟩
theorem mb_or {x y : Int} (hx : 0 ≤ x ∧ x < 32) (hy : 0 ≤ y ∧ y < 32) : (0 ≤ bOr x y ∧ bOr x y < 32) ∧ ∀ i, 0 ≤ i → i < 5 → mb (bOr x y) i = (mb x i || mb y i) := by
  obtain ⟨a, rfl⟩ := fin_of (k := 32) hx.1 hx.2
  obtain ⟨c, rfl⟩ := fin_of (k := 32) hy.1 hy.2
  refine ⟨(or_tab a c).1, fun i i0 i5 => ?_⟩
  obtain ⟨t, rfl⟩ := fin_of (k := 5) i0 i5
  exact (or_tab a c).2 t
theorem mb_diff {x y : Int} (hx : 0 ≤ x ∧ x < 32) (hy : 0 ≤ y ∧ y < 32) : (0 ≤ bAnd x (bXor y (-1)) ∧ bAnd x (bXor y (-1)) < 32) ∧ ∀ i, 0 ≤ i → i < 5 → mb (bAnd x (bXor y (-1))) i = (mb x i && !mb y i) := by
  obtain ⟨a, rfl⟩ := fin_of (k := 32) hx.1 hx.2
  obtain ⟨c, rfl⟩ := fin_of (k := 32) hy.1 hy.2
  refine ⟨(diff_tab a c).1, fun i i0 i5 => ?_⟩
  obtain ⟨t, rfl⟩ := fin_of (k := 5) i0 i5
  exact (diff_tab a c).2 t
theorem mb_and {x y : Int} (hx : 0 ≤ x ∧ x < 32) (hy : 0 ≤ y ∧ y < 32) : (0 ≤ bAnd x y ∧ bAnd x y < 32) ∧ ∀ i, 0 ≤ i → i < 5 → mb (bAnd x y) i = (mb x i && mb y i) := by
  obtain ⟨a, rfl⟩ := fin_of (k := 32) hx.1 hx.2
  obtain ⟨c, rfl⟩ := fin_of (k := 32) hy.1 hy.2
  refine ⟨(and_tab a c).1, fun i i0 i5 => ?_⟩
  obtain ⟨t, rfl⟩ := fin_of (k := 5) i0 i5
  exact (and_tab a c).2 t
theorem pw_rng {j : Int} : 0 < pw j ∧ pw j < 32 := by
  unfold pw
  split
  · decide
  · split
    · decide
    · split
      · decide
      · split <;> decide
theorem mb_shl {j : Int} (hj : 0 ≤ j ∧ j < 5) : bShl 1 j = pw j ∧ ∀ i, 0 ≤ i → i < 5 → mb (bShl 1 j) i = decide (i = j) := by
  obtain ⟨a, rfl⟩ := fin_of (k := 5) hj.1 hj.2
  refine ⟨(shl_tab a).1, fun i i0 i5 => ?_⟩
  obtain ⟨t, rfl⟩ := fin_of (k := 5) i0 i5
  rw [(shl_tab a).2 t]
  by_cases e : t = a
  · rw [decide_eq_true e, e, decide_eq_true rfl]
  · rw [decide_eq_false e, decide_eq_false (fun q => e (Fin.ext (by omega)))]
theorem mb_ext {x y : Int} (hx : 0 ≤ x ∧ x < 32) (hy : 0 ≤ y ∧ y < 32) (h : ∀ i, 0 ≤ i → i < 5 → mb x i = mb y i) : x = y := by
  obtain ⟨a, rfl⟩ := fin_of (k := 32) hx.1 hx.2
  obtain ⟨c, rfl⟩ := fin_of (k := 32) hy.1 hy.2
  rw [mb_tab a, mb_tab c]
  exact bs_congr (fun i hi => h i hi.1 (by have := hi.2; omega))
theorem mb_bs {n : Nat} (hn : n ≤ 5) (p : Int → Bool) {i : Int} (i0 : 0 ≤ i) (i5 : i < 5) : mb (bs n p) i = (decide (i < (n : Int)) && p i) := by
  rw [bs_five hn p]
  unfold mb
  rw [bs_bit (n := 5) (by omega) _ ⟨i0, by omega⟩]
  cases (decide (i < (n : Int)) && p i) <;> rfl
/-- a set of plates is what its members are -/
theorem bs_mb {n : Nat} (hn : n ≤ 5) {x : Int} (hx : 0 ≤ x ∧ x < 32) (h : ∀ i, 0 ≤ i → i < 5 → ¬ i < (n : Int) → mb x i = false) : x = bs n (mb x) := by
  refine mb_ext hx (bs5_range hn _) (fun i i0 i5 => ?_)
  rw [mb_bs hn _ i0 i5]
  by_cases e : i < (n : Int)
  · rw [decide_eq_true e, Bool.true_and]
  · rw [decide_eq_false e, Bool.false_and]
    exact h i i0 i5 e
theorem bs_eq {n : Nat} (hn : n ≤ 5) {p q : Int → Bool} (h : bs n p = bs n q) : ∀ i, In n i → p i = q i := by
  intro i hi
  have h1 := mb_bs hn p hi.1 (by have := hi.2; omega)
  have h2 := mb_bs hn q hi.1 (by have := hi.2; omega)
  rw [h] at h1
  rw [h1] at h2
  rw [decide_eq_true hi.2, Bool.true_and, Bool.true_and] at h2
  exact h2
theorem bs_or2 {n : Nat} (hn : n ≤ 5) (p q : Int → Bool) : bOr (bs n p) (bs n q) = bs n (fun i => p i || q i) := by
  have h := mb_or (bs5_range hn p) (bs5_range hn q)
  refine mb_ext h.1 (bs5_range hn _) (fun i i0 i5 => ?_)
  rw [h.2 i i0 i5, mb_bs hn p i0 i5, mb_bs hn q i0 i5, mb_bs hn _ i0 i5]
  cases decide (i < (n : Int)) <;> rfl
theorem bs_or1 {n : Nat} (hn : n ≤ 5) (p : Int → Bool) {j : Int} (hj : In n j) : bOr (bs n p) (bShl 1 j) = bs n (fun i => p i || decide (i = j)) := by
  have hj5 : 0 ≤ j ∧ j < 5 := ⟨hj.1, by have := hj.2; omega⟩
  have h1 := mb_shl hj5
  have hr : 0 ≤ bShl 1 j ∧ bShl 1 j < 32 := by rw [h1.1]; have := pw_rng (j := j); omega
  have h := mb_or (bs5_range hn p) hr
  refine mb_ext h.1 (bs5_range hn _) (fun i i0 i5 => ?_)
  rw [h.2 i i0 i5, mb_bs hn p i0 i5, h1.2 i i0 i5, mb_bs hn _ i0 i5]
  by_cases e : i = j
  · rw [decide_eq_true e, Bool.or_true, Bool.or_true, decide_eq_true (by rw [e]; exact hj.2)]; rfl
  · rw [decide_eq_false e, Bool.or_false, Bool.or_false]
theorem bs_diff1 {n : Nat} (hn : n ≤ 5) (p : Int → Bool) {j : Int} (hj : 0 ≤ j ∧ j < 5) : bAnd (bs n p) (bXor (bShl 1 j) (-1)) = bs n (fun i => p i && !decide (i = j)) := by
  have h1 := mb_shl hj
  have hr : 0 ≤ bShl 1 j ∧ bShl 1 j < 32 := by rw [h1.1]; have := pw_rng (j := j); omega
  have h := mb_diff (bs5_range hn p) hr
  refine mb_ext h.1 (bs5_range hn _) (fun i i0 i5 => ?_)
  rw [h.2 i i0 i5, mb_bs hn p i0 i5, h1.2 i i0 i5, mb_bs hn _ i0 i5, Bool.and_assoc]
theorem bs_diff2 {n : Nat} (hn : n ≤ 5) (p q : Int → Bool) : bAnd (bs n p) (bXor (bs n q) (-1)) = bs n (fun i => p i && !q i) := by
  have h := mb_diff (bs5_range hn p) (bs5_range hn q)
  refine mb_ext h.1 (bs5_range hn _) (fun i i0 i5 => ?_)
  rw [h.2 i i0 i5, mb_bs hn p i0 i5, mb_bs hn q i0 i5, mb_bs hn _ i0 i5]
  cases decide (i < (n : Int)) <;> rfl
theorem bs_full {n : Nat} (hn : n ≤ 5) : bShl 1 (n : Int) - 1 = bs n (fun _ => true) := (shl_full ⟨n, by omega⟩).1
theorem bit_bs {n : Nat} (hn : n ≤ 5) (p : Int → Bool) {i : Int} (hi : In n i) : (bAnd (bShr (bs n p) i) 1 = 0 ↔ p i = false) ∧ (bt (bs n p) i = 1 ↔ p i = true) := by
  have h := bs_bit hn p hi
  have h' : bt (bs n p) i = if p i = true then 1 else 0 := h
  rw [h, h']
  cases p i
  · exact ⟨⟨fun _ => rfl, fun _ => rfl⟩, ⟨fun q => absurd q (by decide), fun q => absurd q (by decide)⟩⟩
  · exact ⟨⟨fun q => absurd q (by decide), fun q => absurd q (by decide)⟩, ⟨fun _ => rfl, fun _ => rfl⟩⟩
theorem bs_none {n : Nat} : bs n (fun _ => false) = 0 := sm_zero n
