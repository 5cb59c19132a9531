/-! Sets of plates as bits. -/
/-- two to a small power -/
def pw (i : Int) : Int := if i = 0 then 1 else if i = 1 then 2 else if i = 2 then 4 else if i = 3 then 8 else 16
/-- the set of those that p holds of, below k -/
def bs (k : Nat) (p : Int → Bool) : Int := sm k (fun i => if p i then pw i else 0)
theorem bs_step (k : Nat) (p : Int → Bool) : bs (k + 1) p = bs k p ∨ bs (k + 1) p = bs k p + pw (k : Int) := by
  have e : bs (k + 1) p = bs k p + (if p k = true then pw (k : Int) else 0) := rfl
  rw [e]
  split
  · exact Or.inr rfl
  · exact Or.inl (by omega)
theorem bs_range (p : Int → Bool) : bs 0 p = 0 ∧ (0 ≤ bs 1 p ∧ bs 1 p ≤ 1) ∧ (0 ≤ bs 2 p ∧ bs 2 p ≤ 3) ∧ (0 ≤ bs 3 p ∧ bs 3 p ≤ 7) ∧ (0 ≤ bs 4 p ∧ bs 4 p ≤ 15) ∧ (0 ≤ bs 5 p ∧ bs 5 p ≤ 31) := by
  have h0 : bs 0 p = 0 := rfl
  have h1 : bs 1 p = bs 0 p ∨ bs 1 p = bs 0 p + 1 := bs_step 0 p
  have h2 : bs 2 p = bs 1 p ∨ bs 2 p = bs 1 p + 2 := bs_step 1 p
  have h3 : bs 3 p = bs 2 p ∨ bs 3 p = bs 2 p + 4 := bs_step 2 p
  have h4 : bs 4 p = bs 3 p ∨ bs 4 p = bs 3 p + 8 := bs_step 3 p
  have h5 : bs 5 p = bs 4 p ∨ bs 5 p = bs 4 p + 16 := bs_step 4 p
  omega
theorem bs_lt {k : Nat} (hk : k < 5) (p : Int → Bool) : 0 ≤ bs k p ∧ bs k p < pw (k : Int) ∧ bs k p < 32 := by
  have h := bs_range p
  match k, hk with
  | 0, _ => rw [show pw ((0 : Nat) : Int) = 1 from rfl]; omega
  | 1, _ => rw [show pw ((1 : Nat) : Int) = 2 from rfl]; omega
  | 2, _ => rw [show pw ((2 : Nat) : Int) = 4 from rfl]; omega
  | 3, _ => rw [show pw ((3 : Nat) : Int) = 8 from rfl]; omega
  | 4, _ => rw [show pw ((4 : Nat) : Int) = 16 from rfl]; omega
theorem bOr_tab : ∀ k : Fin 5, ∀ z : Fin 32, (z.val : Int) < pw (k.val : Int) → bOr (z.val : Int) (bShl 1 (k.val : Int)) = (z.val : Int) + pw (k.val : Int) := by decide +kernel
theorem bs_or {k : Nat} (hk : k < 5) (p : Int → Bool) : bOr (bs k p) (bShl 1 (k : Int)) = bs k p + pw (k : Int) := by
  have hr := bs_lt hk p
  have h32 : (bs k p).toNat < 32 := by omega
  have h := bOr_tab ⟨k, hk⟩ ⟨(bs k p).toNat, h32⟩
  rw [show (((⟨(bs k p).toNat, h32⟩ : Fin 32).val : Nat) : Int) = bs k p from Int.toNat_of_nonneg hr.1] at h
  exact h hr.2.1
/-- one more plate in the set, or not -/
theorem bs_yes {k : Nat} (hk : k < 5) {p : Int → Bool} (h : p k = true) : bOr (bs k p) (bShl 1 (k : Int)) = bs (k + 1) p := by
  rw [bs_or hk]
  show _ = sm k _ + (if p k = true then pw (k : Int) else 0)
  rw [if_pos h]
  rfl
theorem bs_no {k : Nat} {p : Int → Bool} (h : ¬ p k = true) : bs k p = bs (k + 1) p := by
  show _ = sm k _ + (if p k = true then pw (k : Int) else 0)
  rw [if_neg h]
  show _ = bs k p + 0
  omega
theorem bs_congr {k : Nat} {p q : Int → Bool} (h : ∀ i, In k i → p i = q i) : bs k p = bs k q := sm_congr (fun i hi => by rw [h i hi])
theorem bt_tab : ∀ z : Fin 32, ∀ i : Fin 5, bAnd (bShr (z.val : Int) (i.val : Int)) 1 = if (z.val / 2 ^ i.val) % 2 = 1 then 1 else 0 := by decide +kernel
