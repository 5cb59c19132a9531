theorem bs_five {n : Nat} (hn : n ≤ 5) (p : Int → Bool) : bs n p = bs 5 (fun i => decide (i < (n : Int)) && p i) := by
  have hn2 : n = 0 ∨ n = 1 ∨ n = 2 ∨ n = 3 ∨ n = 4 ∨ n = 5 := by omega
  rcases hn2 with rfl | rfl | rfl | rfl | rfl | rfl <;> simp [bs, sm]
theorem bs_lsb5 (p : Int → Bool) (h : bs 5 p ≠ 0) : p (lsb (bs 5 p)) = true ∧ ∀ i, 0 ≤ i → i < lsb (bs 5 p) → p i = false := by
  have e : bs 5 p = 0 + (if p 0 = true then 1 else 0) + (if p 1 = true then 2 else 0) + (if p 2 = true then 4 else 0) + (if p 3 = true then 8 else 0) + (if p 4 = true then 16 else 0) := rfl
  rw [e] at h ⊢
  cases h0 : p 0 with
  | true =>
    have hl : lsb (0 + (if true = true then (1 : Int) else 0) + (if p 1 = true then 2 else 0) + (if p 2 = true then 4 else 0) + (if p 3 = true then 8 else 0) + (if p 4 = true then 16 else 0)) = 0 := by
      cases p 1 <;> cases p 2 <;> cases p 3 <;> cases p 4 <;> rfl
    rw [hl]
    exact ⟨h0, fun i i0 i1 => absurd i1 (by omega)⟩
  | false =>
    cases h1 : p 1 with
    | true =>
      have hl : lsb (0 + (if false = true then (1 : Int) else 0) + (if true = true then 2 else 0) + (if p 2 = true then 4 else 0) + (if p 3 = true then 8 else 0) + (if p 4 = true then 16 else 0)) = 1 := by
        cases p 2 <;> cases p 3 <;> cases p 4 <;> rfl
      rw [hl]
      exact ⟨h1, fun i i0 i1 => by rw [show i = 0 by omega]; exact h0⟩
    | false =>
      cases h2 : p 2 with
      | true =>
        have hl : lsb (0 + (if false = true then (1 : Int) else 0) + (if false = true then 2 else 0) + (if true = true then 4 else 0) + (if p 3 = true then 8 else 0) + (if p 4 = true then 16 else 0)) = 2 := by
          cases p 3 <;> cases p 4 <;> rfl
        rw [hl]
        refine ⟨h2, fun i i0 i1 => ?_⟩
        have : i = 0 ∨ i = 1 := by omega
        rcases this with rfl | rfl <;> assumption
      | false =>
        cases h3 : p 3 with
        | true =>
          have hl : lsb (0 + (if false = true then (1 : Int) else 0) + (if false = true then 2 else 0) + (if false = true then 4 else 0) + (if true = true then 8 else 0) + (if p 4 = true then 16 else 0)) = 3 := by
            cases p 4 <;> rfl
          rw [hl]
          refine ⟨h3, fun i i0 i1 => ?_⟩
          have : i = 0 ∨ i = 1 ∨ i = 2 := by omega
          rcases this with rfl | rfl | rfl <;> assumption
        | false =>
          cases h4 : p 4 with
          | true =>
            refine ⟨h4, fun i i0 i1 => ?_⟩
            have i1 : i < 4 := i1
            have : i = 0 ∨ i = 1 ∨ i = 2 ∨ i = 3 := by omega
            rcases this with rfl | rfl | rfl | rfl <;> assumption
          | false =>
            rw [h0, h1, h2, h3, h4] at h
            exact absurd rfl h
theorem bs_lsb {n : Nat} (hn : n ≤ 5) (p : Int → Bool) (h : bs n p ≠ 0) : In n (lsb (bs n p)) ∧ p (lsb (bs n p)) = true ∧ ∀ i, 0 ≤ i → i < lsb (bs n p) → p i = false := by
  have e := bs_five hn p
  rw [e] at h ⊢
  obtain ⟨h1, h2⟩ := bs_lsb5 _ h
  have h0 : 0 ≤ lsb (bs 5 (fun i => decide (i < (n : Int)) && p i)) := by
    unfold lsb
    split
    · decide
    · split
      · decide
      · split
        · decide
        · split <;> decide
  rw [Bool.and_eq_true, decide_eq_true_eq] at h1
  refine ⟨⟨h0, h1.1⟩, h1.2, fun i i0 i1 => ?_⟩
  have := h2 i i0 i1
  rw [Bool.and_eq_false_iff] at this
  rcases this with h | h
  · exact absurd (show i < (n : Int) by omega) (of_decide_eq_false h)
  · exact h
theorem bs_zero {n : Nat} (hn : n ≤ 5) (p : Int → Bool) (h : bs n p = 0) : ∀ i, In n i → p i = false := by
  intro i hi
  cases hp : p i with
  | false => rfl
  | true =>
    exfalso
    have hle : sm n (fun j => if j = i then (1 : Int) else 0) ≤ sm n (fun j => if p j then pw j else 0) := sm_le (fun j hj => by
      by_cases e : j = i
      · rw [if_pos e, e, if_pos hp]
        unfold pw
        split
        · decide
        · split
          · decide
          · split
            · decide
            · split <;> decide
      · rw [if_neg e]
        split
        · unfold pw
          split
          · decide
          · split
            · decide
            · split
              · decide
              · split <;> decide
        · decide)
    rw [sm_one, if_pos hi, show sm n (fun j => if p j then pw j else 0) = bs n p from rfl, h] at hle
    omega
