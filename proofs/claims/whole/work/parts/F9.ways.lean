/-! ways to the drain -/
def BV (n : Nat) (D : Int → Int) (W : Int → Int → Int) : Prop := n ≤ 5 ∧ (∀ i, In n i → 0 ≤ D i ∧ D i ≤ 2) ∧ (∀ i j, In n i → In n j → 0 ≤ W i j ∧ W i j ≤ 2 ∧ W i j = W j i) ∧ (∀ i, In n i → W i i = 0)
section Ways
variable {n : Nat} {D : Int → Int} {W : Int → Int → Int} {br : Int → Int}
theorem BV.one (h : BV n D W) : BW n (fun _ => 1) W (fun i => 1 + sm n (W i)) := ⟨h.1, fun _ _ => ⟨show (0 : Int) ≤ 1 by decide, show (1 : Int) ≤ 2 by decide⟩, h.2.2.1, h.2.2.2, fun _ _ => rfl, fun _ => 0, fun _ _ => ⟨show 0 ≤ 5 by decide, Or.inl (show (1 : Int) > 0 by decide)⟩⟩
theorem rcb_step (h : BV n D W) {i : Int} (hi : In n i) (k : Nat) : rcb n D W (k + 1) i = true ↔ (rcb n D W k i = true ∨ 0 < D i ∨ ∃ j, In n j ∧ rcb n D W k j = true ∧ 0 < W i j) := by
  have hp := wT_pos h.one hi (rcb n D W k)
  have hr := wT_rng h.one hi (rcb n D W k) n (Nat.le_refl n)
  have hD := (h.2.1 i hi).1
  show (rcb n D W k i || decide (0 < D i + wT n W i (rcb n D W k))) = true ↔ _
  rw [Bool.or_eq_true_iff, decide_eq_true_iff]
  constructor
  · rintro (q | q)
    · exact Or.inl q
    · by_cases d0 : 0 < D i
      · exact Or.inr (Or.inl d0)
      · exact Or.inr (Or.inr (hp.mp (by omega)))
  · rintro (q | q | q)
    · exact Or.inl q
    · exact Or.inr (by omega)
    · have := hp.mpr q
      exact Or.inr (by omega)
def cnT (n : Nat) (p : Int → Bool) : Int := sm n (fun i => if p i = true then 1 else 0)
theorem cnT_le (p : Int → Bool) : ∀ n : Nat, cnT n p ≤ n ∧ (cnT n p = n → ∀ i, In n i → p i = true)
  | 0 => ⟨Int.le_refl 0, fun _ i hi => by have := hi.1; have := hi.2; omega⟩
  | n + 1 => by
    obtain ⟨h1, h2⟩ := cnT_le p n
    have e : cnT (n + 1) p = cnT n p + (if p n = true then 1 else 0) := rfl
    rw [e]
    by_cases q : p n = true
    · rw [if_pos q]
      refine ⟨by omega, fun g i hi => ?_⟩
      by_cases c : i = n
      · rw [c]; exact q
      · exact h2 (by omega) i ⟨hi.1, by have := hi.2; omega⟩
    · rw [if_neg q]
      exact ⟨by omega, fun g => by omega⟩
theorem cnT_mono {p q : Int → Bool} (h : ∀ i, p i = true → q i = true) : ∀ n : Nat, cnT n p ≤ cnT n q ∧ ((∃ i, In n i ∧ p i = false ∧ q i = true) → cnT n p + 1 ≤ cnT n q)
  | 0 => ⟨Int.le_refl 0, fun ⟨i, hi, _⟩ => by have := hi.1; have := hi.2; omega⟩
  | n + 1 => by
    obtain ⟨h1, h2⟩ := cnT_mono h n
    have e : cnT (n + 1) p = cnT n p + (if p n = true then 1 else 0) := rfl
    have e' : cnT (n + 1) q = cnT n q + (if q n = true then 1 else 0) := rfl
    rw [e, e']
    by_cases c : p n = true
    · rw [if_pos c, if_pos (h n c)]
      refine ⟨by omega, fun ⟨i, hi, g1, g2⟩ => ?_⟩
      have : i ≠ n := fun r => by rw [r, c] at g1; cases g1
      have := h2 ⟨i, ⟨hi.1, by have := hi.2; omega⟩, g1, g2⟩
      omega
    · rw [if_neg c]
      by_cases c2 : q n = true
      · rw [if_pos c2]
        exact ⟨by omega, fun _ => by omega⟩
      · rw [if_neg c2]
        refine ⟨by omega, fun ⟨i, hi, g1, g2⟩ => ?_⟩
        have : i ≠ n := fun r => c2 (by rw [← r]; exact g2)
        have := h2 ⟨i, ⟨hi.1, by have := hi.2; omega⟩, g1, g2⟩
        omega
/-- five steps are enough -/
theorem rcb_five (h : BV n D W) : ∀ {i : Int}, In n i → rcb n D W 6 i = true → rcb n D W 5 i = true := by
  have stab : ∀ k : Nat, (∀ i, In n i → rcb n D W (k + 1) i = true → rcb n D W k i = true) → ∀ t i, In n i → rcb n D W (k + t) i = true → rcb n D W k i = true := by
    intro k hk t
    induction t with
    | zero => exact fun i _ g => g
    | succ t ih =>
      intro i hi g
      rcases (rcb_step h hi (k + t)).mp g with q | q | ⟨j, hj, q1, q2⟩
      · exact ih i hi q
      · exact hk i hi ((rcb_step h hi k).mpr (Or.inr (Or.inl q)))
      · exact hk i hi ((rcb_step h hi k).mpr (Or.inr (Or.inr ⟨j, hj, ih j hj q1, q2⟩)))
  have grow : ∀ k : Nat, (∃ j : Nat, j ≤ k ∧ ∀ i, In n i → rcb n D W (j + 1) i = true → rcb n D W j i = true) ∨ ((k : Int) + 1 ≤ cnT n (rcb n D W (k + 1))) := by
    intro k
    induction k with
    | zero =>
      rcases Classical.em (∃ i, In n i ∧ rcb n D W 0 i = false ∧ rcb n D W 1 i = true) with q | q
      · have := (cnT_mono (p := rcb n D W 0) (q := rcb n D W 1) (fun i g => rcb_mono g 1) n).2 q
        have h0 := (cnT_le (rcb n D W 0) n).1
        have hz : 0 ≤ cnT n (rcb n D W 0) := sm_nonneg (fun i _ => by split <;> decide)
        exact Or.inr (by show ((0 : Nat) : Int) + 1 ≤ cnT n (rcb n D W 1); omega)
      · refine Or.inl ⟨0, Nat.le_refl 0, fun i hi g => ?_⟩
        cases e : rcb n D W 0 i with
        | true => rfl
        | false => exact absurd ⟨i, hi, e, g⟩ q
    | succ k ih =>
      rcases ih with ⟨j, hj, hs⟩ | ih
      · exact Or.inl ⟨j, by omega, hs⟩
      · rcases Classical.em (∃ i, In n i ∧ rcb n D W (k + 1) i = false ∧ rcb n D W (k + 2) i = true) with q | q
        · have := (cnT_mono (p := rcb n D W (k + 1)) (q := rcb n D W (k + 2)) (fun i g => rcb_mono g 1) n).2 q
          refine Or.inr ?_
          show ((k + 1 : Nat) : Int) + 1 ≤ cnT n (rcb n D W (k + 2))
          omega
        · refine Or.inl ⟨k + 1, Nat.le_refl _, fun i hi g => ?_⟩
          cases e : rcb n D W (k + 1) i with
          | true => rfl
          | false => exact absurd ⟨i, hi, e, g⟩ q
  intro i hi g
  rcases grow 4 with ⟨j, hj, hs⟩ | hc
  · have h1 := stab j hs (6 - j) i hi (by rw [show j + (6 - j) = 6 by omega]; exact g)
    have := rcb_mono h1 (5 - j)
    rw [show j + (5 - j) = 5 by omega] at this
    exact this
  · obtain ⟨a, b⟩ := cnT_le (rcb n D W 5) n
    have h5 := h.1
    have hc : (4 : Int) + 1 ≤ cnT n (rcb n D W 5) := hc
    exact b (by omega) i hi
theorem rcb_far {i : Int} (hi : rcb n D W 5 i = true) : ∃ z, FaR n D W i z := by
  have : ∀ k : Nat, k ≤ 5 → rcb n D W k i = true → ∃ z, FaR n D W i z := by
    intro k
    induction k with
    | zero => intro _ q; cases q
    | succ k ih =>
      intro hk q
      cases e : rcb n D W k i with
      | true => exact ih (by omega) e
      | false => exact ⟨((k + 1 : Nat) : Int), k + 1, rfl, by omega, hk, q, e⟩
  exact this 5 (Nat.le_refl 5) hi
theorem BV.bw (h : BV n D W) (hb : ∀ i, In n i → br i = D i + sm n (W i)) (hr : ∀ i, In n i → rcb n D W 5 i = true) : BW n D W br := by
  obtain ⟨ds, sp⟩ : ∃ ds : Int → Nat, ∀ i, In n i → 1 ≤ ds i ∧ ds i ≤ 5 ∧ rcb n D W (ds i) i = true ∧ rcb n D W (ds i - 1) i = false := ⟨fun i => Classical.epsilon (fun k : Nat => 1 ≤ k ∧ k ≤ 5 ∧ rcb n D W k i = true ∧ rcb n D W (k - 1) i = false), fun i hi => by
    obtain ⟨z, k, -, k1, k5, k2, k3⟩ := rcb_far (hr i hi)
    exact Classical.epsilon_spec (p := fun k : Nat => 1 ≤ k ∧ k ≤ 5 ∧ rcb n D W k i = true ∧ rcb n D W (k - 1) i = false) ⟨k, k1, k5, k2, k3⟩⟩
  refine ⟨h.1, h.2.1, h.2.2.1, h.2.2.2, hb, ds, fun i hi => ?_⟩
  obtain ⟨k1, k5, k2, k3⟩ := sp i hi
  refine ⟨k5, ?_⟩
  obtain ⟨c, hc⟩ : ∃ c, ds i = c + 1 := ⟨ds i - 1, by omega⟩
  rw [hc] at k2 k3
  have k3 : rcb n D W c i = false := k3
  rcases (rcb_step h hi c).mp k2 with q | q | ⟨j, hj, q1, q2⟩
  · rw [k3] at q; cases q
  · exact Or.inl q
  · refine Or.inr ⟨j, hj, q2, ?_⟩
    obtain ⟨j1, j5, j2, j3⟩ := sp j hj
    rcases Nat.lt_or_ge (ds j) (c + 1) with g | g
    · omega
    · have := rcb_mono q1 (ds j - 1 - c)
      rw [show c + (ds j - 1 - c) = ds j - 1 by omega, j3] at this
      cases this
end Ways
