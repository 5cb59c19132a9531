/-! a plate that was told -/
section ReadM6
variable {l : Launch} {G : GT} {d : Nat} {m : MM}
/-- known: its is the plate, or none -/
def KnM (N r s : Int) (k : Nat) (m : MM) (z : Int) (m' : MM) : Prop :=
  (m 70 4 ≠ 0 → z = 0 ∧ m' = m) ∧ (m 70 4 = 0 → ∃ y, PhM m r k y ∧ z = (if 0 ≤ y then y else 0) ∧ ((m 70 8 ≠ 2 ∧ FlM (if m 70 8 = 1 then 1 else 2) (m 70 6) m m') ∨ (m 70 8 = 2 ∧ y < 0 ∧ FlM 5 (m 70 6) m m') ∨ (m 70 8 = 2 ∧ 0 ≤ y ∧ bt s y = 1 ∧ FlM 3 (m 70 6) m m') ∨ (m 70 8 = 2 ∧ 0 ≤ y ∧ bt s y ≠ 1 ∧ GoP N m m')))
theorem c_known {N r s : Int} {k : Nat} (h : TsM (tx m) N m) (hr : m 70 29 = r ∧ 0 ≤ r ∧ r ≤ 1) (hk : m 73 r = k ∧ k ≤ 5) : CI l G Y_M_known (d + 2) [.inr (.inr 70), .inl s] m (KnM N r s k m) := by
  refine e_M_known s (fun _ _ => ⟨d, _, by omega, c_isGoodM2, fun z m1 hz _ _ => ?_⟩)
  obtain ⟨hz, rfl⟩ := hz
  refine ⟨fun c => ⟨d, _, by omega, c_plateHere hr hk, fun y m1 hy _ _ => ?_⟩, fun c => ⟨fun _ => ⟨rfl, rfl⟩, fun q => absurd q (hz.mp (Classical.not_not.mp c))⟩⟩
  obtain ⟨hy, rfl⟩ := hy
  have h4 : m 70 4 = 0 := Classical.not_not.mp (fun q => c (hz.mpr q))
  have fin : ∀ m', ((m 70 8 ≠ 2 ∧ FlM (if m 70 8 = 1 then 1 else 2) (m 70 6) m m') ∨ (m 70 8 = 2 ∧ y < 0 ∧ FlM 5 (m 70 6) m m') ∨ (m 70 8 = 2 ∧ 0 ≤ y ∧ bt s y = 1 ∧ FlM 3 (m 70 6) m m') ∨ (m 70 8 = 2 ∧ 0 ≤ y ∧ bt s y ≠ 1 ∧ GoP N m m')) → (y ≥ 0 → KnM N r s k m y m') ∧ (¬ (y ≥ 0) → KnM N r s k m 0 m') := fun m' hm => ⟨fun c0 => ⟨fun q => absurd h4 q, fun _ => ⟨y, hy, by rw [if_pos c0], hm⟩⟩, fun c0 => ⟨fun q => absurd h4 q, fun _ => ⟨y, hy, by rw [if_neg c0], hm⟩⟩⟩
  refine ⟨fun c8 => ⟨fun c0 => ⟨d, _, by omega, c_bit, fun z2 m1 hz2 _ _ => ?_⟩, fun c0 => ⟨d, _, by omega, c_failsM2, fun m1 h1 _ => fin m1 (Or.inr (Or.inl ⟨c8, by omega, h1⟩))⟩⟩, fun c8 => ⟨d + 1, _, by omega, c_misplacedM2, fun m1 h1 _ => fin m1 (Or.inl ⟨c8, h1⟩)⟩⟩
  obtain ⟨rfl, rfl⟩ := hz2
  by_cases q : bt s y = 1
  · rw [if_pos q]
    exact ⟨fun g => absurd g (by decide), fun _ => ⟨d, _, by omega, c_failsM2, fun m1 h1 _ => fin m1 (Or.inr (Or.inr (Or.inl ⟨c8, c0, q, h1⟩)))⟩⟩
  · rw [if_neg q]
    exact ⟨fun _ => ⟨d + 1, _, by omega, c_goOnM2 h, fun m1 h1 _ => fin m1 (Or.inr (Or.inr (Or.inr ⟨c8, c0, q, h1⟩)))⟩, fun g => absurd rfl g⟩
end ReadM6
