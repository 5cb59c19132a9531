section Untell
variable {l : Launch} {G : GT} {d : Nat} {m : MM}
theorem c_untellX {x : Int} (hc : m 55 10 ≤ 30) : CI l G Y_S_untell (d + 1) [.inr (.inr 0), .inl x] m (fun z m' => (0 ≤ x ∧ x < m 55 10 ∧ m 60 x = -1 → z = 1 ∧ m' = up m 60 x (m 55 11)) ∧ (¬ (0 ≤ x ∧ x < m 55 10 ∧ m 60 x = -1) → z = 0 ∧ m = m')) := by
  refine e_S_untell x (fun _ _ => ⟨d, _, by omega, e_Sights_takeBack (P := fun z m' => (0 ≤ x ∧ x < m 55 10 ∧ m 60 x = -1 → z = 1 ∧ m' = up m 60 x (m 55 11)) ∧ (¬ (0 ≤ x ∧ x < m 55 10 ∧ m 60 x = -1) → z = 0 ∧ m = m')) x (fun _ _ => ⟨fun c => ⟨fun q => absurd q.1 (by omega), fun _ => ⟨rfl, rfl⟩⟩, fun c => ⟨fun c2 => ⟨fun q => absurd q.2.1 (by omega), fun _ => ⟨rfl, rfl⟩⟩, fun c2 => ⟨by omega, fun c3 => ⟨by omega, fun _ e => ⟨fun _ => ⟨rfl, e⟩, fun q => absurd ⟨by omega, by omega, c3⟩ q⟩⟩, fun c3 => ⟨fun q => absurd q.2.2 c3, fun _ => ⟨rfl, rfl⟩⟩⟩⟩⟩), fun z m1 h _ _ => ⟨?_, h⟩⟩)
  by_cases c : 0 ≤ x ∧ x < m 55 10 ∧ m 60 x = -1
  · exact Or.inr (h.1 c).1
  · exact Or.inl (h.2 c).1
theorem c_untellM {x : Int} (hc : 0 ≤ m 70 60 ∧ m 70 60 ≤ 30) : CI l G Y_M_untell (d + 1) [.inr (.inr 70), .inl x] m (fun z m' => (0 ≤ x ∧ x < m 70 60 ∧ m 107 x < 0 → z = 1 ∧ m' = up m 107 x (m 70 61)) ∧ (¬ (0 ≤ x ∧ x < m 70 60 ∧ m 107 x < 0) → z = 0 ∧ m = m')) := by
  refine e_M_untell x (fun _ _ => ⟨by omega, d, _, by omega, c_isIn, fun z m1 hz _ _ => ?_⟩)
  obtain ⟨rfl, rfl⟩ := hz
  by_cases h : 0 ≤ x ∧ x ≤ m 70 60 - 1
  · rw [if_pos h]
    exact ⟨fun c => absurd c (by decide), fun _ => ⟨by omega, fun c => ⟨by omega, fun _ e => ⟨fun _ => ⟨rfl, e⟩, fun q => absurd ⟨h.1, by omega, c⟩ q⟩⟩, fun c => ⟨fun q => absurd q.2.2 c, fun _ => ⟨rfl, rfl⟩⟩⟩⟩
  · rw [if_neg h]
    exact ⟨fun _ => ⟨fun q => absurd ⟨q.1, by omega⟩ h, fun _ => ⟨rfl, rfl⟩⟩, fun c => absurd rfl c⟩
end Untell
