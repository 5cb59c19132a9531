section Tape
variable {l : Launch} {G : GT} {d : Nat} {m : MM}
theorem c_endX {x : Int} : CI l G Y_S_end d [.inr (.inr 0), .inl x] m (fun z m' => (0 ≤ x ∧ x ≤ m 0 1 → z = x ∧ m' = up m 0 1 x) ∧ (¬ (0 ≤ x ∧ x ≤ m 0 1) → z = -1 ∧ m = m')) :=
  e_S_end x (fun _ _ => ⟨fun c => ⟨fun q => absurd q.1 (by omega), fun _ => ⟨rfl, rfl⟩⟩, fun c => ⟨fun c2 _ e => ⟨fun _ => ⟨rfl, e⟩, fun q => absurd ⟨by omega, c2⟩ q⟩, fun c2 => ⟨fun q => absurd q.2 c2, fun _ => ⟨rfl, rfl⟩⟩⟩⟩)
theorem c_endM {x : Int} : CI l G Y_M_end d [.inr (.inr 70), .inl x] m (fun z m' => (0 ≤ x ∧ x ≤ m 70 2 → z = x ∧ m' = up m 70 2 x) ∧ (¬ (0 ≤ x ∧ x ≤ m 70 2) → z = -1 ∧ m = m')) :=
  e_M_end x (fun _ _ => ⟨fun c => ⟨fun q => absurd q.1 (by omega), fun _ => ⟨rfl, rfl⟩⟩, fun c => ⟨fun c2 _ e => ⟨fun _ => ⟨rfl, e⟩, fun q => absurd ⟨by omega, c2⟩ q⟩, fun c2 => ⟨fun q => absurd q.2 c2, fun _ => ⟨rfl, rfl⟩⟩⟩⟩)
theorem c_faultX {x : Int} : CI l G Y_S_fault d [.inr (.inr 0), .inl x] m (fun z m' => z = (if x = 0 then m 0 3 else if x = 1 then m 0 4 else -1) ∧ m = m') :=
  e_S_fault x (fun _ _ => ⟨fun c => ⟨fun c2 => ⟨by rw [if_neg c, if_neg c2], rfl⟩, fun c2 => ⟨by rw [if_neg c, if_pos (show x = 1 by omega)], rfl⟩⟩, fun c => ⟨by rw [if_pos (show x = 0 by omega)], rfl⟩⟩)
theorem c_faultM {x : Int} : CI l G Y_M_fault d [.inr (.inr 70), .inl x] m (fun z m' => z = (if x = 0 then m 70 4 else if x = 1 then m 70 5 else -1) ∧ m = m') :=
  e_M_fault x (fun _ _ => ⟨fun c => ⟨fun c2 => ⟨by rw [if_neg c, if_neg c2], rfl⟩, fun c2 => ⟨by rw [if_neg c, if_pos (show x = 1 by omega)], rfl⟩⟩, fun c => ⟨by rw [if_pos (show x = 0 by omega)], rfl⟩⟩)
theorem c_laterM {x : Int} (ht : 0 ≤ m 70 61 ∧ m 70 61 ≤ 100000) : CI l G Y_M_later (d + 1) [.inr (.inr 70), .inl x] m (fun z m' => (0 ≤ x ∧ x ≤ 1000 ∧ m 70 61 + x ≤ 100000 → z = m 70 61 + x ∧ m' = up m 70 61 (m 70 61 + x)) ∧ (¬ (0 ≤ x ∧ x ≤ 1000 ∧ m 70 61 + x ≤ 100000) → z = -1 ∧ m = m')) := by
  refine e_M_later x (fun _ _ => ⟨d, _, by omega, c_isIn, fun z m1 hz _ _ => ?_⟩)
  obtain ⟨rfl, rfl⟩ := hz
  by_cases h : 0 ≤ x ∧ x ≤ 1000
  · rw [if_pos h]
    refine ⟨fun c => absurd c (by decide), fun _ => ⟨by omega, fun c => ⟨by omega, ?_⟩, fun c => ⟨fun q => absurd q.2.2 c, fun _ => ⟨rfl, rfl⟩⟩⟩⟩
    rintro m2 rfl
    exact ⟨fun _ => ⟨up_at, rfl⟩, fun q => absurd ⟨h.1, h.2, c⟩ q⟩
  · rw [if_neg h]
    exact ⟨fun _ => ⟨fun q => absurd ⟨q.1, q.2.1⟩ h, fun _ => ⟨rfl, rfl⟩⟩, fun c => absurd rfl c⟩
end Tape
