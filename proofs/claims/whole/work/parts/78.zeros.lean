/-- the least member of a set of at most five, none for the empty one -/
def lsb (x : Int) : Int := if x % 2 = 1 then 0 else if x % 4 = 2 then 1 else if x % 8 = 4 then 2 else if x % 16 = 8 then 3 else 4
theorem ntz_tab : ∀ z : Fin 32, z.val ≠ 0 → bAnd (bXor (z.val : Int) (-1)) ((z.val : Int) - 1) = pw (lsb (z.val : Int)) - 1 ∧ 0 ≤ lsb (z.val : Int) ∧ lsb (z.val : Int) ≤ 4 := by decide +kernel
section Zeros
variable {l : Launch} {G : GT} {d : Nat} {m : MM}
theorem c_ntz {x : Int} (hx : 1 ≤ x ∧ x < 32) : CI l G Y_Integer_numberOfTrailingZeros d [.inl x] m (fun z m' => z = lsb x ∧ m = m') := by
  have h32 : x.toNat < 32 := by omega
  have h := ntz_tab ⟨x.toNat, h32⟩ (show x.toNat ≠ 0 by omega)
  rw [show (((⟨x.toNat, h32⟩ : Fin 32).val : Nat) : Int) = x from Int.toNat_of_nonneg (by omega)] at h
  obtain ⟨e, l0, l4⟩ := h
  refine e_Integer_numberOfTrailingZeros x (fun _ _ => ?_)
  rw [e]
  generalize lsb x = t at l0 l4
  have ht : t = 0 ∨ t = 1 ∨ t = 2 ∨ t = 3 ∨ t = 4 := by omega
  rcases ht with rfl | rfl | rfl | rfl | rfl
  · exact ⟨by omega, fun c => absurd c (by decide), fun _ => ⟨by decide, rfl⟩⟩
  · exact ⟨by omega, fun _ => ⟨fun _ => s_Integer_numberOfTrailingZeros_34 1 1 (fun _ _ _ => ⟨fun _ => ⟨fun _ => ⟨fun _ => ⟨by decide, by decide, rfl⟩, fun c => absurd (by decide) c⟩, fun c => absurd (by decide) c⟩, fun c => absurd (by decide) c⟩), fun c => absurd (by decide) c⟩, fun c => absurd (by decide) c⟩
  · exact ⟨by omega, fun _ => ⟨fun _ => s_Integer_numberOfTrailingZeros_34 3 1 (fun _ _ _ => ⟨fun _ => ⟨fun _ => ⟨fun _ => ⟨by decide, by decide, rfl⟩, fun c => absurd (by decide) c⟩, fun c => absurd (by decide) c⟩, fun c => absurd (by decide) c⟩), fun c => absurd (by decide) c⟩, fun c => absurd (by decide) c⟩
  · exact ⟨by omega, fun _ => ⟨fun _ => s_Integer_numberOfTrailingZeros_34 7 1 (fun _ _ _ => ⟨fun _ => ⟨fun _ => ⟨fun c => absurd c (by decide), fun _ => ⟨by decide, by decide, by decide, rfl⟩⟩, fun c => absurd (by decide) c⟩, fun c => absurd (by decide) c⟩), fun c => absurd (by decide) c⟩, fun c => absurd (by decide) c⟩
  · exact ⟨by omega, fun _ => ⟨fun _ => s_Integer_numberOfTrailingZeros_34 15 1 (fun _ _ _ => ⟨fun _ => ⟨fun _ => ⟨fun c => absurd c (by decide), fun _ => ⟨by decide, by decide, by decide, rfl⟩⟩, fun c => absurd (by decide) c⟩, fun c => absurd (by decide) c⟩), fun c => absurd (by decide) c⟩, fun c => absurd (by decide) c⟩
end Zeros
