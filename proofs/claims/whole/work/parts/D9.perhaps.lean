/-! perhaps of the reference -/
section ReadM3
variable {l : Launch} {G : GT} {d : Nat} {m : MM}
theorem GoP.ts {N : Int} {m' : MM} (h : GoP N m m') : TsM (tx m') N m' := by
  obtain ⟨-, -, h1, h2⟩ := h
  rw [h1]
  exact h2
theorem c_perhaps {N w x y v : Int} (h : TsM (tx m) N m) : CI l G Y_M_perhaps (d + 3) [.inr (.inr 70), .inr (.inl w), .inl x, .inl y, .inl v] m (fun z m' => ((m 70 4 ≠ 0 ∨ ¬ (m 70 8 = 3 ∧ m 70 10 = w)) → z = v ∧ m' = m) ∧ (m 70 4 = 0 → m 70 8 = 3 ∧ m 70 10 = w → ∃ m1, GoP N m m1 ∧ NuM N x y m1 z m')) := by
  refine e_M_perhaps w x y v (fun _ _ _ _ _ => ⟨d, _, by omega, c_isGoodM2, fun z m1 hz _ _ => ?_⟩)
  obtain ⟨hz, rfl⟩ := hz
  refine ⟨fun c => ⟨fun _ => ⟨rfl, rfl⟩, fun q => absurd q (hz.mp c)⟩, fun c => ⟨d, _, by omega, c_isWordM2, fun z2 m1 hz2 _ _ => ?_⟩⟩
  obtain ⟨hz2, rfl⟩ := hz2
  have h4 : m 70 4 = 0 := Classical.not_not.mp (fun q => c (hz.mpr q))
  refine ⟨fun c2 => ⟨d + 1, _, by omega, c_goOnM2 h, fun m1 h1 _ => ?_⟩, fun c2 => ⟨fun _ => ⟨rfl, rfl⟩, fun _ q => absurd q (hz2.mp (Classical.not_not.mp c2))⟩⟩
  have hw : m 70 8 = 3 ∧ m 70 10 = w := Classical.not_not.mp (fun q => c2 (hz2.mpr q))
  have g1 : GoP N m m1 := h1
  refine ⟨d + 2, _, by omega, c_numeral g1.ts, fun z3 m2 hz3 _ _ => ?_⟩
  exact ⟨fun q => by
    rcases q with q | q
    · exact absurd h4 q
    · exact absurd hw q, fun _ _ => ⟨m1, g1, hz3⟩⟩
end ReadM3
