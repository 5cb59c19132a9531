/-! the plate that a name tells; a bank made empty -/
section ReadM4
variable {l : Launch} {G : GT} {d : Nat} {m : MM}
/-- the first plate of that name in the bank r with k plates -/
def PhM (m : MM) (r : Int) (k : Nat) (z : Int) : Prop := (z = -1 ∧ ∀ i, In k i → ¬ (m 70 8 = 2 ∧ m 84 (5 * r + i) = m 70 10)) ∨ (In k z ∧ (m 70 8 = 2 ∧ m 84 (5 * r + z) = m 70 10) ∧ ∀ i, 0 ≤ i → i < z → ¬ (m 70 8 = 2 ∧ m 84 (5 * r + i) = m 70 10))
theorem PhM.uniq {r z y : Int} {k : Nat} (h : PhM m r k z) (g : PhM m r k y) : z = y := by
  rcases h with ⟨h1, h2⟩ | ⟨h1, h2, h3⟩
  · rcases g with ⟨g1, g2⟩ | ⟨g1, g2, g3⟩
    · omega
    · exact absurd g2 (h2 y g1)
  · rcases g with ⟨g1, g2⟩ | ⟨g1, g2, g3⟩
    · exact absurd h2 (g2 z h1)
    · rcases Int.lt_trichotomy z y with q | q | q
      · exact absurd h2 (g3 z h1.1 q)
      · exact q
      · exact absurd g2 (h3 y g1.1 q)
theorem c_plateHere {r : Int} {k : Nat} (hr : m 70 29 = r ∧ 0 ≤ r ∧ r ≤ 1) (hk : m 73 r = k ∧ k ≤ 5) : CI l G Y_M_plateHere d [.inr (.inr 70)] m (fun z m' => PhM m r k z ∧ m = m') := by
  obtain ⟨r1, r0, r2⟩ := hr
  refine e_M_plateHere (fun _ => ?_)
  have loop : ∀ (s : Nat) (i : Int), i + s = k → 0 ≤ i → (∀ t, 0 ≤ t → t < i → ¬ (m 70 8 = 2 ∧ m 84 (5 * r + t) = m 70 10)) → Wq l G false Y_M_plateHere d (QI fun z m' => PhM m r k z ∧ m = m') 2 [(0, .inr (.inr 70)), (1, .inl i)] [] m := by
    intro s
    induction s with
    | zero =>
      intro i his i0 hno
      refine s_M_plateHere_2 _ (fun _ _ => ?_)
      rw [r1, hk.1]
      exact ⟨by omega, fun _ => ⟨Or.inl ⟨rfl, fun t ht => hno t ht.1 (by have := ht.2; omega)⟩, rfl⟩, fun c => absurd (show i ≥ (k : Int) by omega) c⟩
    | succ s ih =>
      intro i his i0 hno
      refine s_M_plateHere_2 _ (fun _ _ => ?_)
      rw [r1, hk.1]
      have nx : ¬ (m 70 8 = 2 ∧ m 84 (5 * r + i) = m 70 10) → Wq l G false Y_M_plateHere d (QI fun z m' => PhM m r k z ∧ m = m') 2 [(0, .inr (.inr 70)), (1, .inl (i + 1))] [] m := fun h => ih (i + 1) (by omega) (by omega) (fun t t0 t1 => by
        by_cases q : t = i
        · rw [q]; exact h
        · exact hno t t0 (by omega))
      exact ⟨by omega, fun c => absurd c (by omega), fun _ => ⟨fun c => ⟨by omega, nx (fun q => c q.1)⟩, fun c => ⟨by omega, by omega, by omega, fun c2 => ⟨by omega, nx (fun q => c2 q.2)⟩, fun c2 => ⟨Or.inr ⟨⟨i0, by omega⟩, ⟨Classical.not_not.mp c, Classical.not_not.mp c2⟩, hno⟩, rfl⟩⟩⟩⟩
  exact loop k 0 (by omega) (Int.le_refl 0) (fun t t0 t1 => by omega)
end ReadM4
