/-- the acts of the class and of the reference -/
def AR (m : MM) : Prop :=
  (0 ≤ m 28 1 ∧ m 28 1 ≤ m 28 2 ∧ m 28 2 ≤ 40 ∧ m 70 45 = m 28 1 ∧ m 70 46 = m 28 2 - m 28 1) ∧ (∀ i, 0 ≤ i → i < 8 → m 29 (8 * m 28 1 + i) = m 25 i) ∧ (∀ k, 0 ≤ k → k < 8 * m 28 1 → m 96 k = m 29 k) ∧ ∀ k, 8 * m 28 1 ≤ k → k < 8 * m 28 2 → m 96 k = m 29 (k + 8)
theorem AR.keep {m m1 m2 : MM} {s : Int → Int} (h : AR m) (hs : ∀ i, 0 ≤ i → i < 8 → m 25 i = m 90 i) (h1 : KX s m m1) (h2 : KM s m1 m2) : AR m2 := by
  obtain ⟨⟨a0, aL, L40, e45, e46⟩, hb, hr, -⟩ := h
  obtain ⟨f1, x25, x1, x2, x3⟩ := h1
  obtain ⟨f2, y90, y45, y46, y3⟩ := h2
  have z28 : m2 28 = m1 28 := f2.1 28 (by decide) (by decide)
  have z29 : m2 29 = m1 29 := f2.1 29 (by decide) (by decide)
  have z25 : m2 25 = s := (f2.1 25 (by decide) (by decide)).trans x25
  have w70 : m1 70 = m 70 := f1.1 70 (by decide) (by decide)
  have w90 : m1 90 = m 90 := f1.1 90 (by decide) (by decide)
  have w96 : m1 96 = m 96 := f1.1 96 (by decide) (by decide)
  rw [w70, e45] at y45 y3
  rw [w90, w96] at y3
  have p1 : m2 28 1 = min 40 (m 28 1 + 1) := by rw [z28]; exact x1
  have p2 : m2 28 2 = min 40 (m 28 1 + 1) := by rw [z28]; exact x2
  refine ⟨⟨by omega, by omega, by omega, by omega, by omega⟩, fun i i0 i8 => ?_, fun k k0 k1 => ?_, fun k k0 k1 => absurd k1 (by omega)⟩
  · rw [z29, z25, p1, x3 _ (by omega) (by omega)]
    by_cases c : m 28 1 ≥ 40
    · have e : min 40 (m 28 1 + 1) = 40 := by omega
      have hk : kpA (m 28 1) s (m 29) (8 * 40 + i) = if 320 ≤ 8 * 40 + i then s (8 * 40 + i - 320) else m 29 (8 * 40 + i + 8) := if_pos c
      rw [e, hk, if_pos (by omega)]
      exact congrArg s (by omega)
    · have e : min 40 (m 28 1 + 1) = m 28 1 + 1 := by omega
      have hk : kpA (m 28 1) s (m 29) (8 * (m 28 1 + 1) + i) = if 8 * (m 28 1 + 1) ≤ 8 * (m 28 1 + 1) + i ∧ 8 * (m 28 1 + 1) + i < 8 * (m 28 1 + 1) + 8 then s (8 * (m 28 1 + 1) + i - 8 * (m 28 1 + 1)) else m 29 (8 * (m 28 1 + 1) + i) := if_neg c
      rw [e, hk, if_pos (by omega)]
      exact congrArg s (by omega)
  · rw [p1] at k1
    rw [z29, x3 k k0 (by omega), y3 k k0]
    by_cases c : m 28 1 ≥ 40
    · have hk : kpA (m 28 1) s (m 29) k = if 320 ≤ k then s (k - 320) else m 29 (k + 8) := if_pos c
      have hk2 : kpB (m 28 1) (m 90) (m 96) k = if 320 ≤ k then m 96 k else if 312 ≤ k then m 90 (k - 312) else m 96 (k + 8) := if_pos (by omega)
      rw [hk, hk2, if_neg (show ¬ 320 ≤ k by omega), if_neg (show ¬ 320 ≤ k by omega)]
      by_cases c2 : 312 ≤ k
      · rw [if_pos c2, ← hs _ (by omega) (by omega), ← hb _ (by omega) (by omega)]
        exact congrArg (m 29) (by omega)
      · rw [if_neg c2]
        exact hr (k + 8) (by omega) (by omega)
    · have hk : kpA (m 28 1) s (m 29) k = if 8 * (m 28 1 + 1) ≤ k ∧ k < 8 * (m 28 1 + 1) + 8 then s (k - 8 * (m 28 1 + 1)) else m 29 k := if_neg c
      have hk2 : kpB (m 28 1) (m 90) (m 96) k = if 8 * m 28 1 ≤ k ∧ k < 8 * m 28 1 + 8 then m 90 (k - 8 * m 28 1) else m 96 k := if_neg (by omega)
      rw [hk, hk2, if_neg (show ¬ (8 * (m 28 1 + 1) ≤ k ∧ k < 8 * (m 28 1 + 1) + 8) by omega)]
      by_cases c2 : 8 * m 28 1 ≤ k ∧ k < 8 * m 28 1 + 8
      · rw [if_pos c2, ← hs _ (by omega) (by omega), ← hb _ (by omega) (by omega)]
        exact congrArg (m 29) (by omega)
      · rw [if_neg c2]
        exact hr k k0 (by omega)
section Undo
variable {l : Launch} {G : GT} {d : Nat} {m : MM}
theorem c_undoX (ha : 0 ≤ m 28 1 ∧ m 28 1 ≤ 40) :
    CI l G Y_S_undo (d + 2) [.inr (.inr 0)] m (fun z m' => (m 28 1 > 0 → z = 1 ∧ Fro 28 [25] [1] m m' ∧ m' 28 1 = m 28 1 - 1 ∧ ∀ i, m' 25 i = if 0 ≤ i ∧ i < 8 then m 29 (8 * (m 28 1 - 1) + i) else m 25 i) ∧ (¬ m 28 1 > 0 → z = 0 ∧ m = m')) := by
  refine e_S_undo (fun _ => ⟨d + 1, _, by omega, c_goBackX ha, fun z m1 h _ _ => ⟨?_, h⟩⟩)
  by_cases c : m 28 1 > 0
  · exact Or.inr (h.1 c).1
  · exact Or.inl (h.2 c).1
theorem c_redoX (ha : 0 ≤ m 28 1 ∧ m 28 1 ≤ 40) (hL : m 28 2 ≤ 40) :
    CI l G Y_S_redo (d + 2) [.inr (.inr 0)] m (fun z m' => (m 28 1 < m 28 2 → z = 1 ∧ Fro 28 [25] [1] m m' ∧ m' 28 1 = m 28 1 + 1 ∧ ∀ i, m' 25 i = if 0 ≤ i ∧ i < 8 then m 29 (8 * (m 28 1 + 1) + i) else m 25 i) ∧ (¬ m 28 1 < m 28 2 → z = 0 ∧ m = m')) := by
  refine e_S_redo (fun _ => ⟨d + 1, _, by omega, c_goOnX ha hL, fun z m1 h _ _ => ⟨?_, h⟩⟩)
  by_cases c : m 28 1 < m 28 2
  · exact Or.inr (h.1 c).1
  · exact Or.inl (h.2 c).1
end Undo
