/-- what undo and redo do to the class's state and to the reference's -/
def UX (t : Int) (m m' : MM) : Prop := Fro 28 [25] [1] m m' ∧ m' 28 1 = t ∧ ∀ i, m' 25 i = if 0 ≤ i ∧ i < 8 then m 29 (8 * t + i) else m 25 i
def UM (t a : Int) (m m' : MM) : Prop := Fro 70 [90, 96] [45, 46] m m' ∧ m' 70 45 = a ∧ m' 70 46 = m 70 45 + m 70 46 - a ∧ (∀ i, m' 90 i = if 0 ≤ i ∧ i < 8 then m 96 (8 * t + i) else m 90 i) ∧ ∀ k, m' 96 k = if 8 * t ≤ k ∧ k < 8 * t + 8 then m 90 (k - 8 * t) else m 96 k
theorem AR.undo {m m1 m2 : MM} (h : AR m) (hs : ∀ i, 0 ≤ i → i < 8 → m 25 i = m 90 i) (hp : m 28 1 > 0) (h1 : UX (m 28 1 - 1) m m1) (h2 : UM (m 28 1 - 1) (m 28 1 - 1) m1 m2) : AR m2 ∧ ∀ i, 0 ≤ i → i < 8 → m2 25 i = m2 90 i := by
  obtain ⟨⟨a0, aL, L40, e45, e46⟩, hb, hr, hq⟩ := h
  obtain ⟨f1, x1, x25⟩ := h1
  obtain ⟨f2, y45, y46, y90, y96⟩ := h2
  have z28 : m2 28 = m1 28 := f2.1 28 (by decide) (by decide)
  have z29 : m2 29 = m 29 := (f2.1 29 (by decide) (by decide)).trans (f1.1 29 (by decide) (by decide))
  have z25 : m2 25 = m1 25 := f2.1 25 (by decide) (by decide)
  have w70 : m1 70 = m 70 := f1.1 70 (by decide) (by decide)
  have w90 : m1 90 = m 90 := f1.1 90 (by decide) (by decide)
  have w96 : m1 96 = m 96 := f1.1 96 (by decide) (by decide)
  have p1 : m2 28 1 = m 28 1 - 1 := by rw [z28]; exact x1
  have p2 : m2 28 2 = m 28 2 := by rw [z28]; exact f1.2 2 (by decide)
  rw [w70, e45, e46] at y46
  rw [w90, w96] at y96 y90
  refine ⟨⟨⟨by omega, by omega, by omega, by omega, by omega⟩, fun i i0 i8 => ?_, fun k k0 k1 => ?_, fun k k0 k1 => ?_⟩, fun i i0 i8 => ?_⟩
  · rw [z29, z25, p1, x25 i, if_pos ⟨i0, i8⟩]
  · rw [p1] at k1
    rw [z29, y96 k, if_neg (by omega)]
    exact hr k k0 (by omega)
  · rw [p1] at k0
    rw [p2] at k1
    rw [z29, y96 k]
    by_cases c : 8 * (m 28 1 - 1) ≤ k ∧ k < 8 * (m 28 1 - 1) + 8
    · rw [if_pos c, ← hs _ (by omega) (by omega), ← hb _ (by omega) (by omega)]
      exact congrArg (m 29) (by omega)
    · rw [if_neg c]
      exact hq k (by omega) k1
  · rw [z25, x25 i, y90 i, if_pos ⟨i0, i8⟩, if_pos ⟨i0, i8⟩]
    exact (hr _ (by omega) (by omega)).symm
theorem AR.redo {m m1 m2 : MM} (h : AR m) (hs : ∀ i, 0 ≤ i → i < 8 → m 25 i = m 90 i) (hp : m 28 1 < m 28 2) (h1 : UX (m 28 1 + 1) m m1) (h2 : UM (m 28 1) (m 28 1 + 1) m1 m2) : AR m2 ∧ ∀ i, 0 ≤ i → i < 8 → m2 25 i = m2 90 i := by
  obtain ⟨⟨a0, aL, L40, e45, e46⟩, hb, hr, hq⟩ := h
  obtain ⟨f1, x1, x25⟩ := h1
  obtain ⟨f2, y45, y46, y90, y96⟩ := h2
  have z28 : m2 28 = m1 28 := f2.1 28 (by decide) (by decide)
  have z29 : m2 29 = m 29 := (f2.1 29 (by decide) (by decide)).trans (f1.1 29 (by decide) (by decide))
  have z25 : m2 25 = m1 25 := f2.1 25 (by decide) (by decide)
  have w70 : m1 70 = m 70 := f1.1 70 (by decide) (by decide)
  have w90 : m1 90 = m 90 := f1.1 90 (by decide) (by decide)
  have w96 : m1 96 = m 96 := f1.1 96 (by decide) (by decide)
  have p1 : m2 28 1 = m 28 1 + 1 := by rw [z28]; exact x1
  have p2 : m2 28 2 = m 28 2 := by rw [z28]; exact f1.2 2 (by decide)
  rw [w70, e45, e46] at y46
  rw [w90, w96] at y96 y90
  refine ⟨⟨⟨by omega, by omega, by omega, by omega, by omega⟩, fun i i0 i8 => ?_, fun k k0 k1 => ?_, fun k k0 k1 => ?_⟩, fun i i0 i8 => ?_⟩
  · rw [z29, z25, p1, x25 i, if_pos ⟨i0, i8⟩]
  · rw [p1] at k1
    rw [z29, y96 k]
    by_cases c : 8 * m 28 1 ≤ k ∧ k < 8 * m 28 1 + 8
    · rw [if_pos c, ← hs _ (by omega) (by omega), ← hb _ (by omega) (by omega)]
      exact congrArg (m 29) (by omega)
    · rw [if_neg c]
      exact hr k k0 (by omega)
  · rw [p1] at k0
    rw [p2] at k1
    rw [z29, y96 k, if_neg (by omega)]
    exact hq k (by omega) k1
  · rw [z25, x25 i, y90 i, if_pos ⟨i0, i8⟩, if_pos ⟨i0, i8⟩, hq _ (by omega) (by omega)]
    exact congrArg (m 29) (by omega)
