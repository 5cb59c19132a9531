section UndoM
variable {l : Launch} {G : GT} {d : Nat} {m : MM}
theorem c_undoM (ha : 0 ≤ m 70 45 ∧ m 70 45 ≤ 40) (hu : 0 ≤ m 70 46 ∧ m 70 46 ≤ 40) :
    CI l G Y_M_undo (d + 1) [.inr (.inr 70)] m (fun z m' => (m 70 45 > 0 → z = 1 ∧ Fro 70 [90, 96] [45, 46] m m' ∧ m' 70 45 = m 70 45 - 1 ∧ m' 70 46 = m 70 46 + 1 ∧ (∀ i, m' 90 i = if 0 ≤ i ∧ i < 8 then m 96 (8 * (m 70 45 - 1) + i) else m 90 i) ∧ ∀ k, m' 96 k = if 8 * (m 70 45 - 1) ≤ k ∧ k < 8 * (m 70 45 - 1) + 8 then m 90 (k - 8 * (m 70 45 - 1)) else m 96 k) ∧ (¬ m 70 45 > 0 → z = 0 ∧ m = m')) := by
  refine e_M_undo (fun _ => ⟨fun c => ⟨by omega, ?_⟩, fun c => ⟨fun q => absurd q (by omega), fun _ => ⟨rfl, rfl⟩⟩⟩)
  rintro m1 rfl
  rw [up_off (by decide)]
  refine ⟨by omega, ?_⟩
  rintro m2 rfl
  have e45 : up (up m 70 45 (m 70 45 - 1)) 70 46 (m 70 46 + 1) 70 45 = m 70 45 - 1 := by rw [up_off (by decide), up_at]
  refine ⟨d, _, by omega, c_swapAll (by rw [e45]; omega), fun m3 h3 _ => ⟨fun _ => ?_, fun q => absurd (show m 70 45 > 0 by omega) q⟩⟩
  obtain ⟨f, g1, g2⟩ := h3
  rw [e45] at g1 g2
  have e70 := f 70 (by decide)
  refine ⟨rfl, ⟨fun b hb hb2 => ?_, fun i hi => ?_⟩, by rw [e70, e45], by rw [e70, up_at], fun i => ?_, fun k => ?_⟩
  · rw [f b hb, up_ne hb2, up_ne hb2]
  · rw [e70, up_off (fun e => hi (by rw [e]; simp)), up_off (fun e => hi (by rw [e]; simp))]
  · rw [g1 i, up_ne (by decide), up_ne (by decide), up_ne (by decide), up_ne (by decide)]
  · rw [g2 k, up_ne (by decide), up_ne (by decide), up_ne (by decide), up_ne (by decide)]
theorem c_redoM (ha : 0 ≤ m 70 45 ∧ m 70 45 ≤ 40) (hu : 0 ≤ m 70 46 ∧ m 70 46 ≤ 40) :
    CI l G Y_M_redo (d + 1) [.inr (.inr 70)] m (fun z m' => (m 70 46 > 0 → z = 1 ∧ Fro 70 [90, 96] [45, 46] m m' ∧ m' 70 45 = m 70 45 + 1 ∧ m' 70 46 = m 70 46 - 1 ∧ (∀ i, m' 90 i = if 0 ≤ i ∧ i < 8 then m 96 (8 * m 70 45 + i) else m 90 i) ∧ ∀ k, m' 96 k = if 8 * m 70 45 ≤ k ∧ k < 8 * m 70 45 + 8 then m 90 (k - 8 * m 70 45) else m 96 k) ∧ (¬ m 70 46 > 0 → z = 0 ∧ m = m')) := by
  refine e_M_redo (fun _ => ⟨fun c => ⟨d, _, by omega, c_swapAll ha, fun m1 h1 _ => ?_⟩, fun c => ⟨fun q => absurd q (by omega), fun _ => ⟨rfl, rfl⟩⟩⟩)
  obtain ⟨f, g1, g2⟩ := h1
  have e70 := f 70 (by decide)
  rw [e70]
  refine ⟨by omega, ?_⟩
  rintro m2 rfl
  rw [up_off (by decide), e70]
  refine ⟨by omega, ?_⟩
  rintro m3 rfl
  refine ⟨fun _ => ⟨rfl, ⟨fun b hb hb2 => ?_, fun i hi => ?_⟩, by rw [up_off (by decide), up_at], up_at, fun i => ?_, fun k => ?_⟩, fun q => absurd (show m 70 46 > 0 by omega) q⟩
  · rw [up_ne hb2, up_ne hb2, f b hb]
  · rw [up_off (fun e => hi (by rw [e]; simp)), up_off (fun e => hi (by rw [e]; simp)), e70]
  · rw [up_ne (by decide), up_ne (by decide), g1 i]
  · rw [up_ne (by decide), up_ne (by decide), g2 k]
end UndoM
