section KeepNow
variable {l : Launch} {G : GT} {d : Nat} {m : MM}
theorem c_keepNow : CV l G Y_M_keepNow d [.inr (.inr 70)] m (fun m' => Fr [91] m m' ∧ ∀ i, 0 ≤ i → i < 8 → m' 91 i = m 90 i) := by
  refine e_M_keepNow (fun _ => ?_)
  have loop : ∀ (j : Nat) (x : Int) (m1 : MM), x + j = 8 → 0 ≤ x → Fr [91] m m1 → (∀ i, 0 ≤ i → i < x → m1 91 i = m 90 i) →
      Wq l G false Y_M_keepNow d (QV fun m' => Fr [91] m m' ∧ ∀ i, 0 ≤ i → i < 8 → m' 91 i = m 90 i) 2 [(0, .inr (.inr 70)), (1, .inl x)] [] m1 := by
    intro j
    induction j with
    | zero =>
      intro x m1 hx h0 f g
      have e : x = 8 := by omega
      subst e
      exact s_M_keepNow_2 8 (fun _ _ => ⟨fun _ => ⟨f, g⟩, fun c => absurd (by decide) c⟩)
    | succ j ih =>
      intro x m1 hx h0 f g
      refine s_M_keepNow_2 x (fun _ _ => ⟨fun c => absurd c (by omega), fun _ => ⟨by omega, by omega, ?_⟩⟩)
      rintro m2 rfl
      refine ⟨by omega, ih (x + 1) _ (by omega) (by omega) (Fr_up f (by simp)) (fun i i0 i1 => ?_)⟩
      rw [up_row, f 90 (by decide)]
      by_cases c : i = x
      · rw [if_pos c, c]
      · rw [if_neg c]; exact g i i0 (by omega)
  exact loop 8 0 m (by omega) (by omega) Fr.rf (fun i i0 i1 => absurd i1 (by omega))
theorem c_bringBack : CV l G Y_M_bringBack d [.inr (.inr 70)] m (fun m' => Fr [90] m m' ∧ ∀ i, 0 ≤ i → i < 8 → m' 90 i = m 91 i) := by
  refine e_M_bringBack (fun _ => ?_)
  have loop : ∀ (j : Nat) (x : Int) (m1 : MM), x + j = 8 → 0 ≤ x → Fr [90] m m1 → (∀ i, 0 ≤ i → i < x → m1 90 i = m 91 i) →
      Wq l G false Y_M_bringBack d (QV fun m' => Fr [90] m m' ∧ ∀ i, 0 ≤ i → i < 8 → m' 90 i = m 91 i) 2 [(0, .inr (.inr 70)), (1, .inl x)] [] m1 := by
    intro j
    induction j with
    | zero =>
      intro x m1 hx h0 f g
      have e : x = 8 := by omega
      subst e
      exact s_M_bringBack_2 8 (fun _ _ => ⟨fun _ => ⟨f, g⟩, fun c => absurd (by decide) c⟩)
    | succ j ih =>
      intro x m1 hx h0 f g
      refine s_M_bringBack_2 x (fun _ _ => ⟨fun c => absurd c (by omega), fun _ => ⟨by omega, by omega, ?_⟩⟩)
      rintro m2 rfl
      refine ⟨by omega, ih (x + 1) _ (by omega) (by omega) (Fr_up f (by simp)) (fun i i0 i1 => ?_)⟩
      rw [up_row, f 91 (by decide)]
      by_cases c : i = x
      · rw [if_pos c, c]
      · rw [if_neg c]; exact g i i0 (by omega)
  exact loop 8 0 m (by omega) (by omega) Fr.rf (fun i i0 i1 => absurd i1 (by omega))
end KeepNow
