/-! must and numeral of the reference -/
section ReadM2
variable {l : Launch} {G : GT} {d : Nat} {m : MM}
def GoP (N : Int) (m m' : MM) : Prop := Fro 70 [] [6, 7, 8, 9, 10] m m' ∧ TkM (tx m) N (m 70 7) (m' 70 8) (m' 70 6) (m' 70 7) (m' 70 9) (m' 70 10) ∧ tx m' = tx m ∧ TsM (tx m) N m'
theorem FlM.four {x k : Int} {m' : MM} (h : FlM x k m m') (h0 : m 70 4 = 0) : m' 70 4 = x := by
  rw [h.1 (by omega), up_off (by decide), up_at]
theorem c_must {N x : Int} (h : TsM (tx m) N m) : CV l G Y_M_must (d + 2) [.inr (.inr 70), .inl x] m (fun m' => (m 70 4 ≠ 0 → m' = m) ∧ (m 70 4 = 0 → (x = 0 → FlM (if m 70 8 = 1 then 1 else 2) (m 70 6) m m') ∧ (x ≠ 0 → GoP N m m'))) := by
  refine e_M_must x (fun _ _ => ⟨d, _, by omega, c_isGoodM2, fun z m1 hz _ _ => ?_⟩)
  obtain ⟨hz, rfl⟩ := hz
  refine ⟨fun c => ?_, fun c => ⟨fun _ => rfl, fun q => absurd q (hz.mp (Classical.not_not.mp c))⟩⟩
  have h4 : m 70 4 = 0 := Classical.not_not.mp (fun q => c (hz.mpr q))
  exact ⟨fun cx => ⟨d + 1, _, by omega, c_misplacedM2, fun m1 h1 _ => ⟨fun q => absurd h4 q, fun _ => ⟨fun _ => h1, fun q => absurd cx q⟩⟩⟩, fun cx => ⟨d + 1, _, by omega, c_goOnM2 h, fun m1 h1 _ => ⟨fun q => absurd h4 q, fun _ => ⟨fun q => absurd q cx, fun _ => h1⟩⟩⟩⟩
/-- a number within bounds -/
def NuM (N x y : Int) (m : MM) (z : Int) (m' : MM) : Prop :=
  (m 70 4 ≠ 0 → z = x ∧ m' = m) ∧ (m 70 4 = 0 → (m 70 8 ≠ 4 ∧ z = x ∧ FlM (if m 70 8 = 1 then 1 else 2) (m 70 6) m m') ∨ (m 70 8 = 4 ∧ ¬ (x ≤ m 70 9 ∧ m 70 9 ≤ y) ∧ z = x ∧ FlM 4 (m 70 6) m m') ∨ (m 70 8 = 4 ∧ (x ≤ m 70 9 ∧ m 70 9 ≤ y) ∧ z = m 70 9 ∧ GoP N m m'))
theorem c_numeral {N x y : Int} (h : TsM (tx m) N m) : CI l G Y_M_numeral (d + 2) [.inr (.inr 70), .inl x, .inl y] m (NuM N x y m) := by
  refine e_M_numeral x y (fun _ _ _ => ⟨d, _, by omega, c_isGoodM2, fun z m1 hz _ _ => ?_⟩)
  obtain ⟨hz, rfl⟩ := hz
  refine ⟨fun c => ?_, fun c => ⟨fun _ => ⟨rfl, rfl⟩, fun q => absurd q (hz.mp (Classical.not_not.mp c))⟩⟩
  have h4 : m 70 4 = 0 := Classical.not_not.mp (fun q => c (hz.mpr q))
  refine ⟨fun c4 => ?_, fun c4 => ⟨d + 1, _, by omega, c_misplacedM2, fun m1 h1 _ => ?_⟩⟩
  · refine s_M_numeral_21 _ _ (fun _ _ _ => ⟨d, _, by omega, c_isGoodM2, fun z2 m1 hz2 _ _ => ?_⟩)
    obtain ⟨hz2, rfl⟩ := hz2
    refine ⟨fun q => absurd h4 (hz2.mp q), fun _ => ⟨fun cl => ⟨d, _, by omega, c_failsM2, fun m1 h1 _ => ?_⟩, fun cl => ⟨fun cu => ?_, fun cu => ⟨d, _, by omega, c_failsM2, fun m1 h1 _ => ?_⟩⟩⟩⟩
    · have hb := h1.four h4
      have hP : NuM N x y m x m1 := ⟨fun q => absurd h4 q, fun _ => Or.inr (Or.inl ⟨c4, by omega, rfl, h1⟩)⟩
      refine ⟨d, _, by omega, c_isGoodM2, fun z3 m2 hz3 _ _ => ?_⟩
      obtain ⟨hz3, rfl⟩ := hz3
      refine ⟨fun _ => ⟨d, _, by omega, c_isGoodM2, fun z4 m2 hz4 _ _ => ?_⟩, fun q => absurd (hz3.mpr (by omega)) q⟩
      obtain ⟨hz4, rfl⟩ := hz4
      exact ⟨fun _ => hP, fun q => absurd (hz4.mpr (by omega)) q⟩
    · refine ⟨d, _, by omega, c_isGoodM2, fun z3 m2 hz3 _ _ => ?_⟩
      obtain ⟨hz3, rfl⟩ := hz3
      refine ⟨fun q => absurd h4 (hz3.mp q), fun _ => ⟨d + 1, _, by omega, c_goOnM2 h, fun m1 h1 _ => ⟨d, _, by omega, c_isGoodM2, fun z4 m2 hz4 _ _ => ?_⟩⟩⟩
      obtain ⟨hz4, rfl⟩ := hz4
      have k4 : m1 70 4 = 0 := by rw [h1.1.2 4 (by decide)]; exact h4
      exact ⟨fun q => absurd k4 (hz4.mp q), fun _ => ⟨fun q => absurd h4 q, fun _ => Or.inr (Or.inr ⟨c4, by omega, rfl, h1⟩)⟩⟩
    · have hb := h1.four h4
      have hP : NuM N x y m x m1 := ⟨fun q => absurd h4 q, fun _ => Or.inr (Or.inl ⟨c4, by omega, rfl, h1⟩)⟩
      refine ⟨d, _, by omega, c_isGoodM2, fun z3 m2 hz3 _ _ => ?_⟩
      obtain ⟨hz3, rfl⟩ := hz3
      refine ⟨fun _ => ⟨d, _, by omega, c_isGoodM2, fun z4 m2 hz4 _ _ => ?_⟩, fun q => absurd (hz3.mpr (by omega)) q⟩
      obtain ⟨hz4, rfl⟩ := hz4
      exact ⟨fun _ => hP, fun q => absurd (hz4.mpr (by omega)) q⟩
  · have hb := h1.four h4
    have hb2 : m1 70 4 ≠ 0 := by
      rw [hb]
      split <;> decide
    have hP : NuM N x y m x m1 := ⟨fun q => absurd h4 q, fun _ => Or.inl ⟨c4, rfl, h1⟩⟩
    refine s_M_numeral_21 _ _ (fun _ _ _ => ⟨d, _, by omega, c_isGoodM2, fun z2 m2 hz2 _ _ => ?_⟩)
    obtain ⟨hz2, rfl⟩ := hz2
    refine ⟨fun _ => ⟨d, _, by omega, c_isGoodM2, fun z3 m2 hz3 _ _ => ?_⟩, fun q => absurd (hz2.mpr hb2) q⟩
    obtain ⟨hz3, rfl⟩ := hz3
    refine ⟨fun _ => ⟨d, _, by omega, c_isGoodM2, fun z4 m2 hz4 _ _ => ?_⟩, fun q => absurd (hz3.mpr hb2) q⟩
    obtain ⟨hz4, rfl⟩ := hz4
    exact ⟨fun _ => hP, fun q => absurd (hz4.mpr hb2) q⟩
end ReadM2
