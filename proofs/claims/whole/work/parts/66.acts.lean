theorem upC_ne {m : MM} {a b c : Nat} {sp dp k : Int} (h : c ≠ b) : upC m a b sp dp k c = m c := by funext j; simp [upC, h]
theorem upC_row {m : MM} {a b : Nat} {sp dp k j : Int} : upC m a b sp dp k b j = if dp ≤ j ∧ j < dp + k then m a (sp + (j - dp)) else m b j := by simp [upC]
/-- the rows of acts behind one that is kept: a of them before it, its row is s -/
def kpA (a : Int) (s r : Int → Int) (k : Int) : Int :=
  if a ≥ 40 then (if 320 ≤ k then s (k - 320) else r (k + 8)) else if 8 * (a + 1) ≤ k ∧ k < 8 * (a + 1) + 8 then s (k - 8 * (a + 1)) else r k
/-- the same of the reference, which keeps the row before the act -/
def kpB (a : Int) (s r : Int → Int) (k : Int) : Int :=
  if a = 40 then (if 320 ≤ k then r k else if 312 ≤ k then s (k - 312) else r (k + 8)) else if 8 * a ≤ k ∧ k < 8 * a + 8 then s (k - 8 * a) else r k
section ActsS
variable {l : Launch} {G : GT} {d : Nat} {m : MM}
theorem c_keepX {h len : Nat} (hl : q_lay h = .inr (0, len)) (hlt : len < 2147483648) (h8 : 8 ≤ len) (hh : h ≠ 28 ∧ h ≠ 29) (ha : 0 ≤ m 28 1 ∧ m 28 1 ≤ 40) :
    CV l G Y_Acts_keep (d + 1) [.inr (.inr 28), .inr (.inr h)] m (fun m' => Fro 28 [29] [1, 2] m m' ∧ m' 28 1 = min 40 (m 28 1 + 1) ∧ m' 28 2 = min 40 (m 28 1 + 1) ∧ ∀ k, 0 ≤ k → k < 328 → m' 29 k = kpA (m 28 1) (m h) (m 29) k) := by
  obtain ⟨h28, h29⟩ := hh
  refine e_Acts_keep h len hl hlt (by omega) (fun _ => ⟨fun c => ⟨by omega, ?_⟩, fun c => ⟨by omega, ?_⟩⟩)
  · rintro m1 rfl m2 rfl
    rw [up_off (by decide), upC_ne (by decide)]
    refine ⟨by omega, by omega, ?_⟩
    rintro m3 rfl
    refine ⟨⟨fun b hb hb2 => ?_, fun i hi => ?_⟩, ?_, ?_, fun k k0 k1 => ?_⟩
    · have hb3 : b ≠ 29 := fun e => hb (by rw [e]; simp)
      rw [upC_ne hb3, up_ne hb2, upC_ne hb3]
    · have hi2 : i ≠ 2 := fun e => hi (by rw [e]; simp)
      rw [upC_ne (by decide), up_off hi2, upC_ne (by decide)]
    · rw [upC_ne (by decide), up_off (by decide), upC_ne (by decide)]; omega
    · rw [upC_ne (by decide), up_at]; omega
    · have e40 : m 28 1 = 40 := by omega
      have hk : kpA 40 (m h) (m 29) k = if 320 ≤ k then m h (k - 320) else m 29 (k + 8) := if_pos (by decide)
      rw [upC_row, up_ne h28, upC_ne h29, up_ne (by decide), upC_row, e40, hk]
      by_cases c1 : 320 ≤ k
      · rw [if_pos (by omega), if_pos c1]
        exact congrArg (m h) (by omega)
      · rw [if_neg (by omega), if_neg c1, if_pos (by omega)]
        exact congrArg (m 29) (by omega)
  · rintro m1 rfl m2 rfl
    rw [up_off (by decide), up_at]
    refine ⟨by omega, by omega, ?_⟩
    rintro m3 rfl
    refine ⟨⟨fun b hb hb2 => ?_, fun i hi => ?_⟩, ?_, ?_, fun k k0 k1 => ?_⟩
    · have hb3 : b ≠ 29 := fun e => hb (by rw [e]; simp)
      rw [upC_ne hb3, up_ne hb2, up_ne hb2]
    · have hi1 : i ≠ 1 := fun e => hi (by rw [e]; simp)
      have hi2 : i ≠ 2 := fun e => hi (by rw [e]; simp)
      rw [upC_ne (by decide), up_off hi2, up_off hi1]
    · rw [upC_ne (by decide), up_off (by decide), up_at]; omega
    · rw [upC_ne (by decide), up_at]; omega
    · rw [upC_row, up_ne h28, up_ne h28, up_ne (by decide), up_ne (by decide)]
      have hk : kpA (m 28 1) (m h) (m 29) k = if 8 * (m 28 1 + 1) ≤ k ∧ k < 8 * (m 28 1 + 1) + 8 then m h (k - 8 * (m 28 1 + 1)) else m 29 k := if_neg c
      rw [hk]
      by_cases c1 : 8 * (m 28 1 + 1) ≤ k ∧ k < 8 * (m 28 1 + 1) + 8
      · rw [if_pos (by omega), if_pos c1]
        exact congrArg (m h) (by omega)
      · rw [if_neg (by omega), if_neg c1]
theorem c_goBackX (ha : 0 ≤ m 28 1 ∧ m 28 1 ≤ 40) :
    CI l G Y_Acts_goBack (d + 1) [.inr (.inr 28), .inr (.inr 25)] m (fun z m' => (m 28 1 > 0 → z = 1 ∧ Fro 28 [25] [1] m m' ∧ m' 28 1 = m 28 1 - 1 ∧ ∀ i, m' 25 i = if 0 ≤ i ∧ i < 8 then m 29 (8 * (m 28 1 - 1) + i) else m 25 i) ∧ (¬ m 28 1 > 0 → z = 0 ∧ m = m')) := by
  refine e_Acts_goBack 25 8 rfl (by decide) (by omega) (fun _ => ⟨fun c => ⟨by omega, ?_⟩, fun c => ⟨fun q => absurd q c, fun _ => ⟨rfl, rfl⟩⟩⟩)
  rintro m1 rfl
  rw [up_at]
  refine ⟨by omega, by omega, ?_⟩
  rintro m2 rfl
  refine ⟨fun _ => ⟨rfl, ⟨fun b hb hb2 => ?_, fun i hi => ?_⟩, ?_, fun i => ?_⟩, fun q => absurd c q⟩
  · rw [upC_ne (fun e => hb (by rw [e]; simp)), up_ne hb2]
  · rw [upC_ne (by decide), up_off (fun e => hi (by rw [e]; simp))]
  · rw [upC_ne (by decide), up_at]
  · rw [upC_row, up_ne (by decide), up_ne (by decide)]
    by_cases c1 : 0 ≤ i ∧ i < 8
    · rw [if_pos (by omega), if_pos c1]
      exact congrArg (m 29) (by omega)
    · rw [if_neg (by omega), if_neg c1]
theorem c_goOnX (ha : 0 ≤ m 28 1 ∧ m 28 1 ≤ 40) (hL : m 28 2 ≤ 40) :
    CI l G Y_Acts_goOn (d + 1) [.inr (.inr 28), .inr (.inr 25)] m (fun z m' => (m 28 1 < m 28 2 → z = 1 ∧ Fro 28 [25] [1] m m' ∧ m' 28 1 = m 28 1 + 1 ∧ ∀ i, m' 25 i = if 0 ≤ i ∧ i < 8 then m 29 (8 * (m 28 1 + 1) + i) else m 25 i) ∧ (¬ m 28 1 < m 28 2 → z = 0 ∧ m = m')) := by
  refine e_Acts_goOn 25 8 rfl (by decide) (by omega) (fun _ => ⟨fun c => ⟨by omega, ?_⟩, fun c => ⟨fun q => absurd q c, fun _ => ⟨rfl, rfl⟩⟩⟩)
  rintro m1 rfl
  rw [up_at]
  refine ⟨by omega, by omega, ?_⟩
  rintro m2 rfl
  refine ⟨fun _ => ⟨rfl, ⟨fun b hb hb2 => ?_, fun i hi => ?_⟩, ?_, fun i => ?_⟩, fun q => absurd c q⟩
  · rw [upC_ne (fun e => hb (by rw [e]; simp)), up_ne hb2]
  · rw [upC_ne (by decide), up_off (fun e => hi (by rw [e]; simp))]
  · rw [upC_ne (by decide), up_at]
  · rw [upC_row, up_ne (by decide), up_ne (by decide)]
    by_cases c1 : 0 ≤ i ∧ i < 8
    · rw [if_pos (by omega), if_pos c1]
      exact congrArg (m 29) (by omega)
    · rw [if_neg (by omega), if_neg c1]
theorem c_swapAll (ha : 0 ≤ m 70 45 ∧ m 70 45 ≤ 40) :
    CV l G Y_M_swapAll d [.inr (.inr 70)] m (fun m' => Fr [90, 96] m m' ∧ (∀ i, m' 90 i = if 0 ≤ i ∧ i < 8 then m 96 (8 * m 70 45 + i) else m 90 i) ∧ ∀ k, m' 96 k = if 8 * m 70 45 ≤ k ∧ k < 8 * m 70 45 + 8 then m 90 (k - 8 * m 70 45) else m 96 k) := by
  refine e_M_swapAll (fun _ => ?_)
  have loop : ∀ (j : Nat) (x : Int) (m1 : MM), x + j = 8 → 0 ≤ x → Fr [90, 96] m m1 → (∀ i, m1 90 i = if 0 ≤ i ∧ i < x then m 96 (8 * m 70 45 + i) else m 90 i) → (∀ k, m1 96 k = if 8 * m 70 45 ≤ k ∧ k < 8 * m 70 45 + x then m 90 (k - 8 * m 70 45) else m 96 k) →
      Wq l G false Y_M_swapAll d (QV fun m' => Fr [90, 96] m m' ∧ (∀ i, m' 90 i = if 0 ≤ i ∧ i < 8 then m 96 (8 * m 70 45 + i) else m 90 i) ∧ ∀ k, m' 96 k = if 8 * m 70 45 ≤ k ∧ k < 8 * m 70 45 + 8 then m 90 (k - 8 * m 70 45) else m 96 k) 2 [(0, .inr (.inr 70)), (1, .inl x)] [] m1 := by
    intro j
    induction j with
    | zero =>
      intro x m1 hx h0 f g1 g2
      have e : x = 8 := by omega
      subst e
      exact s_M_swapAll_2 8 (fun _ _ => ⟨fun _ => ⟨f, g1, g2⟩, fun c => absurd (by decide) c⟩)
    | succ j ih =>
      intro x m1 hx h0 f g1 g2
      have e7 : m1 70 45 = m 70 45 := by rw [f 70 (by decide)]
      refine s_M_swapAll_2 x (fun _ _ => ⟨fun c => absurd c (by omega), fun _ => ?_⟩)
      rw [e7]
      refine ⟨by omega, by omega, by omega, by omega, by omega, by omega, by omega, ?_⟩
      rintro m2 rfl
      refine ⟨by omega, ?_⟩
      rintro m3 rfl
      refine ⟨by omega, ih (x + 1) _ (by omega) (by omega) (Fr_up (Fr_up f (by simp)) (by simp)) (fun i => ?_) (fun k => ?_)⟩
      · rw [up_row, up_ne (by decide)]
        by_cases c : i = x
        · rw [if_pos c, if_pos (by omega), g2, if_neg (by omega), c]
        · rw [if_neg c, g1 i]
          by_cases c2 : 0 ≤ i ∧ i < x
          · rw [if_pos c2, if_pos (by omega)]
          · rw [if_neg c2, if_neg (by omega)]
      · rw [up_ne (by decide), up_row]
        by_cases c : k = 8 * m 70 45 + x
        · rw [if_pos c, if_pos (by omega), g1 x, if_neg (by omega)]
          exact congrArg (m 90) (by omega)
        · rw [if_neg c, g2 k]
          by_cases c2 : 8 * m 70 45 ≤ k ∧ k < 8 * m 70 45 + x
          · rw [if_pos c2, if_pos (by omega)]
          · rw [if_neg c2, if_neg (by omega)]
  exact loop 8 0 m (by omega) (by omega) Fr.rf (fun i => by rw [if_neg (by omega)]) (fun k => by rw [if_neg (by omega)])
end ActsS
