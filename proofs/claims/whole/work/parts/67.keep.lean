section KeepM
variable {l : Launch} {G : GT} {d : Nat} {m : MM}
theorem c_keepLast {Q : MM → Prop} {a : Int} (ha : 0 ≤ a ∧ a ≤ 39) (h45 : m 70 45 = a)
    (K : ∀ m', Fro 70 [96] [45, 46] m m' → m' 70 45 = a + 1 → m' 70 46 = 0 → (∀ k, m' 96 k = if 8 * a ≤ k ∧ k < 8 * a + 8 then m 90 (k - 8 * a) else m 96 k) → Q m') :
    Wq l G false Y_M_keepAct d (QV Q) 51 [(0, .inr (.inr 70)), (1, .inl 0)] [] m := by
  have loop : ∀ (j : Nat) (x : Int) (m1 : MM), x + j = 8 → 0 ≤ x → Fr [96] m m1 → (∀ k, m1 96 k = if 8 * a ≤ k ∧ k < 8 * a + x then m 90 (k - 8 * a) else m 96 k) →
      Wq l G false Y_M_keepAct d (QV Q) 51 [(0, .inr (.inr 70)), (1, .inl x)] [] m1 := by
    intro j
    induction j with
    | zero =>
      intro x m1 hx h0 f g
      have e : x = 8 := by omega
      subst e
      have e7 : m1 70 45 = a := by rw [f 70 (by decide)]; exact h45
      refine s_M_keepAct_51 8 (fun _ _ => ⟨fun _ => ?_, fun c => absurd (by decide) c⟩)
      rw [e7]
      refine ⟨by omega, ?_⟩
      rintro m2 rfl m3 rfl
      refine K _ ⟨fun b hb hb2 => ?_, fun i hi => ?_⟩ ?_ up_at (fun k => ?_)
      · rw [up_ne hb2, up_ne hb2, f b hb]
      · rw [up_off (fun e => hi (by rw [e]; simp)), up_off (fun e => hi (by rw [e]; simp)), f 70 (by decide)]
      · rw [up_off (by decide), up_at]
      · rw [up_ne (by decide), up_ne (by decide), g k]
    | succ j ih =>
      intro x m1 hx h0 f g
      have e7 : m1 70 45 = a := by rw [f 70 (by decide)]; exact h45
      refine s_M_keepAct_51 x (fun _ _ => ⟨fun c => absurd c (by omega), fun _ => ?_⟩)
      rw [e7]
      refine ⟨by omega, by omega, by omega, by omega, ?_⟩
      rintro m2 rfl
      refine ⟨by omega, ih (x + 1) _ (by omega) (by omega) (Fr_up f (by simp)) (fun k => ?_)⟩
      rw [up_row, f 90 (by decide)]
      by_cases c : k = 8 * a + x
      · rw [if_pos c, if_pos (by omega)]
        exact congrArg (m 90) (by omega)
      · rw [if_neg c, g k]
        by_cases c2 : 8 * a ≤ k ∧ k < 8 * a + x
        · rw [if_pos c2, if_pos (by omega)]
        · rw [if_neg c2, if_neg (by omega)]
  exact loop 8 0 m (by omega) (by omega) Fr.rf (fun k => by rw [if_neg (by omega)])
theorem c_keepAct (ha : 0 ≤ m 70 45 ∧ m 70 45 ≤ 40) :
    CV l G Y_M_keepAct d [.inr (.inr 70)] m (fun m' => Fro 70 [96] [45, 46] m m' ∧ m' 70 45 = min 40 (m 70 45 + 1) ∧ m' 70 46 = 0 ∧ ∀ k, m' 96 k = if 0 ≤ k then kpB (m 70 45) (m 90) (m 96) k else m 96 k) := by
  refine e_M_keepAct (fun _ => ⟨fun c => ?_, fun c => ?_⟩)
  · refine c_keepLast (a := m 70 45) (by omega) rfl (fun m' f e1 e2 g => ⟨f, by omega, e2, fun k => ?_⟩)
    have hk : kpB (m 70 45) (m 90) (m 96) k = if 8 * m 70 45 ≤ k ∧ k < 8 * m 70 45 + 8 then m 90 (k - 8 * m 70 45) else m 96 k := if_neg c
    rw [g k, hk]
    by_cases c0 : 0 ≤ k
    · rw [if_pos c0]
    · rw [if_neg c0, if_neg (by omega)]
  · have e40 : m 70 45 = 40 := by omega
    have loop : ∀ (j : Nat) (x : Int) (m1 : MM), x + j = 320 → 0 ≤ x → Fr [96] m m1 → (∀ k, m1 96 k = if 0 ≤ k ∧ k < x then m 96 (k + 8) else m 96 k) →
        Wq l G false Y_M_keepAct d (QV fun m' => Fro 70 [96] [45, 46] m m' ∧ m' 70 45 = min 40 (m 70 45 + 1) ∧ m' 70 46 = 0 ∧ ∀ k, m' 96 k = if 0 ≤ k then kpB (m 70 45) (m 90) (m 96) k else m 96 k) 11 [(0, .inr (.inr 70)), (1, .inl x)] [] m1 := by
      intro j
      induction j with
      | zero =>
        intro x m1 hx h0 f g
        have e : x = 320 := by omega
        subst e
        have e7 : m1 70 45 = 40 := by rw [f 70 (by decide)]; exact e40
        refine s_M_keepAct_11 320 (fun _ _ => ⟨fun _ => ?_, fun c => absurd (by decide) c⟩)
        rw [e7]
        refine ⟨by decide, ?_⟩
        rintro m2 rfl
        refine c_keepLast (a := 39) (by decide) up_at (fun m' f2 e1 e2 g2 => ⟨⟨fun b hb hb2 => ?_, fun i hi => ?_⟩, by omega, e2, fun k => ?_⟩)
        · rw [f2.1 b hb hb2, up_ne hb2, f b hb]
        · rw [f2.2 i hi, up_off (fun e => hi (by rw [e]; simp)), f 70 (by decide)]
        · have hk : kpB 40 (m 90) (m 96) k = if 320 ≤ k then m 96 k else if 312 ≤ k then m 90 (k - 312) else m 96 (k + 8) := if_pos rfl
          rw [g2 k, e40, hk, up_ne (by decide), up_ne (by decide), f 90 (by decide), g k]
          by_cases c0 : 0 ≤ k
          · rw [if_pos c0]
            by_cases c1 : 320 ≤ k
            · rw [if_pos c1, if_neg (by omega), if_neg (by omega)]
            · rw [if_neg c1]
              by_cases c2 : 312 ≤ k
              · rw [if_pos c2, if_pos (by omega)]
                exact congrArg (m 90) (by omega)
              · rw [if_neg c2, if_neg (by omega), if_pos (by omega)]
          · rw [if_neg c0, if_neg (by omega), if_neg (by omega)]
      | succ j ih =>
        intro x m1 hx h0 f g
        refine s_M_keepAct_11 x (fun _ _ => ⟨fun c => absurd c (by omega), fun _ => ⟨by omega, by omega, by omega, ?_⟩⟩)
        rintro m2 rfl
        refine ⟨by omega, ih (x + 1) _ (by omega) (by omega) (Fr_up f (by simp)) (fun k => ?_)⟩
        rw [up_row, g (x + 8), if_neg (show ¬ (0 ≤ x + 8 ∧ x + 8 < x) by omega)]
        by_cases c2 : k = x
        · rw [if_pos c2, if_pos (by omega), c2]
        · rw [if_neg c2, g k]
          by_cases c3 : 0 ≤ k ∧ k < x
          · rw [if_pos c3, if_pos (by omega)]
          · rw [if_neg c3, if_neg (by omega)]
    exact loop 320 0 m (by omega) (by omega) Fr.rf (fun k => by rw [if_neg (by omega)])
end KeepM
