/-! a bank made empty -/
section ReadM5
variable {l : Launch} {G : GT} {d : Nat} {m : MM}
/-- a row with one stretch of noughts -/
def Nil (u : Int) (w : Int) (f g : Int → Int) : Prop := (∀ t, u ≤ t → t < u + w → g t = 0) ∧ ∀ t, ¬ (u ≤ t ∧ t < u + w) → g t = f t
def ClM (r : Int) (m m' : MM) : Prop := Fro 70 [73, 74, 75, 76, 77, 78, 80, 81] [30] m m' ∧ (Nil r 1 (m 73) (m' 73) ∧ Nil r 1 (m 74) (m' 74) ∧ Nil r 1 (m 75) (m' 75) ∧ Nil r 1 (m 76) (m' 76) ∧ Nil r 1 (m 77) (m' 77) ∧ Nil r 1 (m 78) (m' 78)) ∧ Nil (5 * r) 5 (m 81) (m' 81) ∧ Nil (25 * r) 25 (m 80) (m' 80) ∧ m' 70 30 = 560 * r
theorem Nil.put {a : Nat} {r : Int} : Nil r 1 (m a) (up m a r 0 a) := ⟨fun t t0 t1 => by rw [show t = r by omega, up_at], fun t ht => by rw [up_off (fun e => ht (by omega))]⟩
theorem Nil.more {a : Nat} {u i : Int} {f : Int → Int} {m1 : MM} (h : Nil u i f (m1 a)) (i0 : 0 ≤ i) : Nil u (i + 1) f (up m1 a (u + i) 0 a) := by
  refine ⟨fun t t0 t1 => ?_, fun t ht => ?_⟩
  · rw [up_row]
    by_cases q : t = u + i
    · rw [if_pos q]
    · rw [if_neg q]; exact h.1 t t0 (by omega)
  · rw [up_off (fun e => ht (by omega))]
    exact h.2 t (fun q => ht (by omega))
theorem c_clearBank {r : Int} (hr : m 70 29 = r ∧ 0 ≤ r ∧ r ≤ 1) : CV l G Y_M_clearBank d [.inr (.inr 70)] m (ClM r m) := by
  obtain ⟨r1, r0, r2⟩ := hr
  refine e_M_clearBank (fun _ => ?_)
  rw [r1]
  refine ⟨by omega, fun m1 e1 => ?_⟩
  have q1 : m1 70 29 = r := by rw [e1, up_ne (by decide)]; exact r1
  rw [q1]
  refine ⟨by omega, fun m2 e2 => ?_⟩
  have q2 : m2 70 29 = r := by rw [e2, up_ne (by decide)]; exact q1
  rw [q2]
  refine ⟨by omega, fun m3 e3 => ?_⟩
  have q3 : m3 70 29 = r := by rw [e3, up_ne (by decide)]; exact q2
  rw [q3]
  refine ⟨by omega, fun m4 e4 => ?_⟩
  have q4 : m4 70 29 = r := by rw [e4, up_ne (by decide)]; exact q3
  rw [q4]
  refine ⟨by omega, fun m5 e5 => ?_⟩
  have q5 : m5 70 29 = r := by rw [e5, up_ne (by decide)]; exact q4
  rw [q5]
  refine ⟨by omega, fun m6 e6 => ?_⟩
  have q6 : m6 70 29 = r := by rw [e6, up_ne (by decide)]; exact q5
  have f6 : Fro 70 [73, 74, 75, 76, 77, 78] [] m m6 := by
    rw [e6, e5, e4, e3, e2, e1]
    exact Fro_up (Fro_up (Fro_up (Fro_up (Fro_up (Fro_up Fro.rf (by simp) (by decide)) (by simp) (by decide)) (by simp) (by decide)) (by simp) (by decide)) (by simp) (by decide)) (by simp) (by decide)
  have k73 : m6 73 = up m 73 r 0 73 := by rw [e6, up_ne (by decide), e5, up_ne (by decide), e4, up_ne (by decide), e3, up_ne (by decide), e2, up_ne (by decide), e1]
  have k74 : m6 74 = up m 74 r 0 74 := by rw [e6, up_ne (by decide), e5, up_ne (by decide), e4, up_ne (by decide), e3, up_ne (by decide), e2]; funext t; rw [up_row, up_row, e1, up_ne (by decide)]
  have k75 : m6 75 = up m 75 r 0 75 := by rw [e6, up_ne (by decide), e5, up_ne (by decide), e4, up_ne (by decide), e3]; funext t; rw [up_row, up_row, e2, up_ne (by decide), e1, up_ne (by decide)]
  have k76 : m6 76 = up m 76 r 0 76 := by rw [e6, up_ne (by decide), e5, up_ne (by decide), e4]; funext t; rw [up_row, up_row, e3, up_ne (by decide), e2, up_ne (by decide), e1, up_ne (by decide)]
  have k77 : m6 77 = up m 77 r 0 77 := by rw [e6, up_ne (by decide), e5]; funext t; rw [up_row, up_row, e4, up_ne (by decide), e3, up_ne (by decide), e2, up_ne (by decide), e1, up_ne (by decide)]
  have k78 : m6 78 = up m 78 r 0 78 := by rw [e6]; funext t; rw [up_row, up_row, e5, up_ne (by decide), e4, up_ne (by decide), e3, up_ne (by decide), e2, up_ne (by decide), e1, up_ne (by decide)]
  have nil6 : Nil r 1 (m 73) (m6 73) ∧ Nil r 1 (m 74) (m6 74) ∧ Nil r 1 (m 75) (m6 75) ∧ Nil r 1 (m 76) (m6 76) ∧ Nil r 1 (m 77) (m6 77) ∧ Nil r 1 (m 78) (m6 78) := by
    rw [k73, k74, k75, k76, k77, k78]
    exact ⟨Nil.put, Nil.put, Nil.put, Nil.put, Nil.put, Nil.put⟩
  have two : ∀ (s : Nat) (i : Int) (m7 : MM), i + s = 25 → 0 ≤ i → Fro 70 [80, 81] [] m6 m7 → Nil (5 * r) 5 (m 81) (m7 81) → Nil (25 * r) i (m 80) (m7 80) → Wq l G false Y_M_clearBank d (QV (ClM r m)) 89 [(0, .inr (.inr 70)), (1, .inl i)] [] m7 := by
    intro s
    induction s with
    | zero =>
      intro i m7 his i0 f h81 h80
      have q7 : m7 70 29 = r := by rw [f.2 29 (by simp)]; exact q6
      refine s_M_clearBank_89 _ (fun _ _ => ⟨fun _ => ?_, fun c => absurd (show i ≥ 25 by omega) c⟩)
      rw [q7]
      refine ⟨by omega, fun m8 e8 => ?_⟩
      have k : ∀ c : Nat, c ≠ 70 → m8 c = m7 c := fun c hc => by rw [e8, up_ne hc]
      have ei : i = 25 := by omega
      rw [ei] at h80
      refine ⟨?_, ?_, by rw [k 81 (by decide)]; exact h81, by rw [k 80 (by decide)]; exact h80, by rw [e8, up_at]⟩
      · rw [e8]
        exact Fro_upo ((f6.mono (by simp) (by simp)).tr (f.mono (by simp) (by simp))) (by simp)
      · rw [k 73 (by decide), k 74 (by decide), k 75 (by decide), k 76 (by decide), k 77 (by decide), k 78 (by decide), f.1 73 (by decide) (by decide), f.1 74 (by decide) (by decide), f.1 75 (by decide) (by decide), f.1 76 (by decide) (by decide), f.1 77 (by decide) (by decide), f.1 78 (by decide) (by decide)]
        exact nil6
    | succ s ih =>
      intro i m7 his i0 f h81 h80
      have q7 : m7 70 29 = r := by rw [f.2 29 (by simp)]; exact q6
      refine s_M_clearBank_89 _ (fun _ _ => ⟨fun c => absurd c (by omega), fun _ => ?_⟩)
      rw [q7]
      refine ⟨by omega, by omega, by omega, fun m8 e8 => ⟨by omega, ih (i + 1) m8 (by omega) (by omega) (by rw [e8]; exact Fro_up f (by simp) (by decide)) (by rw [e8, up_ne (by decide)]; exact h81) (by rw [e8]; exact h80.more i0)⟩⟩
  have one : ∀ (s : Nat) (i : Int) (m7 : MM), i + s = 5 → 0 ≤ i → Fro 70 [80, 81] [] m6 m7 → Nil (5 * r) i (m 81) (m7 81) → m7 80 = m 80 → Wq l G false Y_M_clearBank d (QV (ClM r m)) 62 [(0, .inr (.inr 70)), (1, .inl i)] [] m7 := by
    intro s
    induction s with
    | zero =>
      intro i m7 his i0 f h81 h80
      refine s_M_clearBank_62 _ (fun _ _ => ⟨fun _ => ?_, fun c => absurd (show i ≥ 5 by omega) c⟩)
      have ei : i = 5 := by omega
      rw [ei] at h81
      exact two 25 0 m7 (by omega) (Int.le_refl 0) f h81 ⟨fun t t0 t1 => by omega, fun t _ => by rw [h80]⟩
    | succ s ih =>
      intro i m7 his i0 f h81 h80
      have q7 : m7 70 29 = r := by rw [f.2 29 (by simp)]; exact q6
      refine s_M_clearBank_62 _ (fun _ _ => ⟨fun c => absurd c (by omega), fun _ => ?_⟩)
      rw [q7]
      refine ⟨by omega, by omega, by omega, fun m8 e8 => ⟨by omega, ih (i + 1) m8 (by omega) (by omega) (by rw [e8]; exact Fro_up f (by simp) (by decide)) (by rw [e8]; exact h81.more i0) (by rw [e8, up_ne (by decide)]; exact h80)⟩⟩
  exact one 5 0 m6 (by omega) (Int.le_refl 0) Fro.rf ⟨fun t t0 t1 => by omega, fun t _ => by rw [f6.1 81 (by decide) (by decide)]⟩ (f6.1 80 (by decide) (by decide))
end ReadM5
