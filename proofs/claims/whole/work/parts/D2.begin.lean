/-! the class begins with a new board -/
section Begin
variable {l : Launch} {G : GT} {d : Nat} {m : MM} {b : Nat} {n : Nat} {D : Int → Int} {W : Int → Int → Int} {br : Int → Int}
/-- what a begun board leaves -/
def BgX (n : Nat) (D : Int → Int) (W : Int → Int → Int) (br : Int → Int) (b : Nat) (m m' : MM) : Prop :=
  Fr [25, 28, 29, 31, 38, 39, 40, 41, 42, 43, 44, 45, 55, 67] m m' ∧ ((∀ i, 0 ≤ i → i < 5 → m' 25 i = m (b + 1) i) ∧ m' 25 5 = 0 ∧ m' 25 6 = 0 ∧ m' 25 7 = m b 3) ∧ (m' 28 1 = 0 ∧ m' 28 2 = 0 ∧ ∀ i, 0 ≤ i → i < 8 → m' 29 i = m' 25 i) ∧ (∀ i, 0 ≤ i → i < 3 → m' 31 i = 0) ∧ m' 67 1 = 0 ∧ (m' 55 9 = 0 ∧ m' 55 10 = 0 ∧ ∀ i, i ≠ 9 → i ≠ 10 → m' 55 i = m 55 i) ∧ m' 45 3 = 0 ∧ GL n W br m' ∧ PtR n W br m' ∧ FlR n W br (m' 40)
theorem c_begin (B : BW n D W br) (X : CX n D W br b m) : CV l G Y_S_begin (d + 5) [.inr (.inr 0)] m (BgX n D W br b m) := by
  have hb := X.1
  have hbn : b = 7 ∨ b = 16 := hb
  have XF : ∀ m1, Fr [25, 28, 29, 31, 38, 39, 40, 41, 42, 43, 44, 45, 55, 67] m m1 → CX n D W br b m1 := fun m1 f => X.fr f (by decide) (by decide)
  refine e_S_begin (fun _ => ?_)
  generalize hQ : BgX n D W br b m = Q
  -- behind the boxes
  have third : ∀ (s : Nat) (i : Int) (m1 : MM), i + s = 3 → 0 ≤ i → Fr [25, 28, 29, 31] m m1 → ((∀ i, 0 ≤ i → i < 5 → m1 25 i = m (b + 1) i) ∧ m1 25 5 = 0 ∧ m1 25 6 = 0 ∧ m1 25 7 = m b 3) → (m1 28 1 = 0 ∧ m1 28 2 = 0 ∧ ∀ i, 0 ≤ i → i < 8 → m1 29 i = m1 25 i) → (∀ t, 0 ≤ t → t < i → m1 31 t = 0) → Wq l G false Y_S_begin (d + 5) (QV Q) 70 [(0, .inr (.inr 0)), (1, .inl i)] [] m1 := by
    intro s
    induction s with
    | zero =>
      intro i m1 his i0 f h25 h28 h31
      refine s_S_begin_70 _ (fun _ _ => ⟨fun _ => ?_, fun c => absurd (show i ≥ 3 by omega) c⟩)
      refine ⟨d, _, by omega, e_Lying_clear (P := fun m' => m' = up m1 67 1 0) (fun _ _ h => h), fun m2 e2 _ => ?_⟩
      refine ⟨d, _, by omega, e_Sights_forget (P := fun m' => m' = up (up m2 55 10 0) 55 9 0) (fun _ m3 e3 m4 e4 => by rw [e4, e3]), fun m3 e3 _ => ?_⟩
      refine ⟨d, _, by omega, e_Fire_forget (P := fun m' => m' = up m3 45 3 0) (fun _ _ h => h), fun m4 e4 _ => ?_⟩
      have f2 : Fr [25, 28, 29, 31, 67] m m2 := by rw [e2]; exact Fr_up (f.mono (by simp)) (by simp)
      have f3 : Fr [25, 28, 29, 31, 55, 67] m m3 := by rw [e3]; exact Fr_up (Fr_up (f2.mono (by simp)) (by simp)) (by simp)
      have f4 : Fr [25, 28, 29, 31, 38, 39, 40, 41, 42, 43, 44, 45, 55, 67] m m4 := by rw [e4]; exact Fr_up (f3.mono (by simp)) (by simp)
      have X4 := XF m4 f4
      refine ⟨b, X4.2.1, X4.1, d + 4, _, by omega, c_learn B X4.1 X4.2.2, fun m5 h5 _ => ?_⟩
      obtain ⟨f5, gl, pt, fl⟩ := h5
      have k : ∀ c : Nat, c ∉ [39, 40, 41, 42, 43, 44] → c ≠ 38 → m5 c = m4 c := f5.1
      have e25 : m5 25 = m1 25 := by rw [k 25 (by decide) (by decide), e4, up_ne (by decide), e3, up_ne (by decide), up_ne (by decide), e2, up_ne (by decide)]
      have e28 : m5 28 = m1 28 := by rw [k 28 (by decide) (by decide), e4, up_ne (by decide), e3, up_ne (by decide), up_ne (by decide), e2, up_ne (by decide)]
      have e29 : m5 29 = m1 29 := by rw [k 29 (by decide) (by decide), e4, up_ne (by decide), e3, up_ne (by decide), up_ne (by decide), e2, up_ne (by decide)]
      have e31 : m5 31 = m1 31 := by rw [k 31 (by decide) (by decide), e4, up_ne (by decide), e3, up_ne (by decide), up_ne (by decide), e2, up_ne (by decide)]
      have e67 : m5 67 1 = 0 := by rw [k 67 (by decide) (by decide), e4, up_ne (by decide), e3, up_ne (by decide), up_ne (by decide), e2, up_at]
      have e55 : m5 55 = m3 55 := by rw [k 55 (by decide) (by decide), e4, up_ne (by decide)]
      have e45 : m5 45 3 = 0 := by rw [k 45 (by decide) (by decide), e4, up_at]
      have m55 : m2 55 = m 55 := f2 55 (by decide)
      rw [← hQ]
      refine ⟨f4.tr (fun c hc => k c (fun q => hc (by simp only [List.mem_cons, List.not_mem_nil, or_false] at q ⊢; omega)) (fun q => hc (by rw [q]; simp))), by rw [e25]; exact h25, by rw [e25, e28, e29]; exact h28, fun t t0 t1 => by rw [e31]; exact h31 t t0 (by omega), e67, ⟨by rw [e55, e3, up_at], by rw [e55, e3, up_off (by decide), up_at], fun t t9 t10 => by rw [e55, e3, up_off t9, up_off t10, m55]⟩, e45, gl, pt, fl⟩
    | succ s ih =>
      intro i m1 his i0 f h25 h28 h31
      refine s_S_begin_70 _ (fun _ _ => ⟨fun c => absurd c (by omega), fun _ => ⟨by omega, ?_⟩⟩)
      intro m2 e2
      refine ⟨by omega, ih (i + 1) m2 (by omega) (by omega) (by rw [e2]; exact Fr_up f (by simp)) (by rw [e2, up_ne (by decide)]; exact h25) (by rw [e2, up_ne (by decide), up_ne (by decide), up_ne (by decide)]; exact h28) (fun t t0 t1 => ?_)⟩
      rw [e2, up_row]
      by_cases q : t = i
      · rw [if_pos q]
      · rw [if_neg q]; exact h31 t t0 (by omega)
  have first : ∀ (s : Nat) (i : Int) (m1 : MM), i + s = 5 → 0 ≤ i → Fr [25] m m1 → (∀ t, 0 ≤ t → t < i → m1 25 t = m (b + 1) t) → Wq l G false Y_S_begin (d + 5) (QV Q) 2 [(0, .inr (.inr 0)), (1, .inl i)] [] m1 := by
    intro s
    induction s with
    | zero =>
      intro i m1 his i0 f h25
      have X1 := XF m1 (f.mono (by simp))
      refine s_S_begin_2 _ (fun _ _ => ⟨fun _ => ?_, fun c => absurd (show i ≥ 5 by omega) c⟩)
      intro m2 e2 m3 e3
      have f3 : Fr [25] m m3 := by rw [e3, e2]; exact Fr_up (Fr_up f (by simp)) (by simp)
      have X3 := XF m3 (f3.mono (by simp))
      refine ⟨b, X3.2.1, X3.1, ?_⟩
      intro m4 e4
      have ebd : m3 b 3 = m b 3 := by rw [f3 b (by rcases hbn with rfl | rfl <;> decide)]
      have f4 : Fr [25] m m4 := by rw [e4]; exact Fr_up f3 (by simp)
      have g25 : (∀ i, 0 ≤ i → i < 5 → m4 25 i = m (b + 1) i) ∧ m4 25 5 = 0 ∧ m4 25 6 = 0 ∧ m4 25 7 = m b 3 := by
        refine ⟨fun t t0 t1 => ?_, ?_, ?_, ?_⟩
        · rw [e4, up_off (by omega), e3, up_off (by omega), e2, up_off (by omega)]
          exact h25 t t0 (by omega)
        · rw [e4, up_off (by decide), e3, up_off (by decide), e2, up_at]
        · rw [e4, up_off (by decide), e3, up_at]
        · rw [e4, up_at, ebd]
      refine ⟨d + 1, _, by omega, c_forget (h := 25) rfl (by decide), fun m5 h5 _ => ?_⟩
      obtain ⟨f5, a1, a2, a3⟩ := h5
      have k25 : m5 25 = m4 25 := f5.1 25 (by decide) (by decide)
      exact third 3 0 m5 (by omega) (Int.le_refl 0) ((f4.mono (by simp)).tr (fun c hc => f5.1 c (fun q => hc (by simp only [List.mem_cons, List.not_mem_nil, or_false] at q ⊢; omega)) (fun q => hc (by rw [q]; simp)))) (by rw [k25]; exact g25) ⟨a1, a2, fun t t0 t1 => by rw [a3 t t0 t1, k25]⟩ (fun t t0 t1 => by omega)
    | succ s ih =>
      intro i m1 his i0 f h25
      have X1 := XF m1 (f.mono (by simp))
      refine s_S_begin_2 _ (fun _ _ => ⟨fun c => absurd c (by omega), fun _ => ⟨b, X1.2.1, X1.1, by omega, by omega, ?_⟩⟩)
      intro m2 e2
      have eh : m1 (b + 1) i = m (b + 1) i := by rw [f (b + 1) (by rcases hbn with rfl | rfl <;> decide)]
      refine ⟨by omega, ih (i + 1) m2 (by omega) (by omega) (by rw [e2]; exact Fr_up f (by simp)) (fun t t0 t1 => ?_)⟩
      rw [e2, up_row]
      by_cases q : t = i
      · rw [if_pos q, eh, q]
      · rw [if_neg q]; exact h25 t t0 (by omega)
  exact first 5 0 m (by omega) (Int.le_refl 0) Fr.rf (fun t t0 t1 => by omega)
end Begin
