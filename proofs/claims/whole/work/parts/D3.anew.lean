/-! the reference starts anew -/
section Anew
variable {l : Launch} {G : GT} {d : Nat} {m : MM} {b : Nat} {n : Nat} {D : Int → Int} {W : Int → Int → Int} {br : Int → Int}
/-- what starting anew leaves -/
def BgM (n : Nat) (D : Int → Int) (W : Int → Int → Int) (br : Int → Int) (m m' : MM) : Prop :=
  Fro 70 [90, 92, 93, 94, 95, 99, 110] [41, 42, 45, 46, 48, 60] m m' ∧ BM n D W br m' ∧ ((∀ i, In n i → m' 90 i = m 79 (5 * m 70 28 + i)) ∧ (∀ i, 0 ≤ i → i < 7 → ¬ In n i → m' 90 i = 0) ∧ m' 90 7 = m 77 (m 70 28)) ∧ GM n W br m' ∧ (m' 70 45 = 0 ∧ m' 70 46 = 0 ∧ m' 70 60 = 0 ∧ m' 70 48 = 0) ∧ ∀ i, 0 ≤ i → i < 3 → m' 110 i = 0
theorem c_startAnew (B : BW n D W br) (X : BM n D W (m 92) m) : CV l G Y_M_startAnew (d + 4) [.inr (.inr 70)] m (BgM n D W br m) := by
  have hn5 := B.1
  have hbk := X.1
  have X0 : ∀ m1, Fro 70 [90, 92] [] m m1 → BM n D W (m1 92) m1 := fun m1 f => by
    obtain ⟨x0, x1, x2, x3, x4⟩ := X
    have e0 := f.2 28 (by decide)
    refine ⟨by rw [e0]; exact x0, ?_, fun i hi => ?_, fun i hi => rfl, fun i j hi hj => ?_⟩
    · rw [e0, f.1 73 (by decide) (by decide)]; exact x1
    · rw [e0, f.1 81 (by decide) (by decide)]; exact x2 i hi
    · rw [e0, f.1 80 (by decide) (by decide)]; exact x4 i j hi hj
  have hwb : ∀ {i : Int}, In n i → ∀ k : Nat, k ≤ n → 0 ≤ sm k (W i) ∧ sm k (W i) ≤ 20 := fun {i} hi k hk => by
    have h1 := sm_nonneg (n := k) (f := W i) (fun j hj => (B.2.2.1 i j hi ⟨hj.1, by have := hj.2; omega⟩).1)
    have h2 := (sm_bound (k := k) (f := W i) (M := 2) (fun j hj => by have := B.2.2.1 i j hi ⟨hj.1, by have := hj.2; omega⟩; omega)).2
    omega
  refine e_M_startAnew (fun _ => ?_)
  generalize hQ : BgM n D W br m = Q
  -- the boxes
  have last : ∀ (s : Nat) (i : Int) (m1 : MM), i + s = 3 → 0 ≤ i → BgM n D W br m (m1 : MM) ∨ (Fro 70 [90, 92, 93, 94, 95, 99, 110] [41, 42, 45, 46, 48, 60] m m1 ∧ BM n D W br m1 ∧ ((∀ i, In n i → m1 90 i = m 79 (5 * m 70 28 + i)) ∧ (∀ i, 0 ≤ i → i < 7 → ¬ In n i → m1 90 i = 0) ∧ m1 90 7 = m 77 (m 70 28)) ∧ GM n W br m1 ∧ (m1 70 45 = 0 ∧ m1 70 46 = 0 ∧ m1 70 60 = 0 ∧ m1 70 48 = 0) ∧ ∀ t, 0 ≤ t → t < i → m1 110 t = 0) → i < 3 ∨ BgM n D W br m m1 → Wq l G false Y_M_startAnew (d + 4) (QV Q) 166 [(0, .inr (.inr 70)), (1, .inl i)] [] m1 := by
    intro s
    induction s with
    | zero =>
      intro i m1 his i0 _ h
      refine s_M_startAnew_166 _ (fun _ _ => ⟨fun _ => ?_, fun c => absurd (show i ≥ 3 by omega) c⟩)
      rw [← hQ]
      rcases h with h | h
      · omega
      · exact h
    | succ s ih =>
      intro i m1 his i0 h _
      have h' : Fro 70 [90, 92, 93, 94, 95, 99, 110] [41, 42, 45, 46, 48, 60] m m1 ∧ BM n D W br m1 ∧ ((∀ i, In n i → m1 90 i = m 79 (5 * m 70 28 + i)) ∧ (∀ i, 0 ≤ i → i < 7 → ¬ In n i → m1 90 i = 0) ∧ m1 90 7 = m 77 (m 70 28)) ∧ GM n W br m1 ∧ (m1 70 45 = 0 ∧ m1 70 46 = 0 ∧ m1 70 60 = 0 ∧ m1 70 48 = 0) ∧ ∀ t, 0 ≤ t → t < i → m1 110 t = 0 := by
        rcases h with h | h
        · obtain ⟨a1, a2, a3, a4, a5, a6⟩ := h
          exact ⟨a1, a2, a3, a4, a5, fun t t0 t1 => a6 t t0 (by omega)⟩
        · exact h
      obtain ⟨a1, a2, a3, a4, a5, a6⟩ := h'
      refine s_M_startAnew_166 _ (fun _ _ => ⟨fun c => absurd c (by omega), fun _ => ⟨by omega, ?_⟩⟩)
      intro m2 e2
      have f2 : Fro 70 [110] [] m1 m2 := by rw [e2]; exact Fro_up Fro.rf (by simp) (by decide)
      have b6 : ∀ t, 0 ≤ t → t < i + 1 → m2 110 t = 0 := fun t t0 t1 => by
        rw [e2, up_row]
        by_cases q : t = i
        · rw [if_pos q]
        · rw [if_neg q]; exact a6 t t0 (by omega)
      have k90 : m2 90 = m1 90 := f2.1 90 (by decide) (by decide)
      have k70 : ∀ t, m2 70 t = m1 70 t := fun t => f2.2 t (by simp)
      have all : Fro 70 [90, 92, 93, 94, 95, 99, 110] [41, 42, 45, 46, 48, 60] m m2 ∧ BM n D W br m2 ∧ ((∀ i, In n i → m2 90 i = m 79 (5 * m 70 28 + i)) ∧ (∀ i, 0 ≤ i → i < 7 → ¬ In n i → m2 90 i = 0) ∧ m2 90 7 = m 77 (m 70 28)) ∧ GM n W br m2 ∧ (m2 70 45 = 0 ∧ m2 70 46 = 0 ∧ m2 70 60 = 0 ∧ m2 70 48 = 0) ∧ ∀ t, 0 ≤ t → t < i + 1 → m2 110 t = 0 :=
        ⟨a1.tr (f2.mono (by simp) (by simp)), a2.fro f2 (by decide) (by decide) (by decide) (by decide) (by decide), by rw [k90]; exact a3, a4.fro f2 (by decide) (by decide), by rw [k70, k70, k70, k70]; exact a5, b6⟩
      refine ⟨by omega, ih (i + 1) m2 (by omega) (by omega) (Or.inr all) ?_⟩
      by_cases q : i + 1 < 3
      · exact Or.inl q
      · obtain ⟨c1, c2, c3, c4, c5, c6⟩ := all
        exact Or.inr ⟨c1, c2, c3, c4, c5, fun t t0 t1 => c6 t t0 (by omega)⟩
  -- the plates
  have mid : ∀ (s k : Nat) (m1 : MM), k + s = n → Fro 70 [90, 92] [] m m1 → (∀ i, In k i → m1 90 i = m 79 (5 * m 70 28 + i)) → (∀ i, 0 ≤ i → i < 8 → ¬ In k i → m1 90 i = 0) → (∀ i, In k i → m1 92 i = br i) → Wq l G false Y_M_startAnew (d + 4) (QV Q) 23 [(0, .inr (.inr 70)), (1, .inl (k : Int))] [] m1 := by
    intro s
    induction s with
    | zero =>
      intro k m1 hk f h90 h90' h92
      have ek : k = n := by omega
      rw [ek] at h90 h90' h92
      have e28 : m1 70 28 = m 70 28 := f.2 28 (by decide)
      have e77 : m1 77 = m 77 := f.1 77 (by decide) (by decide)
      refine s_M_startAnew_23 _ (fun _ _ => ⟨d, _, by omega, c_lots (X0 m1 f), fun z m2 hz _ _ => ?_⟩)
      obtain ⟨rfl, rfl⟩ := hz
      refine ⟨fun _ => ⟨by omega, ?_⟩, fun c => absurd (show (k : Int) ≥ n by omega) c⟩
      rw [e28, e77]
      intro m2 e2
      have f2 : Fro 70 [90, 92] [] m m2 := by rw [e2]; exact Fro_up f (by simp) (by decide)
      have e92 : m2 92 = m1 92 := by rw [e2]; exact up_ne (by decide)
      have X2 : BM n D W br m2 := by
        obtain ⟨x0, x1, x2, x3, x4⟩ := X0 m2 f2
        exact ⟨x0, x1, x2, fun i hi => by rw [e92]; exact h92 i hi, x4⟩
      have g90 : (∀ i, In n i → m2 90 i = m 79 (5 * m 70 28 + i)) ∧ (∀ i, 0 ≤ i → i < 7 → ¬ In n i → m2 90 i = 0) ∧ m2 90 7 = m 77 (m 70 28) := ⟨fun i hi => by
        rw [e2, up_off (by have := hi.2; omega)]; exact h90 i hi, fun i i0 i7 hi => by
        rw [e2, up_off (by omega)]; exact h90' i i0 (by omega) hi, by rw [e2, up_at]⟩
      refine ⟨d, _, by omega, c_lots X2, fun z m3 hz _ _ => ?_⟩
      obtain ⟨rfl, rfl⟩ := hz
      have hfr := bs5_range hn5 (fun _ => true)
      rw [bs_full hn5]
      refine ⟨by omega, d, _, by omega, c_lots X2, fun z m3 hz _ _ => ?_⟩
      obtain ⟨rfl, rfl⟩ := hz
      rw [bs_full hn5]
      refine ⟨by omega, d + 2, _, by omega, c_squareOf B X2 full_sub full_sub rfl, fun z m3 hz _ _ => ?_⟩
      obtain ⟨f3, ez⟩ := hz
      rw [MnV_full B] at ez
      intro m4 e4
      have f4 : Fro 70 [99] [42] m2 m4 := by
        rw [e4]
        exact Fro_upo ⟨fun c hc _ => f3 c hc, fun i _ => by rw [f3 70 (by decide)]⟩ (by simp)
      have X4 := X2.fro f4 (by decide) (by decide) (by decide) (by decide) (by decide)
      have e42 : m4 70 42 = dtm n (enN W br) := by rw [e4, up_at, ez]
      refine ⟨d + 3, _, by omega, c_layNought B X4, fun m5 hm5 _ => ?_⟩
      obtain ⟨f5, hN⟩ := hm5
      intro m6 e6 m7 e7 m8 e8 m9 e9
      have f9 : Fro 70 [] [45, 46, 60, 48] m5 m9 := by rw [e9, e8, e7, e6]; exact Fro_upo (Fro_upo (Fro_upo (Fro_upo Fro.rf (by simp)) (by simp)) (by simp)) (by simp)
      have k90 : m9 90 = m2 90 := by rw [f9.1 90 (by decide) (by decide), f5.1 90 (by decide) (by decide), f4.1 90 (by decide) (by decide)]
      refine last 3 0 m9 (by omega) (Int.le_refl 0) (Or.inr ⟨?_, ?_, by rw [k90]; exact g90, ⟨?_, ?_⟩, ⟨?_, ?_, ?_, ?_⟩, fun t t0 t1 => by omega⟩) (Or.inl (by decide))
      · exact ((f2.mono (by simp) (by simp)).tr (f4.mono (by simp) (by simp))).tr ((f5.mono (by simp) (by simp)).tr (f9.mono (by simp) (by simp)))
      · exact (X4.fro f5 (by decide) (by decide) (by decide) (by decide) (by decide)).fro f9 (by decide) (by decide) (by decide) (by decide) (by decide)
      · rw [f9.2 42 (by decide), f5.2 42 (by decide)]; exact e42
      · rw [f9.1 95 (by decide) (by decide)]; exact hN
      · rw [e9, up_off (by decide), e8, up_off (by decide), e7, up_off (by decide), e6, up_at]
      · rw [e9, up_off (by decide), e8, up_off (by decide), e7, up_at]
      · rw [e9, up_off (by decide), e8, up_at]
      · rw [e9, up_at]
    | succ s ih =>
      intro k m1 hk f h90 h90' h92
      have hi : In n (k : Int) := ⟨by omega, by omega⟩
      have e28 : m1 70 28 = m 70 28 := f.2 28 (by decide)
      have e79 : m1 79 = m 79 := f.1 79 (by decide) (by decide)
      refine s_M_startAnew_23 _ (fun _ _ => ⟨d, _, by omega, c_lots (X0 m1 f), fun z m2 hz _ _ => ?_⟩)
      obtain ⟨rfl, rfl⟩ := hz
      rw [e28, e79, Int.zero_add]
      refine ⟨fun c => absurd c (by omega), fun _ => ⟨by omega, by omega, by omega, by omega, by omega, ?_⟩⟩
      intro m2 e2
      have f2 : Fro 70 [90, 92] [] m m2 := by rw [e2]; exact Fro_up f (by simp) (by decide)
      refine ⟨d, _, by omega, c_drainOf hn5 (X0 m2 f2) hi, fun z m3 hz _ _ => ?_⟩
      obtain ⟨rfl, rfl⟩ := hz
      refine ⟨by omega, ?_⟩
      intro m3 e3
      have f3 : Fro 70 [90, 92] [] m m3 := by rw [e3]; exact Fro_up f2 (by simp) (by decide)
      have g90 : ∀ i, In (k + 1) i → m3 90 i = m 79 (5 * m 70 28 + i) := fun i hi2 => by
        rw [e3, up_ne (by decide), e2, up_row]
        by_cases q : i = (k : Int)
        · rw [if_pos q, q]
        · rw [if_neg q]; exact h90 i (hi2.cut q)
      have g90' : ∀ i, 0 ≤ i → i < 8 → ¬ In (k + 1) i → m3 90 i = 0 := fun i i0 i8 hi2 => by
        rw [e3, up_ne (by decide), e2, up_off (fun q => hi2 ⟨i0, by omega⟩)]
        exact h90' i i0 i8 (fun q => hi2 ⟨q.1, by have := q.2; omega⟩)
      have inner : ∀ (t j : Nat) (m4 : MM), j + t = n → Fro 70 [90, 92] [] m m4 → m4 90 = m3 90 → (∀ i, In k i → m4 92 i = br i) → m4 92 k = D k + sm j (W k) → Wq l G false Y_M_startAnew (d + 4) (QV Q) 65 [(0, .inr (.inr 70)), (1, .inl (k : Int)), (2, .inl (j : Int))] [] m4 := by
        intro t
        induction t with
        | zero =>
          intro j m4 hj f4 e90 g92 gk
          have ej : j = n := by omega
          rw [ej] at gk
          refine s_M_startAnew_65 _ _ (fun _ _ _ => ⟨d, _, by omega, c_lots (X0 m4 f4), fun z m5 hz _ _ => ?_⟩)
          obtain ⟨rfl, rfl⟩ := hz
          refine ⟨fun _ => ⟨by omega, ?_⟩, fun c => absurd (show (j : Int) ≥ n by omega) c⟩
          have nx := ih (k + 1) m4 (by omega) f4 (by rw [e90]; exact g90) (by rw [e90]; exact g90') (fun i hi2 => by
            by_cases q : i = (k : Int)
            · rw [q, gk, B.2.2.2.2.1 k hi]
            · exact g92 i (hi2.cut q))
          rw [show ((k + 1 : Nat) : Int) = (k : Int) + 1 by omega] at nx
          exact nx
        | succ t iht =>
          intro j m4 hj f4 e90 g92 gk
          have hj2 : In n (j : Int) := ⟨by omega, by omega⟩
          have hD := B.2.1 k hi
          have hw1 := hwb hi j (by omega)
          have hw2 := B.2.2.1 k j hi hj2
          refine s_M_startAnew_65 _ _ (fun _ _ _ => ⟨d, _, by omega, c_lots (X0 m4 f4), fun z m5 hz _ _ => ?_⟩)
          obtain ⟨rfl, rfl⟩ := hz
          refine ⟨fun c => absurd c (by omega), fun _ => ⟨by omega, d, _, by omega, c_wideOf hn5 (X0 m4 f4) hi hj2, fun z m5 hz _ _ => ?_⟩⟩
          obtain ⟨rfl, rfl⟩ := hz
          rw [gk]
          refine ⟨by omega, by omega, ?_⟩
          intro m5 e5
          refine ⟨by omega, ?_⟩
          have nx := iht (j + 1) m5 (by omega) (by rw [e5]; exact Fro_up f4 (by simp) (by decide)) (by rw [e5, up_ne (by decide)]; exact e90) (fun i hi2 => by rw [e5, up_off (by have := hi2.2; omega)]; exact g92 i hi2) (by
            rw [e5, up_at]
            show _ = D k + (sm j (W k) + W k j)
            omega)
          rw [show ((j + 1 : Nat) : Int) = (j : Int) + 1 by omega] at nx
          exact nx
      exact inner n 0 m3 (by omega) f3 rfl (fun i hi2 => by rw [e3, up_off (by have := hi2.2; omega), e2, up_ne (by decide)]; exact h92 i hi2) (by rw [e3, up_at]; show D k = D k + 0; omega)
  have first : ∀ (s : Nat) (i : Int) (m1 : MM), i + s = 8 → 0 ≤ i → Fro 70 [90, 92] [] m m1 → (∀ t, 0 ≤ t → t < i → m1 90 t = 0) → Wq l G false Y_M_startAnew (d + 4) (QV Q) 2 [(0, .inr (.inr 70)), (1, .inl i)] [] m1 := by
    intro s
    induction s with
    | zero =>
      intro i m1 his i0 f h90
      refine s_M_startAnew_2 _ (fun _ _ => ⟨fun _ => ?_, fun c => absurd (show i ≥ 8 by omega) c⟩)
      exact mid n 0 m1 (by omega) f (fun i hi => by have := hi.1; have := hi.2; omega) (fun t t0 t8 _ => h90 t t0 (by omega)) (fun i hi => by have := hi.1; have := hi.2; omega)
    | succ s ih =>
      intro i m1 his i0 f h90
      refine s_M_startAnew_2 _ (fun _ _ => ⟨fun c => absurd c (by omega), fun _ => ⟨by omega, ?_⟩⟩)
      intro m2 e2
      refine ⟨by omega, ih (i + 1) m2 (by omega) (by omega) (by rw [e2]; exact Fro_up f (by simp) (by decide)) (fun t t0 t1 => ?_)⟩
      rw [e2, up_row]
      by_cases q : t = i
      · rw [if_pos q]
      · rw [if_neg q]; exact h90 t t0 (by omega)
  exact first 8 0 m (by omega) (Int.le_refl 0) Fro.rf (fun t t0 t1 => by omega)
end Anew
