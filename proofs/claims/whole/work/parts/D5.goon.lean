/-! the reference goes on to the next token -/
theorem nuF_rng {T : Int → Int} {a : Int} : ∀ k : Nat, (∀ t : Int, a ≤ t → t < a + k → isD (T t)) → (k = 0 → nuF T a k = 0) ∧ (k ≤ 1 → nuF T a k ≤ 9) ∧ (k ≤ 2 → nuF T a k ≤ 99) ∧ (k ≤ 3 → nuF T a k ≤ 999) ∧ 0 ≤ nuF T a k ∧ nuF T a k ≤ 9999
  | 0, _ => by
    have : nuF T a 0 = 0 := rfl
    rw [this]
    omega
  | k + 1, h => by
    obtain ⟨h0, h1, h2, h3, h4, h5⟩ := nuF_rng k (fun t t0 t1 => h t t0 (by omega))
    have hd := h (a + k) (by omega) (by omega)
    unfold isD at hd
    have e : nuF T a (k + 1) = if k < 4 then 10 * nuF T a k + T (a + k) - 48 else nuF T a k := rfl
    rw [e]
    by_cases q : k < 4
    · rw [if_pos q]
      have : k = 0 ∨ k = 1 ∨ k = 2 ∨ k = 3 := by omega
      rcases this with rfl | rfl | rfl | rfl
      · have := h0 rfl
        omega
      · have := h1 (by decide)
        omega
      · have := h2 (by decide)
        omega
      · have := h3 (by decide)
        omega
    · rw [if_neg q]
      omega
section GoOn
variable {l : Launch} {G : GT} {d : Nat} {m : MM}
theorem c_goOn {N p : Int} (hN : m 70 3 = N ∧ N ≤ 1600) (hp : m 70 7 = p ∧ 0 ≤ p ∧ p ≤ N) : CV l G Y_M_goOn (d + 1) [.inr (.inr 70)] m (fun m' => Fro 70 [] [6, 7, 8, 9, 10] m m' ∧ TkM (tx m) N p (m' 70 8) (m' 70 6) (m' 70 7) (m' 70 9) (m' 70 10)) := by
  generalize hT : tx m = T
  have TF : ∀ {m1 : MM}, Fro 70 [] [6, 7, 8, 9, 10] m m1 → tx m1 = T ∧ m1 70 3 = N := fun {m1} f => by
    refine ⟨?_, by rw [f.2 3 (by decide)]; exact hN.1⟩
    rw [← hT]
    funext k
    unfold tx
    rw [f.1 72 (by decide) (by decide)]
  have sg : ∀ {m1 : MM} {k : Int}, Fro 70 [] [6, 7, 8, 9, 10] m m1 → 0 ≤ k → CI l G Y_M_sign d [.inr (.inr 70), .inl k] m1 (fun z m' => (k < N → z = T k) ∧ (¬ k < N → z = 0) ∧ m1 = m') := fun {m1 k} f k0 => by
    obtain ⟨e1, e2⟩ := TF f
    have := c_signM2 (l := l) (G := G) (d := d) (m := m1) (k := k) (N := N) k0 ⟨e2, hN.2⟩
    rw [e1] at this
    exact this
  generalize hQ : (fun m' : MM => Fro 70 [] [6, 7, 8, 9, 10] m m' ∧ TkM T N p (m' 70 8) (m' 70 6) (m' 70 7) (m' 70 9) (m' 70 10)) = Q
  -- behind a word's name
  have word : ∀ (a e : Int), Run (fun t => t < N ∧ (T t = 32 ∨ T t = 10)) p a → a < N → isL (T a) → Run (fun t => t < N ∧ isL (T t)) a e → 0 ≤ a → e ≤ N → ∀ (s k : Nat) (m1 : MM), (k : Int) + s = min 8 (e - a) → Fro 70 [] [6, 7, 8, 9, 10] m m1 → m1 70 6 = a → m1 70 7 = e → m1 70 10 = nmF T a k → Wq l G false Y_M_goOn (d + 1) (QV Q) 156 [(0, .inr (.inr 70)), (2, .inl (a + k))] [] m1 := by
    intro a e hr ha hl hre a0 he s
    have hea := hre.1
    have fin : ∀ m1 : MM, Fro 70 [] [6, 7, 8, 9, 10] m m1 → m1 70 6 = a → m1 70 7 = e → m1 70 10 = nmF T a (min 8 (e - a)).toNat → ∀ (v : Int), ((8 < e - a ∧ v = 1) ∨ (e - a ≤ 8 ∧ ((m1 70 10 ∈ KW ∧ v = 3) ∨ (m1 70 10 ∉ KW ∧ v = 2)))) → ∀ m2, m2 = up m1 70 8 v → Q m2 := fun m1 f e6 e7 e10 v hv m2 em => by
      rw [← hQ]
      have k6 : m2 70 6 = a := by rw [em, up_off (by decide)]; exact e6
      have k7 : m2 70 7 = e := by rw [em, up_off (by decide)]; exact e7
      have k8 : m2 70 8 = v := by rw [em, up_at]
      have k10 : m2 70 10 = m1 70 10 := by rw [em, up_off (by decide)]
      refine ⟨by rw [em]; exact Fro_upo f (by simp), ?_⟩
      rw [k6, k7, k8, k10]
      exact ⟨hr, Or.inr (Or.inl ⟨ha, hl, hre, e10, hv⟩)⟩
    induction s with
    | zero =>
      intro k m1 hk f e6 e7 e10
      have ek : k = (min 8 (e - a)).toNat := by omega
      have e10' : m1 70 10 = nmF T a (min 8 (e - a)).toNat := by rw [e10, ek]
      have F := fin m1 f e6 e7 e10'
      refine s_M_goOn_156 _ (fun _ _ => ?_)
      rw [e6, e7]
      have h8 : inR (a + 8) := by omega
      have hno : ¬ (a + (k : Int) ≥ e) → ¬ (a + (k : Int) ≥ a + 8) → False := by omega
      have exit : (inR (e - a)) ∧ ((e - a ≤ 8 → (∃ (e13 : Nat) (P14 : Int → MM → Prop), e13 < d + 1 ∧ CI l G Y_M_isKept e13 [.inr (.inl (m1 70 10))] m1 P14 ∧ (∀ z19 m20, P14 z19 m20 → inR z19 → wfM m20 → ((z19 = 0 → (∀ m29, m29 = up m20 70 8 2 → (Q m29))) ∧ (¬ (z19 = 0) → (∀ m32, m32 = up m20 70 8 3 → (Q m32))))))) ∧ (¬ (e - a ≤ 8) → (∀ m35, m35 = up m1 70 8 1 → (Q m35)))) := by
        refine ⟨by omega, fun c => ⟨d, _, by omega, c_isKeptM2, fun z m2 hz _ _ => ?_⟩, fun c => F 1 (Or.inl ⟨by omega, rfl⟩)⟩
        obtain ⟨hz, rfl⟩ := hz
        exact ⟨fun c2 => F 2 (Or.inr ⟨c, Or.inr ⟨hz.mp c2, rfl⟩⟩), fun c2 => F 3 (Or.inr ⟨c, Or.inl ⟨Classical.not_not.mp (fun q => c2 (hz.mpr q)), rfl⟩⟩)⟩
      exact ⟨fun _ => exit, fun c => ⟨h8, fun _ => exit, fun c2 => (hno c c2).elim⟩⟩
    | succ s ih =>
      intro k m1 hk f e6 e7 e10
      refine s_M_goOn_156 _ (fun _ _ => ?_)
      rw [e6, e7]
      refine ⟨fun c => absurd c (by omega), fun _ => ⟨by omega, fun c => absurd c (by omega), fun _ => ⟨d, _, by omega, sg f (by omega), fun z m2 hz _ _ => ?_⟩⟩⟩
      obtain ⟨z1, -, rfl⟩ := hz
      have ez := z1 (by omega)
      intro m2 em
      have nx := ih (k + 1) m2 (by omega) (by rw [em]; exact Fro_upo f (by simp)) (by rw [em, up_off (by decide)]; exact e6) (by rw [em, up_off (by decide)]; exact e7) (by rw [em, up_at, e10, ez]; rfl)
      rw [show a + ((k + 1 : Nat) : Int) = a + (k : Int) + 1 by omega] at nx
      exact ⟨by omega, nx⟩
  -- a word's letters
  have lett : ∀ (a : Int), Run (fun t => t < N ∧ (T t = 32 ∨ T t = 10)) p a → a < N → isL (T a) → 0 ≤ a → ∀ (s : Nat) (e : Int) (m1 : MM), e + s = N → a < e → (∀ t, a ≤ t → t < e → t < N ∧ isL (T t)) → Fro 70 [] [6, 7, 8, 9, 10] m m1 → m1 70 6 = a → m1 70 7 = e → Wq l G false Y_M_goOn (d + 1) (QV Q) 119 [(0, .inr (.inr 70))] [] m1 := by
    intro a hr ha hl a0 s
    induction s with
    | zero =>
      intro e m1 hes hae hall f e6 e7
      refine s_M_goOn_119 (fun _ => ?_)
      rw [e7]
      refine ⟨d, _, by omega, sg f (by omega), fun z m2 hz _ _ => ?_⟩
      obtain ⟨-, z2, rfl⟩ := hz
      have ez := z2 (by omega)
      refine ⟨d, _, by omega, c_isLetterM2, fun z3 m2 hz3 _ _ => ?_⟩
      obtain ⟨hz3, rfl⟩ := hz3
      refine ⟨fun _ m2 em => ?_, fun c => absurd (hz3.mpr (fun q => by have := q.1; omega)) c⟩
      have k6 : m2 70 6 = a := by rw [em, up_off (by decide)]; exact e6
      have := word a e hr ha hl ⟨by omega, hall, fun q => by have := q.1; omega⟩ a0 (by omega) (min 8 (e - a)).toNat 0 m2 (by omega) (by rw [em]; exact Fro_upo f (by simp)) k6 (by rw [em, up_off (by decide)]; exact e7) (by rw [em, up_at]; rfl)
      rw [show a + ((0 : Nat) : Int) = a by omega] at this
      rw [k6]
      exact this
    | succ s ih =>
      intro e m1 hes hae hall f e6 e7
      refine s_M_goOn_119 (fun _ => ?_)
      rw [e7]
      refine ⟨d, _, by omega, sg f (by omega), fun z m2 hz _ _ => ?_⟩
      obtain ⟨z1, -, rfl⟩ := hz
      have ez := z1 (by omega)
      refine ⟨d, _, by omega, c_isLetterM2, fun z3 m2 hz3 _ _ => ?_⟩
      obtain ⟨hz3, rfl⟩ := hz3
      rw [ez] at hz3
      refine ⟨fun c m2 em => ?_, fun c => ⟨by rw [e7]; omega, fun m2 em => ?_⟩⟩
      · have k6 : m2 70 6 = a := by rw [em, up_off (by decide)]; exact e6
        have := word a e hr ha hl ⟨by omega, hall, fun q => hz3.mp c q.2⟩ a0 (by omega) (min 8 (e - a)).toNat 0 m2 (by omega) (by rw [em]; exact Fro_upo f (by simp)) k6 (by rw [em, up_off (by decide)]; exact e7) (by rw [em, up_at]; rfl)
        rw [show a + ((0 : Nat) : Int) = a by omega] at this
        rw [k6]
        exact this
      · rw [e7] at em
        exact ih (e + 1) m2 (by omega) (by omega) (fun t t0 t1 => by
          by_cases q : t = e
          · rw [q]; exact ⟨by omega, Classical.not_not.mp (fun g => c (hz3.mpr g))⟩
          · exact hall t t0 (by omega)) (by rw [em]; exact Fro_upo f (by simp)) (by rw [em, up_off (by decide)]; exact e6) (by rw [em, up_at])
  -- a number's digits
  have digi : ∀ (a : Int), Run (fun t => t < N ∧ (T t = 32 ∨ T t = 10)) p a → a < N → isD (T a) → 0 ≤ a → ∀ (s k : Nat) (m1 : MM), a + k + s = N → (∀ t, a ≤ t → t < a + k → t < N ∧ isD (T t)) → Fro 70 [] [6, 7, 8, 9, 10] m m1 → m1 70 6 = a → m1 70 7 = a + k → m1 70 9 = nuF T a k → Wq l G false Y_M_goOn (d + 1) (QV Q) 259 [(0, .inr (.inr 70))] [] m1 := by
    intro a hr ha hd a0 s
    have fin : ∀ (k : Nat) (m1 : MM), Run (fun t => t < N ∧ isD (T t)) a (a + k) → Fro 70 [] [6, 7, 8, 9, 10] m m1 → m1 70 6 = a → m1 70 7 = a + k → m1 70 9 = nuF T a k → ∀ v : Int, (((4 < a + k - a ∨ (a + k < N ∧ isL (T (a + k)))) ∧ v = 1) ∨ ((a + k - a ≤ 4 ∧ ¬ (a + k < N ∧ isL (T (a + k)))) ∧ v = 4)) → ∀ m2, m2 = up m1 70 8 v → Q m2 := fun k m1 hre f e6 e7 e9 v hv m2 em => by
      rw [← hQ]
      have k6 : m2 70 6 = a := by rw [em, up_off (by decide)]; exact e6
      have k7 : m2 70 7 = a + k := by rw [em, up_off (by decide)]; exact e7
      have k8 : m2 70 8 = v := by rw [em, up_at]
      have k9 : m2 70 9 = nuF T a (a + (k : Int) - a).toNat := by rw [em, up_off (by decide), e9, show (a + (k : Int) - a).toNat = k by omega]
      refine ⟨by rw [em]; exact Fro_upo f (by simp), ?_⟩
      rw [k6, k7, k8]
      exact ⟨hr, Or.inr (Or.inr (Or.inl ⟨ha, hd, hre, k9, hv⟩))⟩
    have stop : ∀ (k : Nat) (m1 : MM), a + (k : Int) ≤ N → Run (fun t => t < N ∧ isD (T t)) a (a + k) → Fro 70 [] [6, 7, 8, 9, 10] m m1 → m1 70 6 = a → m1 70 7 = a + k → m1 70 9 = nuF T a k → (inR ((m1 70 7) - (m1 70 6))) ∧ ((((m1 70 7) - (m1 70 6)) > 4 → (∀ m35, m35 = up m1 70 8 1 → (Q m35))) ∧ (¬ (((m1 70 7) - (m1 70 6)) > 4) → (∃ (e38 : Nat) (P39 : Int → MM → Prop), e38 < d + 1 ∧ CI l G Y_M_sign e38 [.inr (.inr 70), .inl (m1 70 7)] m1 P39 ∧ (∀ z44 m45, P39 z44 m45 → inR z44 → wfM m45 → (∃ (e49 : Nat) (P50 : Int → MM → Prop), e49 < d + 1 ∧ CI l G Y_M_isLetter e49 [.inl z44] m45 P50 ∧ (∀ z55 m56, P50 z55 m56 → inR z55 → wfM m56 → ((z55 = 0 → (∀ m65, m65 = up m56 70 8 4 → (Q m65))) ∧ (¬ (z55 = 0) → (∀ m68, m68 = up m56 70 8 1 → (Q m68)))))))))) := fun k m1 hkN hre f e6 e7 e9 => by
      have F := fin k m1 hre f e6 e7 e9
      rw [e6, e7]
      refine ⟨by omega, fun c => F 1 (Or.inl ⟨Or.inl (by omega), rfl⟩), fun c => ⟨d, _, by omega, sg f (by omega), fun z m2 hz _ _ => ?_⟩⟩
      obtain ⟨z1, z2, rfl⟩ := hz
      refine ⟨d, _, by omega, c_isLetterM2, fun z3 m2 hz3 _ _ => ?_⟩
      obtain ⟨hz3, rfl⟩ := hz3
      refine ⟨fun c3 => F 4 (Or.inr ⟨⟨by omega, fun q => hz3.mp c3 (by rw [z1 q.1]; exact q.2)⟩, rfl⟩), fun c3 => F 1 (Or.inl ⟨Or.inr ?_, rfl⟩)⟩
      have hL : isL z := Classical.not_not.mp (fun g => c3 (hz3.mpr g))
      by_cases q : a + (k : Int) < N
      · rw [z1 q] at hL; exact ⟨q, hL⟩
      · rw [z2 q] at hL
        have := hL.1
        omega
    induction s with
    | zero =>
      intro k m1 hks hall f e6 e7 e9
      have S := stop k m1 (by omega) ⟨by omega, hall, fun q => by have := q.1; omega⟩ f e6 e7 e9
      refine s_M_goOn_259 (fun _ => ⟨d, _, by omega, sg f (by rw [e7]; omega), fun z m2 hz _ _ => ?_⟩)
      obtain ⟨-, z2, rfl⟩ := hz
      have ez := z2 (by rw [e7]; omega)
      refine ⟨d, _, by omega, c_isDigitM2, fun z3 m2 hz3 _ _ => ?_⟩
      obtain ⟨hz3, rfl⟩ := hz3
      exact ⟨fun _ => S, fun c => absurd (hz3.mpr (fun q => by have := q.1; omega)) c⟩
    | succ s ih =>
      intro k m1 hks hall f e6 e7 e9
      refine s_M_goOn_259 (fun _ => ⟨d, _, by omega, sg f (by rw [e7]; omega), fun z m2 hz _ _ => ?_⟩)
      obtain ⟨z1, -, rfl⟩ := hz
      have ez := z1 (by rw [e7]; omega)
      rw [e7] at ez
      refine ⟨d, _, by omega, c_isDigitM2, fun z3 m2 hz3 _ _ => ?_⟩
      obtain ⟨hz3, rfl⟩ := hz3
      rw [ez] at hz3
      refine ⟨fun c => stop k m1 (by omega) ⟨by omega, hall, fun q => hz3.mp c q.2⟩ f e6 e7 e9, fun c => ?_⟩
      have hdk : isD (T (a + k)) := Classical.not_not.mp (fun g => c (hz3.mpr g))
      have hall2 : ∀ t, a ≤ t → t < a + ((k + 1 : Nat) : Int) → t < N ∧ isD (T t) := fun t t0 t1 => by
        by_cases q : t = a + (k : Int)
        · rw [q]; exact ⟨by omega, hdk⟩
        · exact hall t t0 (by omega)
      have hnr := nuF_rng (T := T) (a := a) k (fun t t0 t1 => (hall t t0 t1).2)
      have hdr : 48 ≤ T (a + k) ∧ T (a + k) ≤ 57 := hdk
      have en : nuF T a (k + 1) = if k < 4 then 10 * nuF T a k + T (a + k) - 48 else nuF T a k := rfl
      rw [e6, e7]
      refine ⟨by omega, fun c2 => ⟨by omega, fun m2 em => ?_⟩, fun c2 => ?_⟩
      · exact ih (k + 1) m2 (by omega) hall2 (by rw [em]; exact Fro_upo f (by simp)) (by rw [em, up_off (by decide)]; exact e6) (by rw [em, up_at]; omega) (by rw [em, up_off (by decide), e9, en, if_neg (by omega)])
      · rw [e9]
        refine ⟨by omega, d, _, by omega, sg f (by omega), fun z4 m2 hz4 _ _ => ?_⟩
        obtain ⟨w1, -, rfl⟩ := hz4
        have ew := w1 (by omega)
        rw [ew]
        refine ⟨by omega, by omega, fun m2 em => ?_⟩
        have k7 : m2 70 7 = a + k := by rw [em, up_off (by decide)]; exact e7
        rw [k7]
        refine ⟨by omega, fun m3 em3 => ?_⟩
        exact ih (k + 1) m3 (by omega) hall2 (by rw [em3, em]; exact Fro_upo (Fro_upo f (by simp)) (by simp)) (by rw [em3, up_off (by decide), em, up_off (by decide)]; exact e6) (by rw [em3, up_at]; omega) (by rw [em3, up_off (by decide), em, up_at, en, if_pos (by omega)])
  -- behind the blanks
  have main : ∀ (a : Int) (m1 : MM), Run (fun t => t < N ∧ (T t = 32 ∨ T t = 10)) p a → 0 ≤ a → a ≤ N → Fro 70 [] [6, 7, 8, 9, 10] m m1 → m1 70 6 = a → Wq l G false Y_M_goOn (d + 1) (QV Q) 58 [(0, .inr (.inr 70))] [] m1 := by
    intro a m1 hr a0 aN f e6
    refine s_M_goOn_58 (fun _ => ⟨d, _, by omega, sg f (by rw [e6]; exact a0), fun z m2 hz _ _ => ?_⟩)
    obtain ⟨z1, -, rfl⟩ := hz
    rw [e6] at z1 ⊢
    refine ⟨by omega, fun m2 em => ?_⟩
    have f2 : Fro 70 [] [6, 7, 8, 9, 10] m m2 := by rw [em]; exact Fro_upo f (by simp)
    have k6 : m2 70 6 = a := by rw [em, up_off (by decide)]; exact e6
    have k7 : m2 70 7 = a + 1 := by rw [em, up_at]
    have k3 := (TF f2).2
    rw [k6, k3]
    refine ⟨fun c => ⟨d, _, by omega, c_isLetterM2, fun z3 m3 hz3 _ _ => ?_⟩, fun c => ?_⟩
    · obtain ⟨hz3, rfl⟩ := hz3
      have ez := z1 c
      rw [ez] at hz3 ⊢
      refine ⟨fun c3 => ⟨d, _, by omega, c_isDigitM2, fun z4 m3 hz4 _ _ => ?_⟩, fun c3 => ?_⟩
      · obtain ⟨hz4, rfl⟩ := hz4
        refine ⟨fun c4 => ⟨d, _, by omega, c_isSignM2, fun z5 m3 hz5 _ _ => ?_⟩, fun c4 m3 em3 m4 em4 => ?_⟩
        · obtain ⟨hz5, rfl⟩ := hz5
          have fin : ∀ v : Int, ((T a ∈ SGN ∧ v = 5) ∨ (T a ∉ SGN ∧ v = 1)) → ∀ m3, m3 = up m2 70 8 v → Q m3 := fun v hv m3 em3 => by
            rw [← hQ]
            refine ⟨by rw [em3]; exact Fro_upo f2 (by simp), ?_⟩
            rw [em3, up_at, up_off (by decide), up_off (by decide), up_off (by decide), up_off (by decide), k6, k7]
            exact ⟨hr, Or.inr (Or.inr (Or.inr ⟨c, hz3.mp c3, hz4.mp c4, rfl, hv⟩))⟩
          exact ⟨fun c5 => fin 1 (Or.inr ⟨hz5.mp c5, rfl⟩), fun c5 => fin 5 (Or.inl ⟨Classical.not_not.mp (fun g => c5 (hz5.mpr g)), rfl⟩)⟩
        · have hd : isD (T a) := Classical.not_not.mp (fun g => c4 (hz4.mpr g))
          have j6 : m3 70 6 = a := by rw [em3, up_off (by decide)]; exact k6
          rw [j6] at em4
          exact digi a hr c hd a0 (N - a).toNat 0 m4 (by omega) (fun t t0 t1 => by omega) (by rw [em4, em3]; exact Fro_upo (Fro_upo f2 (by simp)) (by simp)) (by rw [em4, up_off (by decide)]; exact j6) (by rw [em4, up_at]; omega) (by rw [em4, up_off (by decide), em3, up_at]; rfl)
      · have hl : isL (T a) := Classical.not_not.mp (fun g => c3 (hz3.mpr g))
        exact lett a hr c hl a0 (N - (a + 1)).toNat (a + 1) m2 (by omega) (by omega) (fun t t0 t1 => by
          have : t = a := by omega
          rw [this]; exact ⟨c, hl⟩) f2 k6 k7
    · intro m3 em3 m4 em4 m5 em5
      have ea : a = N := by omega
      have j3 : m3 70 3 = N := by rw [em3, up_off (by decide)]; exact k3
      have j4 : m4 70 3 = N := by rw [em4, up_off (by decide)]; exact j3
      rw [j3] at em4
      rw [j4] at em5
      rw [← hQ]
      refine ⟨by rw [em5, em4, em3]; exact Fro_upo (Fro_upo (Fro_upo f2 (by simp)) (by simp)) (by simp), ?_⟩
      have l6 : m5 70 6 = N := by rw [em5, up_off (by decide), em4, up_at]
      have l7 : m5 70 7 = N := by rw [em5, up_at]
      have l8 : m5 70 8 = 0 := by rw [em5, up_off (by decide), em4, up_off (by decide), em3, up_at]
      rw [l6, l7, l8]
      rw [ea] at hr
      exact ⟨hr, Or.inl ⟨rfl, rfl, rfl⟩⟩
  have skip : ∀ (s : Nat) (a : Int) (m1 : MM), a + s = N → p ≤ a → (∀ t, p ≤ t → t < a → t < N ∧ (T t = 32 ∨ T t = 10)) → Fro 70 [] [6, 7, 8, 9, 10] m m1 → m1 70 6 = a → Wq l G false Y_M_goOn (d + 1) (QV Q) 8 [(0, .inr (.inr 70))] [] m1 := by
    intro s
    induction s with
    | zero =>
      intro a m1 has hpa hall f e6
      refine s_M_goOn_8 (fun _ => ?_)
      rw [e6, (TF f).2]
      exact ⟨fun _ => main a m1 ⟨hpa, hall, fun q => by have := q.1; omega⟩ (by omega) (by omega) f e6, fun c => absurd (show a ≥ N by omega) c⟩
    | succ s ih =>
      intro a m1 has hpa hall f e6
      refine s_M_goOn_8 (fun _ => ?_)
      rw [e6, (TF f).2]
      refine ⟨fun c => absurd c (by omega), fun _ => ⟨d, _, by omega, sg f (by omega), fun z m2 hz _ _ => ?_⟩⟩
      obtain ⟨z1, -, rfl⟩ := hz
      have ez := z1 (by omega)
      rw [e6]
      have nx : (T a = 32 ∨ T a = 10) → (inR (a + 1)) ∧ ∀ m2, m2 = up m1 70 6 (a + 1) → Wq l G false Y_M_goOn (d + 1) (QV Q) 8 [(0, .inr (.inr 70))] [] m2 := fun hb => ⟨by omega, fun m2 em => ih (a + 1) m2 (by omega) (by omega) (fun t t0 t1 => by
        by_cases q : t = a
        · rw [q]; exact ⟨by omega, hb⟩
        · exact hall t t0 (by omega)) (by rw [em]; exact Fro_upo f (by simp)) (by rw [em, up_at])⟩
      refine ⟨fun c => nx (Or.inl (by omega)), fun c => ⟨d, _, by omega, sg f (by omega), fun z2 m2 hz2 _ _ => ?_⟩⟩
      obtain ⟨w1, -, rfl⟩ := hz2
      have ew := w1 (by omega)
      rw [e6]
      exact ⟨fun c2 => main a m1 ⟨hpa, hall, fun q => by rcases q.2 with q | q <;> omega⟩ (by omega) (by omega) f e6, fun c2 => nx (Or.inr (by have := Classical.not_not.mp c2; omega))⟩
  refine e_M_goOn (fun _ m1 em => ?_)
  rw [hp.1] at em
  exact skip (N - p).toNat p m1 (by omega) (Int.le_refl _) (fun t t0 t1 => by omega) (by rw [em]; exact Fro_upo Fro.rf (by simp)) (by rw [em, up_at])
end GoOn
