/-! lies, law, image, back, about of both -/
def lyV (c : Int) (L : Int → Int) (x : Int) : Int := if 0 ≤ x ∧ x < c then L x else -2
def abV (x a0 a1 a2 a3 a4 a5 a6 a7 a8 a9 a10 a11 a12 a13 a14 : Int) : Int :=
  if x = 0 then a0 else if x = 1 then a1 else if x = 2 then a2 else if x = 3 then a3 else if x = 4 then a4 else if x = 5 then a5 else if x = 6 then a6 else if x = 7 then a7 else if x = 8 then a8 else if x = 9 then a9 else if x = 10 then a10 else if x = 11 then a11 else if x = 12 then a12 else if x = 13 then a13 else if x = 14 then a14 else -1
section Small
variable {l : Launch} {G : GT} {d : Nat} {m : MM} {b : Nat} {n : Nat} {D : Int → Int} {W : Int → Int → Int} {br : Int → Int}
theorem c_liesX {x : Int} (hc : m 67 1 ≤ 60) : CI l G Y_S_lies d [.inr (.inr 0), .inl x] m (fun z m' => z = lyV (m 67 1) (m 68) x ∧ m = m') := by
  unfold lyV
  refine e_S_lies x (fun _ _ => ⟨fun c => ⟨?_, rfl⟩, fun c => ⟨fun c2 => ⟨?_, rfl⟩, fun c2 => ⟨by omega, ?_, rfl⟩⟩⟩)
  · rw [if_neg (by omega)]
  · rw [if_neg (by omega)]
  · rw [if_pos (by omega)]
theorem c_liesM {x : Int} (hc : 0 ≤ m 70 48 ∧ m 70 48 ≤ 60) : CI l G Y_M_lies (d + 1) [.inr (.inr 70), .inl x] m (fun z m' => z = lyV (m 70 48) (m 97) x ∧ m = m') := by
  unfold lyV
  refine e_M_lies x (fun _ _ => ⟨by omega, d, _, Nat.lt_succ_self d, c_isIn, fun z m1 hz _ _ => ?_⟩)
  obtain ⟨rfl, rfl⟩ := hz
  by_cases h : 0 ≤ x ∧ x ≤ m 70 48 - 1
  · rw [if_pos h, if_pos (show 0 ≤ x ∧ x < m 70 48 by omega)]
    exact ⟨fun c => absurd c (by decide), fun _ => ⟨by omega, rfl, rfl⟩⟩
  · rw [if_neg h, if_neg (show ¬ (0 ≤ x ∧ x < m 70 48) by omega)]
    exact ⟨fun _ => ⟨rfl, rfl⟩, fun c => absurd rfl c⟩
def LwR (n : Nat) (D : Int → Int) (W : Int → Int → Int) (br g : Int → Int) (x z : Int) : Prop :=
  (0 ≤ x ∧ x ≤ 20 → ∃ u, Stb n W br (fun i => g i + x) u ∧ z = sm n (fun i => D i * u i)) ∧ (¬ (0 ≤ x ∧ x ≤ 20) → z = -1)
theorem LwR.uniq {g h : Int → Int} {x z z' : Int} (e : ∀ i, In n i → g i = h i) (h1 : LwR n D W br g x z) (h2 : LwR n D W br h x z') : z = z' := by
  by_cases c : 0 ≤ x ∧ x ≤ 20
  · obtain ⟨u, hu, hz⟩ := h1.1 c
    obtain ⟨v, hv, hz'⟩ := h2.1 c
    have huv := hu.uniq (hv.congr (fun i hi => by rw [e i hi]))
    rw [hz, hz', sm_congr (fun j hj => by rw [huv j hj] : ∀ j, In n j → D j * u j = D j * v j)]
  · rw [h1.2 c, h2.2 c]
theorem sm_plus (hn : n ≤ 5) {g : Int → Int} {N x : Int} (hN : sm n g ≤ N) (hx : 0 ≤ x ∧ x ≤ 20) : sm n (fun i => g i + x) ≤ N + 100 := by
  rw [sm_add]
  have h2 : sm n (fun _ => x) ≤ 100 := by
    have hn2 : n = 0 ∨ n = 1 ∨ n = 2 ∨ n = 3 ∨ n = 4 ∨ n = 5 := by omega
    rcases hn2 with rfl | rfl | rfl | rfl | rfl | rfl <;> simp only [sm] <;> omega
  omega
theorem c_lawX (B : BW n D W br) (X : CX n D W br b m) (hg : ∀ i, In n i → 0 ≤ m 25 i) {N : Int} (hN : sm n (m 25) ≤ N) (hN3 : N ≤ 20000) {x : Int} : CI l G Y_S_law (d + 3) [.inr (.inr 0), .inl x] m (fun z m' => Fr [32, 33, 34] m m' ∧ LwR n D W br (m 25) x z) := by
  have hn5 := B.1
  refine e_S_law x (fun _ _ => ⟨fun c => ⟨Fr.rf, fun q => absurd q.1 (by omega), fun _ => rfl⟩, fun c => ⟨fun c2 => ⟨d, _, by omega, c_take (a := 32) (Or.inl rfl) (h := 25) (len := 8) rfl (by decide) (by decide) (by decide) (by decide), fun m0 h0 _ => ?_⟩, fun c2 => ⟨Fr.rf, fun q => absurd q.2 c2, fun _ => rfl⟩⟩⟩)
  obtain ⟨f0, t1, t2, t3⟩ := h0
  have loop : ∀ (j : Nat) (i : Int) (m1 : MM), i + j = n → 0 ≤ i → Fr [33] m0 m1 → (∀ t, 0 ≤ t → t < 5 → m1 33 t = m 25 t + (if t < i then x else 0)) →
      Wq l G false Y_S_law (d + 3) (QI fun z m' => Fr [32, 33, 34] m m' ∧ LwR n D W br (m 25) x z) 25 [(0, .inr (.inr 0)), (1, .inl x), (2, .inl i)] [] m1 := by
    intro j
    induction j with
    | zero =>
      intro i m1 hij h0 f hv
      have f1 : Fr [32, 33, 34] m m1 := Fr.tr f0 (f.mono (by simp))
      have X1 := X.fr f1 (by decide) (by decide)
      have hin : ∀ t, In n t → m 25 t + (if t < i then x else 0) = m 25 t + x := fun t ht => by rw [if_pos (by omega)]
      refine s_S_law_25 x i (fun _ _ _ => ⟨b, X1.2.1, X1.1, fun _ => ⟨b, X1.2.1, X1.1, d + 2, _, by omega, c_calm0 (a := 32) (Or.inl rfl) B X1.2.2 X1.1 (g := fun t => m 25 t + (if t < i then x else 0)) hv (fun t ht => ?_) (N := N + 100) ?_ (by omega) (fun t q0 q5 => ?_) ?_ ?_, fun m2 h2 _ => ?_⟩, fun q => absurd (show i ≥ m1 b 0 by rw [X1.2.2.1]; omega) q⟩)
      · show 0 ≤ m 25 t + (if t < i then x else 0)
        rw [hin t ht]
        have := hg t ht
        omega
      · rw [sm_congr hin]
        exact sm_plus hn5 hN (by omega)
      · rw [f 34 (by decide)]
        exact (t1 t q0 q5).2
      · rw [f 32 (by decide)]
        exact t2
      · rw [f 32 (by decide)]
        exact t3
      · obtain ⟨f2, u, hu, -, -, -, -, -, hz⟩ := h2
        exact ⟨f1.tr f2, fun _ => ⟨u, hu.congr hin, hz⟩, fun q => absurd ⟨by omega, c2⟩ q⟩
    | succ j ih =>
      intro i m1 hij h0 f hv
      have f1 : Fr [32, 33, 34] m m1 := Fr.tr f0 (f.mono (by simp))
      have X1 := X.fr f1 (by decide) (by decide)
      have hi : In n i := by omega
      have hvi : m1 33 i = m 25 i := by rw [hv i h0 (by omega), if_neg (by omega)]; omega
      have hs1 := sm_term hg i hi
      have hg1 := hg i hi
      have P1 : CV l G Y_Sand_put d [.inr (.inr 32), .inl i, .inl x] m1 (fun m' => m' = up m1 33 i (m1 33 i + x)) := c_put (a := 32) (Or.inl rfl) (by omega) (by show inR (m1 33 i + x); constructor <;> omega)
      refine s_S_law_25 x i (fun _ _ _ => ⟨b, X1.2.1, X1.1, fun q => absurd q (by rw [X1.2.2.1]; omega), fun _ => ⟨d, _, by omega, P1, fun m2 h2 _ => ⟨by omega, ?_⟩⟩⟩)
      subst h2
      refine ih (i + 1) _ (by omega) (by omega) (Fr_up f (by simp)) (fun t q0 q5 => ?_)
      rw [up_row, hvi]
      by_cases e : t = i
      · rw [if_pos e, if_pos (by omega), e]
      · rw [if_neg e, hv t q0 q5]
        by_cases e2 : t < i
        · rw [if_pos e2, if_pos (by omega)]
        · rw [if_neg e2, if_neg (by omega)]
  refine loop n 0 m0 (by omega) (by omega) Fr.rf (fun t q0 q5 => ?_)
  rw [if_neg (by omega)]
  have e : m0 33 t = m 25 t := (t1 t q0 q5).1
  rw [e]; omega
theorem c_lawM (B : BW n D W br) (X : BM n D W br m) (hg : ∀ i, In n i → 0 ≤ m 90 i) {N : Int} (hN : sm n (m 90) ≤ N) (hN3 : N ≤ 20000) {x : Int} : CI l G Y_M_law (d + 3) [.inr (.inr 70), .inl x] m (fun z m' => Fro 70 [93, 94] [41] m m' ∧ LwR n D W br (m 90) x z) := by
  have hn5 := B.1
  refine e_M_law x (fun _ _ => ⟨d, _, by omega, c_isIn, fun z m1 hz _ _ => ?_⟩)
  obtain ⟨rfl, rfl⟩ := hz
  by_cases hx : 0 ≤ x ∧ x ≤ 20
  · rw [if_pos hx]
    refine ⟨fun _ => ⟨d + 1, _, by omega, c_layNow hn5 X, fun m0 h0 _ => ?_⟩, fun c => absurd (by decide) c⟩
    obtain ⟨f0, g0, -⟩ := h0
    have loop : ∀ (j : Nat) (i : Int) (m1 : MM), i + j = n → 0 ≤ i → Fro 70 [93, 94] [41] m m1 → (∀ t, In n t → m1 93 t = m 90 t + (if t < i then x else 0)) →
        Wq l G false Y_M_law (d + 3) (QI fun z m' => Fro 70 [93, 94] [41] m m' ∧ LwR n D W br (m 90) x z) 18 [(0, .inr (.inr 70)), (1, .inl x), (2, .inl i)] [] m1 := by
      intro j
      induction j with
      | zero =>
        intro i m1 hij h0 f hv
        have X1 := X.fro f (by decide) (by decide) (by decide) (by decide) (by decide)
        have hin : ∀ t, In n t → m1 93 t = m 90 t + x := fun t ht => by rw [hv t ht, if_pos (by omega)]
        refine s_M_law_18 x i (fun _ _ _ => ⟨d, _, by omega, c_lots X1, fun z m2 hz _ _ => ?_⟩)
        obtain ⟨rfl, rfl⟩ := hz
        refine ⟨fun _ => ⟨d + 2, _, by omega, c_settleHeap B X1 (fun t ht => ?_) (N := N + 100) ?_ (by omega), fun z m2 h2 _ _ => ?_⟩, fun c => absurd (show i ≥ (n : Int) by omega) c⟩
        · rw [hin t ht]
          have := hg t ht
          omega
        · rw [sm_congr hin]
          exact sm_plus hn5 hN hx
        · obtain ⟨u, hu, ⟨f2, -, -, -, -, e2⟩, -⟩ := h2
          exact ⟨f.tr f2, fun _ => ⟨u, hu.congr hin, e2⟩, fun q => absurd hx q⟩
      | succ j ih =>
        intro i m1 hij h0 f hv
        have X1 := X.fro f (by decide) (by decide) (by decide) (by decide) (by decide)
        have hi : In n i := by omega
        have hvi : m1 93 i = m 90 i := by rw [hv i hi, if_neg (by omega)]; omega
        have hs1 := sm_term hg i hi
        have hg1 := hg i hi
        refine s_M_law_18 x i (fun _ _ _ => ⟨d, _, by omega, c_lots X1, fun z m2 hz _ _ => ?_⟩)
        obtain ⟨rfl, rfl⟩ := hz
        rw [hvi]
        refine ⟨fun c => absurd c (by omega), fun _ => ⟨by omega, by omega, by omega, ?_⟩⟩
        rintro m2 rfl
        refine ⟨by omega, ih (i + 1) _ (by omega) (by omega) (Fro_up f (by simp) (by decide)) (fun t ht => ?_)⟩
        rw [up_row]
        by_cases e : t = i
        · rw [if_pos e, if_pos (by omega), e]
        · rw [if_neg e, hv t ht]
          by_cases e2 : t < i
          · rw [if_pos e2, if_pos (by omega)]
          · rw [if_neg e2, if_neg (by omega)]
    refine loop n 0 m0 (by omega) (by omega) (f0.mono (by simp) (by simp)) (fun t ht => ?_)
    rw [if_neg (by have := ht.1; omega), g0 t ht]; omega
  · rw [if_neg hx]
    exact ⟨fun c => absurd rfl c, fun _ => ⟨Fro.rf, fun q => absurd q hx, fun _ => rfl⟩⟩
theorem c_levelNow (B : BW n D W br) (X : BM n D W br m) (hg : ∀ i, In n i → 0 ≤ m 90 i) {N : Int} (hN : sm n (m 90) ≤ N) (hN3 : N ≤ 1000000) : CI l G Y_M_levelNow (d + 2) [.inr (.inr 70)] m (fun z m' => Fro 70 [93] [] m m' ∧ z = sm n (m 90)) := by
  refine e_M_levelNow (fun _ => ⟨d + 1, _, by omega, c_layNow B.1 X, fun m1 h1 _ => ?_⟩)
  obtain ⟨f, g, -⟩ := h1
  have X1 := X.fro f (by decide) (by decide) (by decide) (by decide) (by decide)
  refine ⟨d + 1, _, by omega, c_levelOf B.1 X1 (fun i hi => ?_), fun z m2 hz _ _ => ?_⟩
  · rw [g i hi]
    have := hg i hi
    have := sm_term hg i hi
    omega
  · obtain ⟨rfl, rfl⟩ := hz
    exact ⟨f, sm_congr g⟩
theorem grains_of (B : BW n D W br) (X : CX n D W br b m) (hg : ∀ i, In n i → 0 ≤ m 25 i) {N : Int} (hN : sm n (m 25) ≤ N) (hN3 : N ≤ 1000000) : CI l G Y_Board_grainsOf d [.inr (.inr b), .inr (.inr 25)] m (fun z m' => z = sm n (m 25) ∧ m = m') :=
  c_grainsOf X.1 B.1 X.2.2.1 (h := 25) (len := 8) rfl (by decide) (by decide) (fun i hi => by
    have := hg i hi
    have := sm_term hg i hi
    omega)
theorem c_imageX (B : BW n D W br) (X : CX n D W br b m) (hg : ∀ i, In n i → 0 ≤ m 25 i) {N : Int} (hN : sm n (m 25) ≤ N) (hN3 : N ≤ 1000000) {x : Int} : CI l G Y_S_image (d + 1) [.inr (.inr 0), .inl x] m (fun z m' => (0 ≤ x ∧ x < 3 → z = sm n (m 25) ∧ Fr [30, 31] m m' ∧ (∀ k, m' 30 k = if 8 * x ≤ k ∧ k < 8 * x + 8 then m 25 (k - 8 * x) else m 30 k) ∧ ∀ k, m' 31 k = if k = x then 1 else m 31 k) ∧ (¬ (0 ≤ x ∧ x < 3) → z = -1 ∧ m = m')) := by
  refine e_S_image x (by omega) (fun _ _ => ⟨fun c => ⟨fun q => absurd q.1 (by omega), fun _ => ⟨rfl, rfl⟩⟩, fun c => ⟨fun c2 => ⟨by omega, by omega, ?_⟩, fun c2 => ⟨fun q => absurd q.2 c2, fun _ => ⟨rfl, rfl⟩⟩⟩⟩)
  rintro m1 rfl
  refine ⟨by omega, ?_⟩
  rintro m2 rfl
  have f : Fr [30, 31] m (up (upC m 25 30 0 (x * 8) 8) 31 x 1) := Fr_up (fun c hc => upC_ne (fun e => hc (by rw [e]; simp))) (by simp)
  have X2 := X.fr f (by decide) (by decide)
  have e25 : up (upC m 25 30 0 (x * 8) 8) 31 x 1 25 = m 25 := f 25 (by decide)
  refine ⟨b, X2.2.1, X2.1, d, _, by omega, grains_of B X2 (by rw [e25]; exact hg) (N := N) (by rw [e25]; exact hN) hN3, fun z m3 hz _ _ => ?_⟩
  obtain ⟨hz, rfl⟩ := hz
  rw [e25] at hz
  refine ⟨fun _ => ⟨hz, f, fun k => ?_, fun k => ?_⟩, fun q => absurd ⟨by omega, c2⟩ q⟩
  · rw [up_ne (by decide), upC_row]
    by_cases e : 8 * x ≤ k ∧ k < 8 * x + 8
    · rw [if_pos e, if_pos (by omega)]
      exact congrArg (m 25) (by omega)
    · rw [if_neg e, if_neg (by omega)]
  · rw [up_row, upC_ne (by decide)]
theorem c_imageM (B : BW n D W br) (X : BM n D W br m) (hg : ∀ i, In n i → 0 ≤ m 90 i) {N : Int} (hN : sm n (m 90) ≤ N) (hN3 : N ≤ 1000000) {x : Int} : CI l G Y_M_image (d + 3) [.inr (.inr 70), .inl x] m (fun z m' => (0 ≤ x ∧ x < 3 → z = sm n (m 90) ∧ Fro 70 [93, 109, 110] [] m m' ∧ (∀ k, m' 109 k = if 8 * x ≤ k ∧ k < 8 * x + 8 then m 90 (k - 8 * x) else m 109 k) ∧ ∀ k, m' 110 k = if k = x then 1 else m 110 k) ∧ (¬ (0 ≤ x ∧ x < 3) → z = -1 ∧ m = m')) := by
  refine e_M_image x (fun _ _ => ⟨d, _, by omega, c_isIn, fun z m1 hz _ _ => ?_⟩)
  obtain ⟨rfl, rfl⟩ := hz
  by_cases hx : 0 ≤ x ∧ x ≤ 2
  · rw [if_pos hx]
    refine ⟨fun _ => ?_, fun c => absurd (by decide) c⟩
    have loop : ∀ (j : Nat) (i : Int) (m1 : MM), i + j = 8 → 0 ≤ i → Fr [109] m m1 → (∀ k, m1 109 k = if 8 * x ≤ k ∧ k < 8 * x + i then m 90 (k - 8 * x) else m 109 k) →
        Wq l G false Y_M_image (d + 3) (QI fun z m' => (0 ≤ x ∧ x < 3 → z = sm n (m 90) ∧ Fro 70 [93, 109, 110] [] m m' ∧ (∀ k, m' 109 k = if 8 * x ≤ k ∧ k < 8 * x + 8 then m 90 (k - 8 * x) else m 109 k) ∧ ∀ k, m' 110 k = if k = x then 1 else m 110 k) ∧ (¬ (0 ≤ x ∧ x < 3) → z = -1 ∧ m = m')) 13 [(0, .inr (.inr 70)), (1, .inl x), (2, .inl i)] [] m1 := by
      intro j
      induction j with
      | zero =>
        intro i m1 hij h0 f hv
        have e8 : i = 8 := by omega
        rw [e8] at hv
        refine s_M_image_13 x i (fun _ _ _ => ⟨fun _ => ⟨by omega, ?_⟩, fun c => absurd (show i ≥ 8 by omega) c⟩)
        rintro m2 rfl
        have f2 : Fro 70 [93, 109, 110] [] m (up m1 110 x 1) := Fro_up ⟨fun c hc _ => f c (by simp only [List.mem_cons, List.not_mem_nil, or_false] at hc ⊢; omega), fun t _ => by rw [f 70 (by decide)]⟩ (by simp) (by decide)
        have X2 := X.fro f2 (by decide) (by decide) (by decide) (by decide) (by decide)
        have e90 : up m1 110 x 1 90 = m 90 := f2.1 90 (by decide) (by decide)
        refine ⟨d + 2, _, by omega, c_levelNow B X2 (by rw [e90]; exact hg) (N := N) (by rw [e90]; exact hN) hN3, fun z m3 hz _ _ => ?_⟩
        obtain ⟨f3, hz⟩ := hz
        rw [e90] at hz
        refine ⟨fun _ => ⟨hz, f2.tr (f3.mono (by simp) (by simp)), fun k => ?_, fun k => ?_⟩, fun q => absurd (by omega) q⟩
        · rw [f3.1 109 (by decide) (by decide), up_ne (by decide)]
          exact hv k
        · rw [f3.1 110 (by decide) (by decide), up_row, f 110 (by decide)]
      | succ j ih =>
        intro i m1 hij h0 f hv
        refine s_M_image_13 x i (fun _ _ _ => ⟨fun c => absurd c (by omega), fun _ => ⟨by omega, by omega, by omega, by omega, ?_⟩⟩)
        rintro m2 rfl
        refine ⟨by omega, ih (i + 1) _ (by omega) (by omega) (Fr_up f (by simp)) (fun k => ?_)⟩
        rw [up_row, hv k, f 90 (by decide)]
        by_cases e : k = 8 * x + i
        · rw [if_pos e, if_pos (by omega)]
          exact congrArg (m 90) (by omega)
        · rw [if_neg e]
          by_cases e2 : 8 * x ≤ k ∧ k < 8 * x + i
          · rw [if_pos e2, if_pos (by omega)]
          · rw [if_neg e2, if_neg (by omega)]
    exact loop 8 0 m (by omega) (by omega) Fr.rf (fun k => by rw [if_neg (by omega)])
  · rw [if_neg hx]
    exact ⟨fun c => absurd rfl c, fun _ => ⟨fun q => absurd q (by omega), fun _ => ⟨rfl, rfl⟩⟩⟩
theorem c_isFilled {x : Int} : CI l G Y_S_isFilled d [.inr (.inr 0), .inl x] m (fun z m' => z = (if (0 ≤ x ∧ x < 3) ∧ m 31 x ≠ 0 then 1 else 0) ∧ m = m') := by
  refine e_S_isFilled x (fun _ _ => ⟨fun c => ⟨?_, rfl⟩, fun c => ⟨fun c2 => ⟨?_, rfl⟩, fun c2 => ⟨by omega, fun c3 => ⟨?_, rfl⟩, fun c3 => ⟨?_, rfl⟩⟩⟩⟩)
  · rw [if_neg (by omega)]
  · rw [if_neg (by omega)]
  · rw [if_neg (fun q => q.2 c3)]
  · rw [if_pos ⟨by omega, c3⟩]
theorem c_isBox {x : Int} : CI l G Y_M_isBox (d + 1) [.inr (.inr 70), .inl x] m (fun z m' => z = (if (0 ≤ x ∧ x < 3) ∧ m 110 x ≠ 0 then 1 else 0) ∧ m = m') := by
  refine e_M_isBox x (fun _ _ => ⟨d, _, by omega, c_isIn, fun z m1 hz _ _ => ?_⟩)
  obtain ⟨rfl, rfl⟩ := hz
  by_cases h : 0 ≤ x ∧ x ≤ 2
  · rw [if_pos h]
    refine ⟨fun c => absurd c (by decide), fun _ => ⟨by omega, fun c3 => ⟨?_, rfl⟩, fun c3 => ⟨?_, rfl⟩⟩⟩
    · rw [if_neg (fun q => q.2 c3)]
    · rw [if_pos ⟨by omega, c3⟩]
  · rw [if_neg h]
    refine ⟨fun _ => ⟨?_, rfl⟩, fun c => absurd rfl c⟩
    rw [if_neg (fun q => h (by omega))]
theorem c_forget {h : Nat} (hl : q_lay h = .inr (0, 8)) (hh : h ≠ 28 ∧ h ≠ 29) : CV l G Y_Acts_forget (d + 1) [.inr (.inr 28), .inr (.inr h)] m (fun m' => Fro 28 [29] [1, 2] m m' ∧ m' 28 1 = 0 ∧ m' 28 2 = 0 ∧ ∀ i, 0 ≤ i → i < 8 → m' 29 i = m h i) := by
  refine e_Acts_forget h 8 hl (by decide) (by omega) (fun _ => ?_)
  rintro m1 rfl m2 rfl
  refine ⟨by decide, ?_⟩
  rintro m3 rfl
  refine ⟨⟨fun c hc hc2 => ?_, fun i hi => ?_⟩, ?_, ?_, fun i i0 i8 => ?_⟩
  · rw [upC_ne (fun e => hc (by rw [e]; simp)), up_ne hc2, up_ne hc2]
  · rw [upC_ne (by decide), up_off (fun e => hi (by rw [e]; simp)), up_off (fun e => hi (by rw [e]; simp))]
  · rw [upC_ne (by decide), up_off (by decide), up_at]
  · rw [upC_ne (by decide), up_at]
  · rw [upC_row, if_pos (by omega), up_ne hh.1, up_ne hh.1]
    exact congrArg (m h) (by omega)
theorem c_backX (B : BW n D W br) (X : CX n D W br b m) {x : Int} (hg : (0 ≤ x ∧ x < 3) ∧ m 31 x ≠ 0 → (∀ i, In n i → 0 ≤ m 30 (8 * x + i)) ∧ sm n (fun i => m 30 (8 * x + i)) ≤ 1000000) : CI l G Y_S_back (d + 2) [.inr (.inr 0), .inl x] m (fun z m' => ((0 ≤ x ∧ x < 3) ∧ m 31 x ≠ 0 → z = sm n (fun i => m 30 (8 * x + i)) ∧ Fro 28 [25, 29] [1, 2] m m' ∧ m' 28 1 = 0 ∧ m' 28 2 = 0 ∧ (∀ i, 0 ≤ i → i < 8 → m' 29 i = m' 25 i) ∧ ∀ i, m' 25 i = if 0 ≤ i ∧ i < 8 then m 30 (8 * x + i) else m 25 i) ∧ (¬ ((0 ≤ x ∧ x < 3) ∧ m 31 x ≠ 0) → z = -1 ∧ m = m')) := by
  have hn5 := B.1
  refine e_S_back x (by omega) (fun _ _ => ⟨d, _, by omega, c_isFilled, fun z m1 hz _ _ => ?_⟩)
  obtain ⟨rfl, rfl⟩ := hz
  by_cases h : (0 ≤ x ∧ x < 3) ∧ m 31 x ≠ 0
  · rw [if_pos h]
    refine ⟨fun _ => ⟨by omega, by omega, ?_⟩, fun c => absurd (by decide) c⟩
    rintro m1 rfl
    have v1 : ∀ i, upC m 30 25 (x * 8) 0 8 25 i = if 0 ≤ i ∧ i < 8 then m 30 (8 * x + i) else m 25 i := fun i => by
      rw [upC_row]
      by_cases e : 0 ≤ i ∧ i < 8
      · rw [if_pos e, if_pos (by omega)]
        exact congrArg (m 30) (by omega)
      · rw [if_neg e, if_neg (by omega)]
    have f1 : ∀ c, c ≠ 25 → upC m 30 25 (x * 8) 0 8 c = m c := fun c hc => upC_ne hc
    generalize upC m 30 25 (x * 8) 0 8 = m1 at v1 f1
    refine ⟨d + 1, _, by omega, c_forget (h := 25) rfl (by decide), fun m2 h2 _ => ?_⟩
    obtain ⟨f2, k1, k2, k3⟩ := h2
    have e25 : m2 25 = m1 25 := f2.1 25 (by decide) (by decide)
    have hb0 : b ≠ 28 ∧ b ≠ 25 ∧ b ≠ 29 := by rcases X.1 with rfl | rfl <;> decide
    have fr : Fro 28 [25, 29] [1, 2] m m2 := ⟨fun c hc hc2 => by
      simp only [List.mem_cons, List.not_mem_nil, or_false] at hc
      rw [f2.1 c (by simp only [List.mem_cons, List.not_mem_nil, or_false]; omega) hc2, f1 c (by omega)], fun i hi => by rw [f2.2 i hi, f1 28 (by decide)]⟩
    have X2 : CX n D W br b m2 := by
      have hk : ∀ j, j ≤ 8 → b + j ∉ [25, 29, 28] := fun j hj hm => by
        simp only [List.mem_cons, List.not_mem_nil, or_false] at hm
        rcases X.1 with rfl | rfl <;> omega
      have fS : Fr [25, 29, 28] m m2 := fun c hc => by
        simp only [List.mem_cons, List.not_mem_nil, or_false] at hc
        exact fr.1 c (by simp only [List.mem_cons, List.not_mem_nil, or_false]; omega) (by omega)
      exact ⟨X.1, by rw [fS 0 (by decide)]; exact X.2.1, X.2.2.fr fS (hk 0 (by omega)) (hk 2 (by omega)) (hk 3 (by omega)) (hk 4 (by omega))⟩
    have hin : ∀ i, In n i → m2 25 i = m 30 (8 * x + i) := fun i hi => by rw [e25, v1 i, if_pos (by omega)]
    have hg2 := hg h
    refine ⟨b, X2.2.1, X2.1, d, _, by omega, grains_of B X2 (fun i hi => by rw [hin i hi]; exact hg2.1 i hi) (N := 1000000) (by rw [sm_congr hin]; exact hg2.2) (by decide), fun z m3 hz _ _ => ?_⟩
    obtain ⟨hz, rfl⟩ := hz
    rw [sm_congr hin] at hz
    exact ⟨fun _ => ⟨hz, fr, k1, k2, fun i i0 i8 => by rw [k3 i i0 i8, e25], fun i => by rw [e25]; exact v1 i⟩, fun q => absurd h q⟩
  · rw [if_neg h]
    exact ⟨fun c => absurd rfl c, fun _ => ⟨fun q => absurd q h, fun _ => ⟨rfl, rfl⟩⟩⟩
theorem c_backM (B : BW n D W br) (X : BM n D W br m) {x : Int} (hg : (0 ≤ x ∧ x < 3) ∧ m 110 x ≠ 0 → (∀ i, In n i → 0 ≤ m 109 (8 * x + i)) ∧ sm n (fun i => m 109 (8 * x + i)) ≤ 1000000) : CI l G Y_M_back (d + 3) [.inr (.inr 70), .inl x] m (fun z m' => ((0 ≤ x ∧ x < 3) ∧ m 110 x ≠ 0 → z = sm n (fun i => m 109 (8 * x + i)) ∧ Fro 70 [90, 93] [45, 46] m m' ∧ m' 70 45 = 0 ∧ m' 70 46 = 0 ∧ ∀ i, m' 90 i = if 0 ≤ i ∧ i < 8 then m 109 (8 * x + i) else m 90 i) ∧ (¬ ((0 ≤ x ∧ x < 3) ∧ m 110 x ≠ 0) → z = -1 ∧ m = m')) := by
  have hn5 := B.1
  refine e_M_back x (fun _ _ => ⟨d + 1, _, by omega, c_isBox, fun z m1 hz _ _ => ?_⟩)
  obtain ⟨rfl, rfl⟩ := hz
  by_cases h : (0 ≤ x ∧ x < 3) ∧ m 110 x ≠ 0
  · rw [if_pos h]
    refine ⟨fun _ => ?_, fun c => absurd (by decide) c⟩
    have loop : ∀ (j : Nat) (i : Int) (m1 : MM), i + j = 8 → 0 ≤ i → Fr [90] m m1 → (∀ k, m1 90 k = if 0 ≤ k ∧ k < i then m 109 (8 * x + k) else m 90 k) →
        Wq l G false Y_M_back (d + 3) (QI fun z m' => ((0 ≤ x ∧ x < 3) ∧ m 110 x ≠ 0 → z = sm n (fun i => m 109 (8 * x + i)) ∧ Fro 70 [90, 93] [45, 46] m m' ∧ m' 70 45 = 0 ∧ m' 70 46 = 0 ∧ ∀ i, m' 90 i = if 0 ≤ i ∧ i < 8 then m 109 (8 * x + i) else m 90 i) ∧ (¬ ((0 ≤ x ∧ x < 3) ∧ m 110 x ≠ 0) → z = -1 ∧ m = m')) 12 [(0, .inr (.inr 70)), (1, .inl x), (2, .inl i)] [] m1 := by
      intro j
      induction j with
      | zero =>
        intro i m1 hij h0 f hv
        have e8 : i = 8 := by omega
        rw [e8] at hv
        refine s_M_back_12 x i (fun _ _ _ => ⟨fun _ => ?_, fun c => absurd (show i ≥ 8 by omega) c⟩)
        rintro m2 rfl m3 rfl
        have f2 : Fro 70 [90, 93] [45, 46] m (up (up m1 70 45 0) 70 46 0) := Fro_upo (Fro_upo ⟨fun c hc _ => f c (by simp only [List.mem_cons, List.not_mem_nil, or_false] at hc ⊢; omega), fun t _ => by rw [f 70 (by decide)]⟩ (by simp)) (by simp)
        have X2 := X.fro f2 (by decide) (by decide) (by decide) (by decide) (by decide)
        have e90 : up (up m1 70 45 0) 70 46 0 90 = m1 90 := by rw [up_ne (by decide), up_ne (by decide)]
        have e45 : up (up m1 70 45 0) 70 46 0 70 45 = 0 := by rw [up_off (by decide), up_at]
        have e46 : up (up m1 70 45 0) 70 46 0 70 46 = 0 := up_at
        generalize up (up m1 70 45 0) 70 46 0 = m3 at f2 X2 e90 e45 e46
        have hin : ∀ i, In n i → m3 90 i = m 109 (8 * x + i) := fun i hi => by rw [e90, hv i, if_pos (by omega)]
        have hg2 := hg h
        refine ⟨d + 2, _, by omega, c_levelNow B X2 (fun i hi => by rw [hin i hi]; exact hg2.1 i hi) (N := 1000000) (by rw [sm_congr hin]; exact hg2.2) (by decide), fun z m4 hz _ _ => ?_⟩
        obtain ⟨f3, hz⟩ := hz
        rw [sm_congr hin] at hz
        exact ⟨fun _ => ⟨hz, f2.tr (f3.mono (by simp) (by simp)), by rw [f3.2 45 (by decide)]; exact e45, by rw [f3.2 46 (by decide)]; exact e46, fun k => by rw [f3.1 90 (by decide) (by decide), e90]; exact hv k⟩, fun q => absurd h q⟩
      | succ j ih =>
        intro i m1 hij h0 f hv
        refine s_M_back_12 x i (fun _ _ _ => ⟨fun c => absurd c (by omega), fun _ => ⟨by omega, by omega, by omega, by omega, ?_⟩⟩)
        rintro m2 rfl
        refine ⟨by omega, ih (i + 1) _ (by omega) (by omega) (Fr_up f (by simp)) (fun k => ?_)⟩
        rw [up_row, hv k, f 109 (by decide)]
        by_cases e : k = i
        · rw [if_pos e, if_pos (by omega), e]
        · rw [if_neg e]
          by_cases e2 : 0 ≤ k ∧ k < i
          · rw [if_pos e2, if_pos (by omega)]
          · rw [if_neg e2, if_neg (by omega)]
    exact loop 8 0 m (by omega) (by omega) Fr.rf (fun k => by rw [if_neg (by omega)])
  · rw [if_neg h]
    exact ⟨fun c => absurd rfl c, fun _ => ⟨fun q => absurd q h, fun _ => ⟨rfl, rfl⟩⟩⟩
theorem c_aboutX (B : BW n D W br) (X : CX n D W br b m) (hg : ∀ i, In n i → 0 ≤ m 25 i) {N : Int} (hN : sm n (m 25) ≤ N) (hN3 : N ≤ 1000000) (ha : 0 ≤ m 28 1 ∧ m 28 1 ≤ m 28 2 ∧ m 28 2 ≤ 40) {x : Int} : CI l G Y_S_about (d + 2) [.inr (.inr 0), .inl x] m (fun z m' => z = abV x n (m b 1) (sm n (m 25)) (m 25 5) (m 25 6) (m 25 7) (m 28 1) (m 28 2 - m 28 1) (m 55 10) (m 55 11) (m 0 1) (m b 4) (m 67 1) (m b 2) (if bs n (fun i => decide (br i ≤ m 25 i)) = 0 then 1 else 0) ∧ m = m') := by
  unfold abV
  refine e_S_about x (fun _ _ => ⟨fun c => ⟨b, X.2.1, X.1, ?_, rfl⟩, fun c => ⟨b, X.2.1, X.1, ?_, rfl⟩, fun c => ⟨b, X.2.1, X.1, d, _, by omega, grains_of B X hg hN hN3, fun z m1 hz _ _ => ⟨?_, hz.2⟩⟩, fun c => ⟨?_, rfl⟩, fun c => ⟨?_, rfl⟩, fun c => ⟨?_, rfl⟩, fun c => ⟨?_, rfl⟩, fun c => ⟨by omega, ?_, rfl⟩, fun c => ⟨?_, rfl⟩, fun c => ⟨?_, rfl⟩, fun c => ⟨?_, rfl⟩, fun c => ⟨b, X.2.1, X.1, ?_, rfl⟩, fun c => ⟨?_, rfl⟩, fun c => ⟨b, X.2.1, X.1, ?_, rfl⟩, fun c => ⟨d + 1, _, by omega, c_overX B X, fun z m1 hz _ _ => ?_⟩, fun c0 c1 c2 c3 c4 c5 c6 c7 c8 c9 c10 c11 c12 c13 c14 => ⟨?_, rfl⟩⟩)
  · subst c; exact X.2.2.1
  · subst c; rfl
  · subst c; exact hz.1
  · subst c; rfl
  · subst c; rfl
  · subst c; rfl
  · subst c; rfl
  · subst c; rfl
  · subst c; rfl
  · subst c; rfl
  · subst c; rfl
  · subst c; rfl
  · subst c; rfl
  · subst c; rfl
  · obtain ⟨rfl, rfl⟩ := hz
    subst c
    refine ⟨fun q => ⟨?_, rfl⟩, fun q => ⟨?_, rfl⟩⟩
    · show (0 : Int) = (if bs n (fun i => decide (br i ≤ m 25 i)) = 0 then 1 else 0)
      rw [if_neg q]
    · show (1 : Int) = (if bs n (fun i => decide (br i ≤ m 25 i)) = 0 then 1 else 0)
      rw [if_pos (Classical.not_not.mp q)]
  · rw [if_neg c0, if_neg c1, if_neg c2, if_neg c3, if_neg c4, if_neg c5, if_neg c6, if_neg c7, if_neg c8, if_neg c9, if_neg c10, if_neg c11, if_neg c12, if_neg c13, if_neg c14]
theorem c_aboutM (B : BW n D W br) (X : BM n D W br m) (hg : ∀ i, In n i → 0 ≤ m 90 i) {N : Int} (hN : sm n (m 90) ≤ N) (hN3 : N ≤ 1000000) {x : Int} : CI l G Y_M_about (d + 3) [.inr (.inr 70), .inl x] m (fun z m' => z = abV x n (m 74 (m 70 28)) (sm n (m 90)) (m 90 5) (m 90 6) (m 90 7) (m 70 45) (m 70 46) (m 70 60) (m 70 61) (m 70 2) (m 75 (m 70 28)) (m 70 48) (m 76 (m 70 28)) (if bs n (fun i => decide (br i ≤ m 90 i)) = 0 then 1 else 0) ∧ Fro 70 [93] [] m m') := by
  unfold abV
  have hb := X.1
  refine e_M_about x (fun _ _ => ⟨fun c => ⟨d, _, by omega, c_lots X, fun z m1 hz _ _ => ?_⟩, fun c => ⟨by omega, ?_, Fro.rf⟩, fun c => ⟨d + 2, _, by omega, c_levelNow B X hg hN hN3, fun z m1 hz _ _ => ⟨?_, hz.1⟩⟩, fun c => ⟨?_, Fro.rf⟩, fun c => ⟨?_, Fro.rf⟩, fun c => ⟨?_, Fro.rf⟩, fun c => ⟨?_, Fro.rf⟩, fun c => ⟨?_, Fro.rf⟩, fun c => ⟨?_, Fro.rf⟩, fun c => ⟨?_, Fro.rf⟩, fun c => ⟨?_, Fro.rf⟩, fun c => ⟨by omega, ?_, Fro.rf⟩, fun c => ⟨?_, Fro.rf⟩, fun c => ⟨by omega, ?_, Fro.rf⟩, fun c => ⟨d + 1, _, by omega, c_overM B X, fun z m1 hz _ _ => ?_⟩, fun c0 c1 c2 c3 c4 c5 c6 c7 c8 c9 c10 c11 c12 c13 c14 => ⟨?_, Fro.rf⟩⟩)
  · obtain ⟨rfl, rfl⟩ := hz
    subst c; exact ⟨rfl, Fro.rf⟩
  · subst c; rfl
  · subst c; exact hz.2
  · subst c; rfl
  · subst c; rfl
  · subst c; rfl
  · subst c; rfl
  · subst c; rfl
  · subst c; rfl
  · subst c; rfl
  · subst c; rfl
  · subst c; rfl
  · subst c; rfl
  · subst c; rfl
  · obtain ⟨rfl, rfl⟩ := hz
    subst c
    refine ⟨fun q => ⟨?_, Fro.rf⟩, fun q => ⟨?_, Fro.rf⟩⟩
    · show (0 : Int) = (if bs n (fun i => decide (br i ≤ m 90 i)) = 0 then 1 else 0)
      rw [if_neg q]
    · show (1 : Int) = (if bs n (fun i => decide (br i ≤ m 90 i)) = 0 then 1 else 0)
      rw [if_pos (Classical.not_not.mp q)]
  · rw [if_neg c0, if_neg c1, if_neg c2, if_neg c3, if_neg c4, if_neg c5, if_neg c6, if_neg c7, if_neg c8, if_neg c9, if_neg c10, if_neg c11, if_neg c12, if_neg c13, if_neg c14]
end Small
