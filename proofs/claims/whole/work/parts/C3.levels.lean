/-! the settled heaps in their order; levels of both -/
def prd (br : Int → Int) : Nat → Int
  | 0 => 1
  | k + 1 => prd br k * br k
def lay (br : Int → Int) : Nat → Int → Int → Int
  | 0, _, _ => 0
  | k + 1, x, i => if i = (k : Int) then x % br k else lay br k (x / br k) i
def cod (br : Int → Int) : Nat → (Int → Int) → Int
  | 0, _ => 0
  | k + 1, h => cod br k h * br k + h k
def Stl (br : Int → Int) (k : Nat) (h : Int → Int) : Prop := ∀ i, In k i → 0 ≤ h i ∧ h i < br i
theorem Stl.down {br h : Int → Int} {k : Nat} (a : Stl br (k + 1) h) : Stl br k h ∧ 0 ≤ h k ∧ h k < br k := ⟨fun i hi => a i ⟨hi.1, by have := hi.2; omega⟩, a k ⟨by omega, by omega⟩⟩
theorem In.cut {k : Nat} {i : Int} (h : In (k + 1) i) (e : i ≠ (k : Int)) : In k i := ⟨h.1, by have := h.2; omega⟩
theorem lay_rng {br : Int → Int} : ∀ {k : Nat} {x : Int}, (∀ i, In k i → 1 ≤ br i) → 0 ≤ x → Stl br k (lay br k x)
  | 0, _, _, _ => fun i hi => by have := hi.1; have := hi.2; omega
  | k + 1, x, hb, hx => fun i hi => by
    have hk := hb k ⟨by omega, by omega⟩
    show 0 ≤ (if i = (k : Int) then x % br k else lay br k (x / br k) i) ∧ (if i = (k : Int) then x % br k else lay br k (x / br k) i) < br i
    by_cases e : i = (k : Int)
    · rw [if_pos e, e]
      exact ⟨Int.emod_nonneg _ (by omega), Int.emod_lt_of_pos _ (by omega)⟩
    · rw [if_neg e]
      exact lay_rng (fun i hi => hb i ⟨hi.1, by have := hi.2; omega⟩) (Int.ediv_nonneg hx (by omega)) i (hi.cut e)
theorem prd_pos {br : Int → Int} : ∀ {k : Nat}, (∀ i, In k i → 1 ≤ br i) → 0 < prd br k
  | 0, _ => by show (0 : Int) < 1; decide
  | k + 1, hb => Int.mul_pos (prd_pos (fun i hi => hb i ⟨hi.1, by have := hi.2; omega⟩)) (by have := hb k ⟨by omega, by omega⟩; omega)
theorem cod_rng {br : Int → Int} : ∀ {k : Nat} {h : Int → Int}, Stl br k h → 0 ≤ cod br k h ∧ cod br k h < prd br k
  | 0, _, _ => by show (0 : Int) ≤ 0 ∧ (0 : Int) < 1; decide
  | k + 1, h, a => by
    obtain ⟨h1, h2, h3⟩ := a.down
    obtain ⟨g1, g2⟩ := cod_rng h1
    have p1 := Int.mul_nonneg g1 (show 0 ≤ br k by omega)
    have p2 := Int.mul_le_mul_of_nonneg_right (show cod br k h ≤ prd br k - 1 by omega) (show 0 ≤ br k by omega)
    rw [Int.sub_mul, Int.one_mul] at p2
    show 0 ≤ cod br k h * br k + h k ∧ cod br k h * br k + h k < prd br k * br k
    omega
theorem lay_congr {br br' : Int → Int} : ∀ {k : Nat} {x : Int}, (∀ i, In k i → br i = br' i) → ∀ i, In k i → lay br k x i = lay br' k x i
  | 0, _, _ => fun i hi => by have := hi.1; have := hi.2; omega
  | k + 1, x, e => fun i hi => by
    show (if i = (k : Int) then x % br k else lay br k (x / br k) i) = (if i = (k : Int) then x % br' k else lay br' k (x / br' k) i)
    rw [e k ⟨by omega, by omega⟩]
    by_cases q : i = (k : Int)
    · rw [if_pos q, if_pos q]
    · rw [if_neg q, if_neg q]
      exact lay_congr (fun i hi => e i ⟨hi.1, by have := hi.2; omega⟩) i (hi.cut q)
theorem lay_cod {br : Int → Int} : ∀ {k : Nat} {h : Int → Int}, Stl br k h → ∀ i, In k i → lay br k (cod br k h) i = h i
  | 0, _, _ => fun i hi => by have := hi.1; have := hi.2; omega
  | k + 1, h, a => fun i hi => by
    obtain ⟨h1, h2, h3⟩ := a.down
    have e : cod br (k + 1) h = h k + cod br k h * br k := by show cod br k h * br k + h k = _; omega
    have e1 : cod br (k + 1) h % br k = h k := by rw [e, Int.add_mul_emod_self_right, Int.emod_eq_of_lt h2 h3]
    have e2 : cod br (k + 1) h / br k = cod br k h := by rw [e, Int.add_mul_ediv_right _ _ (by omega), Int.ediv_eq_zero_of_lt h2 h3]; omega
    show (if i = (k : Int) then cod br (k + 1) h % br k else lay br k (cod br (k + 1) h / br k) i) = h i
    rw [e1, e2]
    by_cases q : i = (k : Int)
    · rw [if_pos q, q]
    · rw [if_neg q]
      exact lay_cod h1 i (hi.cut q)
theorem cod_congr {br : Int → Int} : ∀ {k : Nat} {h h' : Int → Int}, (∀ i, In k i → h i = h' i) → cod br k h = cod br k h'
  | 0, _, _, _ => rfl
  | k + 1, h, h', e => by
    show cod br k h * br k + h k = cod br k h' * br k + h' k
    rw [cod_congr (fun i hi => e i ⟨hi.1, by have := hi.2; omega⟩), e k ⟨by omega, by omega⟩]
theorem cod_lay {br : Int → Int} : ∀ {k : Nat} {x : Int}, (∀ i, In k i → 1 ≤ br i) → 0 ≤ x → x < prd br k → cod br k (lay br k x) = x
  | 0, x, _, h0, h1 => by
    have : x < 1 := h1
    show (0 : Int) = x
    omega
  | k + 1, x, hb, h0, h1 => by
    have hk := hb k ⟨by omega, by omega⟩
    have e1 : lay br (k + 1) x (k : Int) = x % br k := if_pos rfl
    have e2 : cod br k (lay br (k + 1) x) = cod br k (lay br k (x / br k)) := cod_congr (fun i hi => if_neg (by have := hi.2; omega))
    have h2 : x / br k < prd br k := Int.ediv_lt_of_lt_mul (by omega) h1
    show cod br k (lay br (k + 1) x) * br k + lay br (k + 1) x (k : Int) = x
    rw [e1, e2, cod_lay (fun i hi => hb i ⟨hi.1, by have := hi.2; omega⟩) (Int.ediv_nonneg h0 (by omega)) h2, Int.mul_comm]
    exact Int.mul_ediv_add_emod x (br k)
section Lay
variable {l : Launch} {G : GT} {d : Nat} {m : MM} {b : Nat} {n : Nat} {D : Int → Int} {W : Int → Int → Int} {br : Int → Int}
theorem prd_le (B : BW n D W br) : ∀ {k : Nat}, k ≤ n → 0 < prd br k ∧ prd br k ≤ 10 ^ k
  | 0, _ => by show (0 : Int) < 1 ∧ (1 : Int) ≤ 10 ^ 0; decide
  | k + 1, hk => by
    obtain ⟨h1, h2⟩ := prd_le B (k := k) (by omega)
    have hi : In n (k : Int) := ⟨by omega, by omega⟩
    have h3 := B.br hi
    have h4 := B.br10 hi
    have p1 := Int.mul_pos h1 (show 0 < br k by omega)
    have p2 := Int.mul_le_mul_of_nonneg_left h4 (show 0 ≤ prd br k by omega)
    have p3 := Int.mul_le_mul_of_nonneg_right h2 (show (0 : Int) ≤ 10 by decide)
    rw [Int.pow_succ]
    show 0 < prd br k * br k ∧ prd br k * br k ≤ _
    omega
theorem pow10 {k : Nat} (hk : k ≤ 5) : (10 : Int) ^ k ≤ 100000 := by
  have : k = 0 ∨ k = 1 ∨ k = 2 ∨ k = 3 ∨ k = 4 ∨ k = 5 := by omega
  rcases this with rfl | rfl | rfl | rfl | rfl | rfl <;> decide
theorem c_settledMany (B : BW n D W br) (X : BM n D W br m) : CI l G Y_M_settledMany (d + 1) [.inr (.inr 70)] m (fun z m' => z = prd br n ∧ m = m') := by
  have hn5 := B.1
  refine e_M_settledMany (fun _ => ?_)
  have loop : ∀ (s k : Nat), k + s = n → Wq l G false Y_M_settledMany (d + 1) (QI fun z m' => z = prd br n ∧ m = m') 4 [(0, .inr (.inr 70)), (1, .inl (prd br k)), (2, .inl (k : Int))] [] m := by
    intro s
    induction s with
    | zero =>
      intro k hk
      have e : k = n := by omega
      refine s_M_settledMany_4 _ _ (fun _ _ _ => ⟨d, _, by omega, c_lots X, fun z m1 hz _ _ => ?_⟩)
      obtain ⟨rfl, rfl⟩ := hz
      exact ⟨fun _ => ⟨by rw [e], rfl⟩, fun c => absurd (show (k : Int) ≥ n by omega) c⟩
    | succ s ih =>
      intro k hk
      have hi : In n (k : Int) := ⟨by omega, by omega⟩
      have h1 := prd_le B (k := k + 1) (by omega)
      have h2 := pow10 (k := k + 1) (by omega)
      have e : prd br (k + 1) = prd br k * br k := rfl
      refine s_M_settledMany_4 _ _ (fun _ _ _ => ⟨d, _, by omega, c_lots X, fun z m1 hz _ _ => ?_⟩)
      obtain ⟨rfl, rfl⟩ := hz
      refine ⟨fun c => absurd c (by omega), fun _ => ⟨d, _, by omega, c_brimOf hn5 X hi, fun z m1 hz _ _ => ?_⟩⟩
      obtain ⟨rfl, rfl⟩ := hz
      have nx := ih (k + 1) (by omega)
      rw [e, show ((k + 1 : Nat) : Int) = (k : Int) + 1 by omega] at nx
      rw [e] at h1
      exact ⟨by omega, by omega, nx⟩
  exact loop n 0 (by omega)
theorem c_laySettled (B : BW n D W br) (X : BM n D W br m) {x : Int} (hx : 0 ≤ x) : CV l G Y_M_laySettled (d + 1) [.inr (.inr 70), .inl x] m (fun m' => Fr [93] m m' ∧ ∀ i, In n i → m' 93 i = lay br n x i) := by
  have hn5 := B.1
  have XF : ∀ m1, Fr [93] m m1 → BM n D W br m1 := fun m1 f => X.fro (S := [93]) (I := []) ⟨fun c hc _ => f c hc, fun i _ => by rw [f 70 (by decide)]⟩ (by decide) (by decide) (by decide) (by decide) (by decide)
  refine e_M_laySettled x (fun _ _ => ⟨d, _, by omega, c_lots X, fun z m1 hz _ _ => ?_⟩)
  obtain ⟨rfl, rfl⟩ := hz
  refine ⟨by omega, ?_⟩
  have loop : ∀ (k : Nat) (y : Int) (m1 : MM), k ≤ n → 0 ≤ y → Fr [93] m m1 → (∀ i, In n i → (k : Int) ≤ i → m1 93 i = lay br n x i) → (∀ i, In k i → lay br n x i = lay br k y i) → Wq l G false Y_M_laySettled (d + 1) (QV fun m' => Fr [93] m m' ∧ ∀ i, In n i → m' 93 i = lay br n x i) 9 [(0, .inr (.inr 70)), (2, .inl y), (3, .inl ((k : Int) - 1))] [] m1 := by
    intro k
    induction k with
    | zero =>
      intro y m1 hk y0 f h1 h2
      exact s_M_laySettled_9 _ _ (fun _ _ _ => ⟨fun _ => ⟨f, fun i hi => h1 i hi (by have := hi.1; omega)⟩, fun c => absurd (show ((0 : Nat) : Int) - 1 < 0 by decide) c⟩)
    | succ k ih =>
      intro y m1 hk y0 f h1 h2
      have hi : In n (k : Int) := ⟨by omega, by omega⟩
      have hb := B.br hi
      rw [show ((k + 1 : Nat) : Int) - 1 = (k : Int) by omega]
      refine s_M_laySettled_9 _ _ (fun _ _ _ => ⟨fun c => absurd c (by omega), fun _ => ⟨d, _, by omega, c_brimOf hn5 (XF m1 f) hi, fun z m2 hz _ _ => ?_⟩⟩)
      obtain ⟨rfl, rfl⟩ := hz
      refine ⟨by omega, by omega, ?_⟩
      intro m2 e2
      have f2 : Fr [93] m m2 := by rw [e2]; exact Fr_up f (by simp)
      refine ⟨d, _, by omega, c_brimOf hn5 (XF m2 f2) hi, fun z m3 hz _ _ => ?_⟩
      obtain ⟨rfl, rfl⟩ := hz
      rw [Int.tmod_eq_emod_of_nonneg y0] at e2
      rw [Int.tdiv_eq_ediv_of_nonneg y0]
      refine ⟨by omega, by omega, ?_⟩
      rw [show (k : Int) + -1 = (k : Int) - 1 by omega]
      refine ih (y / br k) m2 (by omega) (Int.ediv_nonneg y0 (by omega)) f2 (fun i hi2 hki => ?_) (fun i hi2 => ?_)
      · rw [e2, up_row]
        by_cases q : i = (k : Int)
        · rw [if_pos q, q, h2 k ⟨by omega, by omega⟩]
          exact (if_pos rfl).symm
        · rw [if_neg q]
          exact h1 i hi2 (by omega)
      · rw [h2 i ⟨hi2.1, by have := hi2.2; omega⟩]
        exact if_neg (by have := hi2.2; omega)
  exact loop n x m (Nat.le_refl _) hx Fr.rf (fun i hi h => by have := hi.2; omega) (fun _ _ => rfl)
theorem c_again (B : BW n D W br) (X : BM n D W br m) {h : Int → Int} (hh : ∀ i, In n i → m 93 i = h i) : CI l G Y_M_comesAgain (d + 2) [.inr (.inr 70)] m (fun z m' => Fro 70 [] [43] m m' ∧ (z = 0 ↔ ¬ Cag n D W br h)) := by
  refine (c_comesAgain (l := l) (G := G) (d := d) B X).imp (fun z m' hz => ?_)
  obtain ⟨f, K, L, hF, ez⟩ := hz
  refine ⟨f, ?_⟩
  have e := hF.cag B
  have e2 : Cag n D W br (m 93) ↔ Cag n D W br h := ⟨fun c => c.congr hh, fun c => c.congr (fun i hi => (hh i hi).symm)⟩
  rw [← e2, ← e, ez]
  by_cases q : K = n
  · rw [if_pos q]; exact ⟨fun g => absurd g (by decide), fun g => absurd q g⟩
  · rw [if_neg q]; exact ⟨fun _ => q, fun _ => rfl⟩
/-- the least level of those that come again -/
def LvR (n : Nat) (D : Int → Int) (W : Int → Int → Int) (br : Int → Int) (z : Int) : Prop := (∃ h, Stl br n h ∧ Cag n D W br h ∧ z = sm n h) ∧ ∀ h, Stl br n h → Cag n D W br h → z ≤ sm n h
theorem LvR.uniq {z y : Int} (a : LvR n D W br z) (c : LvR n D W br y) : z = y := by
  obtain ⟨⟨h, h1, h2, h3⟩, h4⟩ := a
  obtain ⟨⟨g, g1, g2, g3⟩, g4⟩ := c
  have := h4 g g1 g2
  have := g4 h h1 h2
  omega
theorem c_levelsM (B : BW n D W br) (X : BM n D W br m) {x : Int} : CI l G Y_M_levels (d + 3) [.inr (.inr 70), .inl x] m (fun z m' => Fro 70 [93] [43] m m' ∧ (x = 0 → LvR n D W br z) ∧ (x = 1 → z = sm n br - n) ∧ (¬ (0 ≤ x ∧ x ≤ 1) → z = -1)) := by
  have hn5 := B.1
  refine e_M_levels x (fun _ _ => ⟨d, _, by omega, c_isIn, fun z m1 hz _ _ => ?_⟩)
  obtain ⟨rfl, rfl⟩ := hz
  by_cases hx : 0 ≤ x ∧ x ≤ 1
  · rw [if_pos hx]
    refine ⟨fun _ => ?_, fun c => absurd (by decide) c⟩
    have cnt1 : ∀ t : Nat, sm t (fun _ => (1 : Int)) = t := by
      intro t
      induction t with
      | zero => rfl
      | succ t ih => show sm t _ + 1 = _; rw [ih]; omega
    have hb1 : ∀ i, In n i → 1 ≤ br i ∧ br i ≤ 10 := fun i hi => ⟨(B.br hi).1, B.br10 hi⟩
    have e1 : sm n (fun i => br i - 1) = sm n br - n := by rw [sm_sub, cnt1]
    have hsr := sm_bound (k := n) (f := fun i => br i - 1) (M := 10) (fun i hi => by have := hb1 i hi; show -10 ≤ br i - 1 ∧ br i - 1 ≤ 10; omega)
    have inner : ∀ (s : Nat) (v y : Int) (m1 : MM), x = 0 → y + s = prd br n → 0 ≤ y → Fro 70 [93] [43] m m1 → (∃ h, Stl br n h ∧ Cag n D W br h ∧ v = sm n h) → (∀ y', 0 ≤ y' → y' < y → Cag n D W br (lay br n y') → v ≤ sm n (lay br n y')) → Wq l G false Y_M_levels (d + 3) (QI fun z m' => Fro 70 [93] [43] m m' ∧ (x = 0 → LvR n D W br z) ∧ (x = 1 → z = sm n br - n) ∧ (¬ (0 ≤ x ∧ x ≤ 1) → z = -1)) 51 [(0, .inr (.inr 70)), (3, .inl v), (4, .inl y)] [] m1 := by
      intro s
      induction s with
      | zero =>
        intro v y m1 x0 hys y0 f ex1 lo
        have X1 := X.fro f (by decide) (by decide) (by decide) (by decide) (by decide)
        refine s_M_levels_51 _ _ (fun _ _ _ => ⟨d + 1, _, by omega, c_settledMany B X1, fun z m2 hz _ _ => ?_⟩)
        obtain ⟨rfl, rfl⟩ := hz
        refine ⟨fun _ => ⟨f, fun _ => ⟨ex1, fun h hS hC => ?_⟩, fun q => by omega, fun q => absurd hx q⟩, fun c => absurd (show y ≥ prd br n by omega) c⟩
        have hr := cod_rng hS
        have hl := lay_cod hS
        have := lo (cod br n h) hr.1 (by omega) (hC.congr (fun i hi => (hl i hi).symm))
        rw [sm_congr hl] at this
        exact this
      | succ s ih =>
        intro v y m1 x0 hys y0 f ex1 lo
        have hys2 : y + 1 + (s : Int) = prd br n := by omega
        have X1 := X.fro f (by decide) (by decide) (by decide) (by decide) (by decide)
        have hp := prd_le B (k := n) (Nat.le_refl _)
        have hp5 := pow10 hn5
        have hS := lay_rng (br := br) (k := n) (x := y) (fun i hi => (hb1 i hi).1) y0
        refine s_M_levels_51 _ _ (fun _ _ _ => ⟨d + 1, _, by omega, c_settledMany B X1, fun z m2 hz _ _ => ?_⟩)
        obtain ⟨rfl, rfl⟩ := hz
        refine ⟨fun c => absurd c (by omega), fun _ => ⟨d + 1, _, by omega, c_laySettled B X1 y0, fun m2 hm2 _ => ?_⟩⟩
        obtain ⟨f2, v2⟩ := hm2
        have f12 : Fro 70 [93] [43] m m2 := f.tr ⟨fun c hc _ => f2 c hc, fun i _ => by rw [f2 70 (by decide)]⟩
        have X2 := X.fro f12 (by decide) (by decide) (by decide) (by decide) (by decide)
        have r2 : ∀ i, In n i → -100000000 ≤ m2 93 i ∧ m2 93 i ≤ 100000000 := fun i hi => by
          rw [v2 i hi]
          have := hS i hi
          have := hb1 i hi
          omega
        refine ⟨d + 1, _, by omega, c_levelOf hn5 X2 r2, fun z m3 hz _ _ => ?_⟩
        obtain ⟨rfl, rfl⟩ := hz
        rw [sm_congr v2]
        have keep : ∀ m3, Fro 70 [93] [43] m m3 → (Cag n D W br (lay br n y) → v ≤ sm n (lay br n y)) → Wq l G false Y_M_levels (d + 3) (QI fun z m' => Fro 70 [93] [43] m m' ∧ (x = 0 → LvR n D W br z) ∧ (x = 1 → z = sm n br - n) ∧ (¬ (0 ≤ x ∧ x ≤ 1) → z = -1)) 51 [(0, .inr (.inr 70)), (3, .inl v), (4, .inl (y + 1))] [] m3 := fun m3 f3 hv => ih v (y + 1) m3 x0 hys2 (by omega) f3 ex1 (fun y' h0 h1 hC => by
          by_cases q : y' = y
          · rw [q] at hC ⊢; exact hv hC
          · exact lo y' h0 (by omega) hC)
        refine ⟨fun c => ⟨by omega, keep m2 f12 (fun _ => by omega)⟩, fun c => ⟨d + 2, _, by omega, c_again B X2 v2, fun z m3 hz _ _ => ?_⟩⟩
        obtain ⟨f3, hz⟩ := hz
        have f13 : Fro 70 [93] [43] m m3 := f12.tr (f3.mono (by simp) (by simp))
        refine ⟨fun c2 => ⟨by omega, keep m3 f13 (fun g => absurd g (hz.mp c2))⟩, fun c2 => ?_⟩
        have hC : Cag n D W br (lay br n y) := Classical.not_not.mp (fun g => c2 (hz.mpr g))
        have e93 : m3 93 = m2 93 := f3.1 93 (by decide) (by decide)
        have X3 := X.fro f13 (by decide) (by decide) (by decide) (by decide) (by decide)
        refine ⟨d + 1, _, by omega, c_levelOf hn5 X3 (by rw [e93]; exact r2), fun z m4 hz _ _ => ?_⟩
        obtain ⟨rfl, rfl⟩ := hz
        rw [e93, sm_congr v2]
        refine ⟨by omega, ih _ (y + 1) m3 x0 hys2 (by omega) f13 ⟨_, hS, hC, rfl⟩ (fun y' h0 h1 hC' => ?_)⟩
        by_cases q : y' = y
        · rw [q]; exact Int.le_refl _
        · have := lo y' h0 (by omega) hC'
          omega
    have loop : ∀ (s k : Nat), k + s = n → Wq l G false Y_M_levels (d + 3) (QI fun z m' => Fro 70 [93] [43] m m' ∧ (x = 0 → LvR n D W br z) ∧ (x = 1 → z = sm n br - n) ∧ (¬ (0 ≤ x ∧ x ≤ 1) → z = -1)) 15 [(0, .inr (.inr 70)), (1, .inl x), (2, .inl (sm k (fun i => br i - 1))), (3, .inl (k : Int))] [] m := by
      intro s
      induction s with
      | zero =>
        intro k hk
        have e : k = n := by omega
        subst e
        refine s_M_levels_15 _ _ _ (fun _ _ _ _ => ⟨d, _, by omega, c_lots X, fun z m1 hz _ _ => ?_⟩)
        obtain ⟨rfl, rfl⟩ := hz
        refine ⟨fun _ => ⟨fun c => ?_, fun c => ⟨Fro.rf, fun q => by omega, fun _ => e1, fun q => absurd hx q⟩⟩, fun c => absurd (Int.le_refl _) c⟩
        have hp := prd_le B (k := k) (Nat.le_refl _)
        exact inner (prd br k).toNat _ 0 m (by omega) (by omega) (Int.le_refl 0) Fro.rf ⟨fun i => br i - 1, fun i hi => by have := hb1 i hi; show 0 ≤ br i - 1 ∧ br i - 1 < br i; omega, cag_full B, rfl⟩ (fun y' h0 h1 => by omega)
      | succ s ih =>
        intro k hk
        have hi : In n (k : Int) := ⟨by omega, by omega⟩
        have hb := hb1 _ hi
        refine s_M_levels_15 _ _ _ (fun _ _ _ _ => ⟨d, _, by omega, c_lots X, fun z m1 hz _ _ => ?_⟩)
        obtain ⟨rfl, rfl⟩ := hz
        refine ⟨fun c => absurd c (by omega), fun _ => ⟨d, _, by omega, c_brimOf hn5 X hi, fun z m1 hz _ _ => ?_⟩⟩
        obtain ⟨rfl, rfl⟩ := hz
        have hs1 := sm_bound (k := k + 1) (f := fun i => br i - 1) (M := 10) (fun i hi2 => by have := hb1 i ⟨hi2.1, by have := hi2.2; omega⟩; show -10 ≤ br i - 1 ∧ br i - 1 ≤ 10; omega)
        have nx := ih (k + 1) (by omega)
        have es : sm (k + 1) (fun i => br i - 1) = sm k (fun i => br i - 1) + (br k - 1) := rfl
        rw [es] at nx hs1
        rw [show ((k + 1 : Nat) : Int) = (k : Int) + 1 by omega] at nx hs1
        exact ⟨by omega, by omega, by omega, nx⟩
    exact loop n 0 (by omega)
  · rw [if_neg hx]
    exact ⟨fun c => absurd rfl c, fun _ => ⟨Fro.rf, fun q => by omega, fun q => by omega, fun _ => rfl⟩⟩
theorem c_allBrims (B : BW n D W br) (hb : isB b) (X : BX n D W br b m) : CI l G Y_Board_allBrims (d + 1) [.inr (.inr b)] m (fun z m' => z = sm n br ∧ m = m') := by
  have hn5 := B.1
  have hl : q_lay (b + 4) = .inr (0, 5) := by rcases hb with rfl | rfl <;> rfl
  refine e_Board_allBrims b hb (fun _ => ⟨d, _, by omega, c_grainsOf hb hn5 X.1 hl (by decide) (by decide) (fun i hi => by rw [X.2.2.1 i hi]; have := B.br hi; have := B.br10 hi; omega), fun z m1 hz _ _ => ?_⟩)
  obtain ⟨rfl, rfl⟩ := hz
  exact ⟨sm_congr X.2.2.1, rfl⟩
theorem c_betweenPlates (B : BW n D W br) (hb : isB b) (X : BX n D W br b m) : CI l G Y_Board_betweenPlates (d + 2) [.inr (.inr b)] m (fun z m' => LvR n D W br z ∧ m = m') := by
  have hn5 := B.1
  have hl : q_lay (b + 3) = .inr (0, 5) := by rcases hb with rfl | rfl <;> rfl
  obtain ⟨h, h1, h2, h3⟩ := cag_least B
  have hs := sm_br B h1
  refine e_Board_betweenPlates b hb (fun _ => ⟨d + 1, _, by omega, c_allBrims B hb X, fun z m1 hz _ _ => ?_⟩)
  obtain ⟨rfl, rfl⟩ := hz
  refine ⟨d, _, by omega, c_grainsOf hb hn5 X.1 hl (by decide) (by decide) (fun i hi => by rw [X.2.1 i hi]; have := B.2.1 i hi; omega), fun z m1 hz _ _ => ?_⟩
  obtain ⟨rfl, rfl⟩ := hz
  rw [sm_congr X.2.1, ← h3]
  refine ⟨by omega, ⟨⟨h, h1, h2, ?_⟩, fun g _ g2 => ?_⟩, rfl⟩
  · rw [Int.tdiv_eq_ediv_of_nonneg (by omega)]; omega
  · have := g2.level B
    rw [Int.tdiv_eq_ediv_of_nonneg (by omega)]; omega
theorem c_levelsX (B : BW n D W br) (X : CX n D W br b m) {x : Int} : CI l G Y_S_levels (d + 3) [.inr (.inr 0), .inl x] m (fun z m' => m = m' ∧ (x = 0 → LvR n D W br z) ∧ (x = 1 → z = sm n br - n) ∧ (¬ (0 ≤ x ∧ x ≤ 1) → z = -1)) := by
  have hn5 := B.1
  have hsb := sm_bound (k := n) (f := br) (M := 10) (fun i hi => by have := B.br hi; have := B.br10 hi; omega)
  refine e_S_levels x (fun _ _ => ⟨fun c => ⟨fun c2 => ⟨rfl, fun q => absurd q c, fun q => absurd q c2, fun _ => rfl⟩, fun c2 => ⟨b, X.2.1, X.1, d + 1, _, by omega, c_allBrims B X.1 X.2.2, fun z m1 hz _ _ => ?_⟩⟩, fun c => ⟨b, X.2.1, X.1, d + 2, _, by omega, c_betweenPlates B X.1 X.2.2, fun z m1 hz _ _ => ?_⟩⟩)
  · obtain ⟨rfl, rfl⟩ := hz
    refine ⟨b, X.2.1, X.1, ?_⟩
    rw [X.2.2.1]
    exact ⟨by omega, rfl, fun q => absurd q c, fun _ => rfl, fun q => by omega⟩
  · obtain ⟨hz, rfl⟩ := hz
    exact ⟨rfl, fun _ => hz, fun q => by omega, fun q => by omega⟩
end Lay
