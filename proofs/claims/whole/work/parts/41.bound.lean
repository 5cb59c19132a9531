theorem Lp_alt {n : Nat} {D : Int → Int} {W : Int → Int → Int} {br u : Int → Int} (B : BW n D W br) {i : Int} (hi : In n i) : Lp n W br u i = D i * u i + sm n (fun k => W i k * (u i - u k)) := by
  obtain ⟨-, -, -, -, hb, -⟩ := B
  unfold Lp
  have e : sm n (fun k => W i k * (u i - u k)) = u i * sm n (W i) - sm n (fun k => W i k * u k) := by
    rw [← sm_mul, ← sm_sub]
    exact sm_congr (fun k _ => by rw [Int.mul_sub, Int.mul_comm (u i)])
  rw [e, hb i hi, Int.add_mul, Int.mul_comm (u i)]
  omega
theorem sm_two {n : Nat} {f : Int → Int} (h : ∀ i, In n i → 0 ≤ f i) {i j : Int} (hi : In n i) (hj : In n j) (hij : i ≠ j) : f i + f j ≤ sm n f := by
  have h1 : f j ≤ sm n (fun k => if k = i then 0 else f k) := by
    have := sm_term (n := n) (f := fun k => if k = i then 0 else f k) (fun k hk => by
      have := h k hk
      show 0 ≤ if k = i then 0 else f k
      split <;> omega) j hj
    have e : (if j = i then 0 else f j) = f j := if_neg (Ne.symm hij)
    rw [← e]; exact this
  have h2 : sm n f = sm n (fun k => if k = i then 0 else f k) + sm n (fun k => if k = i then f i else 0) := by
    rw [← sm_add]
    exact sm_congr (fun k _ => by
      by_cases e : k = i
      · subst e; simp
      · simp [e])
  rw [sm_one, if_pos hi] at h2
  omega
theorem neg_sm (n : Nat) (f : Int → Int) : sm n (fun i => - f i) = - sm n f := by
  have := sm_mul n (-1) f
  have e : sm n (fun i => - f i) = sm n (fun i => -1 * f i) := sm_congr (fun i _ => by omega)
  rw [e, this]; omega
/-- topplings that leave no plate below 0, held by what there was: from plate to plate, and to the drain -/
theorem lip {n : Nat} {D : Int → Int} {W : Int → Int → Int} {br g u : Int → Int} (B : BW n D W br) (hu : ∀ i, In n i → 0 ≤ u i) (hc : ∀ i, In n i → 0 ≤ g i - Lp n W br u i) (hg : ∀ i, In n i → 0 ≤ g i) {N : Int} (hN : sm n g ≤ N) {i : Int} (hi : In n i) :
    (D i > 0 → u i ≤ N) ∧ ∀ j, In n j → W i j > 0 → u i - u j ≤ N := by
  have B0 := B
  obtain ⟨-, hD, hW, hd, hb, -⟩ := B
  let x : Int → Int := fun l => if u l ≥ u i then 1 else 0
  have hx : ∀ l, x l = 0 ∨ x l = 1 := fun l => by
    show (if u l ≥ u i then (1 : Int) else 0) = 0 ∨ (if u l ≥ u i then (1 : Int) else 0) = 1
    split <;> simp
  have hxm : ∀ l k, 0 ≤ (x l - x k) * (u l - u k) := fun l k => by
    show 0 ≤ ((if u l ≥ u i then (1 : Int) else 0) - (if u k ≥ u i then (1 : Int) else 0)) * (u l - u k)
    split <;> split
    · simp
    · have : 0 ≤ u l - u k := by omega
      simpa using this
    · have : u l - u k ≤ 0 := by omega
      rw [show ((0 : Int) - 1) = -1 from rfl]; omega
    · simp
  let F : Int → Int → Int := fun l k => (x l - x k) * (u l - u k) * W l k
  have hF : ∀ l k, In n l → In n k → 0 ≤ F l k := fun l k hl hk => Int.mul_nonneg (hxm l k) (hW l k hl hk).1
  let T : Int := sm n (fun l => sm n (fun k => x l * (W l k * (u l - u k))))
  have hT2 : sm n (fun l => sm n (fun k => F l k)) = T + T := by
    have e1 : sm n (fun l => sm n (fun k => x k * (W l k * (u l - u k)))) = - T := by
      rw [sm_swap]
      have : sm n (fun j => sm n (fun l => x j * (W l j * (u l - u j)))) = sm n (fun j => - sm n (fun l => x j * (W j l * (u j - u l)))) := sm_congr (fun j hj => by
        rw [← neg_sm]
        exact sm_congr (fun l hl => by
          rw [(hW l j hl hj).2.2]
          have : u l - u j = -(u j - u l) := by omega
          rw [this, Int.mul_neg, Int.mul_neg]))
      rw [this, neg_sm]
    have e2 : sm n (fun l => sm n (fun k => F l k)) = T - sm n (fun l => sm n (fun k => x k * (W l k * (u l - u k)))) := by
      show _ = sm n _ - sm n _
      rw [← sm_sub]
      exact sm_congr (fun l _ => by
        rw [← sm_sub]
        exact sm_congr (fun k _ => by
          show (x l - x k) * (u l - u k) * W l k = x l * (W l k * (u l - u k)) - x k * (W l k * (u l - u k))
          rw [← Int.sub_mul, Int.mul_comm (W l k), Int.mul_assoc]))
    rw [e2, e1]; omega
  have hrow : ∀ l, In n l → 0 ≤ sm n (fun k => F l k) := fun l hl => sm_nonneg (fun k hk => hF l k hl hk)
  have hT0 : 0 ≤ T := by
    have := sm_nonneg hrow
    rw [hT2] at this
    omega
  have hS : sm n (fun l => x l * Lp n W br u l) = sm n (fun l => x l * (D l * u l)) + T := by
    show _ = _ + sm n _
    rw [← sm_add]
    exact sm_congr (fun l hl => by
      rw [Lp_alt B0 hl, Int.mul_add, sm_mul])
  have hle : sm n (fun l => x l * Lp n W br u l) ≤ N := by
    refine Int.le_trans (sm_le (fun l hl => ?_)) hN
    have h1 := hc l hl
    have h2 := hg l hl
    rcases hx l with e | e <;> rw [e] <;> omega
  have hdn : ∀ l, In n l → 0 ≤ x l * (D l * u l) := fun l hl => Int.mul_nonneg (by rcases hx l with e | e <;> omega) (Int.mul_nonneg (hD l hl).1 (hu l hl))
  have hd0 := sm_nonneg hdn
  have hxi : x i = 1 := if_pos (Int.le_refl _)
  refine ⟨fun h => ?_, fun j hj h => ?_⟩
  · have h1 := sm_term hdn i hi
    have h2 : x i * (D i * u i) = D i * u i := by rw [hxi]; omega
    have h3 : u i ≤ D i * u i := by
      have := Int.mul_le_mul_of_nonneg_right (show 1 ≤ D i by omega) (hu i hi)
      omega
    have h1' : x i * (D i * u i) ≤ sm n (fun l => x l * (D l * u l)) := h1
    omega
  · rcases Int.lt_or_le (u j) (u i) with hlt | hge
    · have hij : i ≠ j := fun e => by subst e; omega
      have hxj : x j = 0 := if_neg (by omega)
      have r1 : u i - u j ≤ F i j := by
        show u i - u j ≤ (x i - x j) * (u i - u j) * W i j
        rw [hxi, hxj]
        have := Int.mul_le_mul_of_nonneg_left (show 1 ≤ W i j by omega) (show 0 ≤ (1 - 0) * (u i - u j) by omega)
        omega
      have r2 : u i - u j ≤ F j i := by
        show u i - u j ≤ (x j - x i) * (u j - u i) * W j i
        rw [hxi, hxj, ← (hW i j hi hj).2.2]
        have := Int.mul_le_mul_of_nonneg_left (show 1 ≤ W i j by omega) (show 0 ≤ ((0 : Int) - 1) * (u j - u i) by omega)
        omega
      have s1 := sm_term (f := fun k => F i k) (fun k hk => hF i k hi hk) j hj
      have s2 := sm_term (f := fun k => F j k) (fun k hk => hF j k hj hk) i hi
      have s3 := sm_two hrow hi hj hij
      rw [hT2] at s3
      have s1' : F i j ≤ sm n (fun k => F i k) := s1
      have s2' : F j i ≤ sm n (fun k => F j k) := s2
      have s3' : sm n (fun k => F i k) + sm n (fun k => F j k) ≤ T + T := s3
      omega
    · have : 0 ≤ N := by
        have := sm_nonneg hg
        omega
      omega
theorem Way.most {n : Nat} {D : Int → Int} {W : Int → Int → Int} {br g u : Int → Int} (B : BW n D W br) (h : Way n W br g u) (hg : ∀ i, In n i → 0 ≤ g i) {N : Int} (hN : sm n g ≤ N) : ∀ i, In n i → u i ≤ 6 * N := by
  have hN0 : 0 ≤ N := by have := sm_nonneg hg; omega
  obtain ⟨ds, hds⟩ := B.2.2.2.2.2
  have key : ∀ (k : Nat) (i : Int), In n i → ds i ≤ k → u i ≤ ((k : Int) + 1) * N := by
    intro k
    induction k with
    | zero =>
      intro i hi hk
      rcases (hds i hi).2 with h1 | ⟨j, hj, -, h2⟩
      · have := (lip B h.1 h.2.1 hg hN hi).1 h1
        simpa using this
      · omega
    | succ k ih =>
      intro i hi hk
      have e : (((k + 1 : Nat) : Int) + 1) * N = ((k : Int) + 1) * N + N := by
        rw [show (((k + 1 : Nat) : Int) + 1) = ((k : Int) + 1) + 1 by omega, Int.add_mul _ 1 N, Int.one_mul]
      have hkN : 0 ≤ ((k : Int) + 1) * N := Int.mul_nonneg (by omega) hN0
      rcases (hds i hi).2 with h1 | ⟨j, hj, hw, h2⟩
      · have := (lip B h.1 h.2.1 hg hN hi).1 h1
        omega
      · have h3 := (lip B h.1 h.2.1 hg hN hi).2 j hj hw
        have h4 := ih j hj (by omega)
        omega
  intro i hi
  have := key 5 i hi (hds i hi).1
  omega
theorem Way.sum {n : Nat} {D : Int → Int} {W : Int → Int → Int} {br g u : Int → Int} (B : BW n D W br) (h : Way n W br g u) (hg : ∀ i, In n i → 0 ≤ g i) {N : Int} (hN : sm n g ≤ N) : sm n u ≤ 30 * N := by
  have hN0 : 0 ≤ N := by have := sm_nonneg hg; omega
  have h1 := sm_le (n := n) (f := u) (g := fun _ => 6 * N) (h.most B hg hN)
  have h2 : ∀ k : Nat, sm k (fun _ => 6 * N) = (k : Int) * (6 * N) := by
    intro k
    induction k with
    | zero => show (0 : Int) = _; simp
    | succ k ih =>
      show sm k _ + 6 * N = _
      rw [ih, show (((k + 1 : Nat) : Int)) = (k : Int) + 1 by omega, Int.add_mul, Int.one_mul]
  rw [h2] at h1
  have h3 : (n : Int) * (6 * N) ≤ 5 * (6 * N) := Int.mul_le_mul_of_nonneg_right (by have := B.1; omega) (by omega)
  omega
theorem argmin : ∀ (n : Nat) (f : Int → Int), 0 < n → ∃ i, In n i ∧ ∀ j, In n j → f i ≤ f j
  | 0, _, h => absurd h (Nat.lt_irrefl 0)
  | 1, f, _ => ⟨0, by omega, fun j hj => by
      have : j = 0 := by omega
      subst this; exact Int.le_refl _⟩
  | n + 2, f, _ => by
    obtain ⟨i, hi, h⟩ := argmin (n + 1) f (by omega)
    by_cases c : f i ≤ f ((n + 1 : Nat) : Int)
    · refine ⟨i, ⟨hi.1, by omega⟩, fun j hj => ?_⟩
      by_cases e : j = ((n + 1 : Nat) : Int)
      · rw [e]; exact c
      · exact h j ⟨hj.1, by omega⟩
    · refine ⟨((n + 1 : Nat) : Int), by omega, fun j hj => ?_⟩
      by_cases e : j = ((n + 1 : Nat) : Int)
      · rw [e]; exact Int.le_refl _
      · have := h j ⟨hj.1, by omega⟩
        omega
/-- what takes from no plate is below 0 nowhere -/
theorem minp {n : Nat} {D : Int → Int} {W : Int → Int → Int} {br w : Int → Int} (B : BW n D W br) (h : ∀ i, In n i → 0 ≤ Lp n W br w i) : ∀ i, In n i → 0 ≤ w i := by
  intro i0 h0
  rcases Int.lt_or_le (w i0) 0 with hneg | hok
  · exfalso
    obtain ⟨ds, hds⟩ := B.2.2.2.2.2
    obtain ⟨i, hi, hmin⟩ := argmin n (fun k => 6 * w k + ds k) (by omega)
    have hmin : ∀ j, In n j → 6 * w i + ds i ≤ 6 * w j + ds j := hmin
    have hwi : w i < 0 := by
      have := hmin i0 h0
      have := (hds i0 h0).1
      omega
    have hall : ∀ k, In n k → w i ≤ w k := fun k hk => by
      have := hmin k hk
      have := (hds k hk).1
      omega
    have hL := h i hi
    rw [Lp_alt B hi] at hL
    have hterm : ∀ k, In n k → 0 ≤ - (W i k * (w i - w k)) := fun k hk => by
      have h1 := Int.mul_nonneg (B.2.2.1 i k hi hk).1 (show 0 ≤ w k - w i by have := hall k hk; omega)
      have e : W i k * (w i - w k) = - (W i k * (w k - w i)) := by rw [← Int.mul_neg]; congr 1; omega
      omega
    have hsum := neg_sm n (fun k => W i k * (w i - w k))
    have hs0 := sm_nonneg hterm
    rw [hsum] at hs0
    rcases (hds i hi).2 with hd | ⟨j, hj, hw, hdj⟩
    · have : D i * w i ≤ -1 := by
        have := Int.mul_le_mul_of_nonpos_right (show 1 ≤ D i by omega) (show w i ≤ 0 by omega)
        omega
      omega
    · have h1 : w i < w j := by
        have := hmin j hj
        omega
      have h2 := sm_term hterm j hj
      rw [hsum] at h2
      have h3 : W i j * (w i - w j) ≤ -1 := by
        have := Int.mul_le_mul_of_nonpos_right (show 1 ≤ W i j by omega) (show w i - w j ≤ 0 by omega)
        omega
      have h4 : D i * w i ≤ 0 := Int.mul_nonpos_of_nonneg_of_nonpos (B.2.1 i hi).1 (by omega)
      have h2' : -(W i j * (w i - w j)) ≤ - sm n (fun k => W i k * (w i - w k)) := h2
      omega
  · exact hok
/-- two heaps that are one by lending, both full enough, settle to the same -/
theorem same_end {n : Nat} {D : Int → Int} {W : Int → Int → Int} {br X Y z u v : Int → Int} (B : BW n D W br) (hX : ∀ i, In n i → br i - 1 ≤ X i) (hY : ∀ i, In n i → br i - 1 ≤ Y i) (hz : ∀ i, In n i → Y i = X i - Lp n W br z i) (h1 : Stb n W br X u) (h2 : Stb n W br Y v) : ∀ i, In n i → X i - Lp n W br u i = Y i - Lp n W br v i := by
  have a1 : ∀ i, In n i → 0 ≤ u i - z i := minp (w := fun i => u i - z i) B (fun i hi => by
    rw [Lp_sub]
    have := h1.2.1 i hi
    have := hY i hi
    have := hz i hi
    omega)
  have a2 : ∀ i, In n i → 0 ≤ v i + z i := minp (w := fun i => v i + z i) B (fun i hi => by
    rw [Lp_add]
    have := h2.2.1 i hi
    have := hX i hi
    have := hz i hi
    omega)
  have b1 := h2.2.2 (fun i => u i - z i) a1 (fun i hi => by
    rw [Lp_sub]
    have := h1.2.1 i hi
    have := hz i hi
    omega)
  have b2 := h1.2.2 (fun i => v i + z i) a2 (fun i hi => by
    rw [Lp_add]
    have := h2.2.1 i hi
    have := hz i hi
    omega)
  intro i hi
  have e : ∀ j, In n j → v j = u j - z j := fun j hj => by
    have c1 : v j ≤ u j - z j := b1 j hj
    have c2 : u j ≤ v j + z j := b2 j hj
    omega
  rw [Lp_congr e i hi, Lp_sub, hz i hi]
  omega
