/-! rounds of both -/
theorem bit5_tab : ∀ b0 b1 b2 b3 b4 : Bool, ∀ i : Fin 5, bAnd (bShr (0 + (if b0 = true then (1 : Int) else 0) + (if b1 = true then 2 else 0) + (if b2 = true then 4 else 0) + (if b3 = true then 8 else 0) + (if b4 = true then 16 else 0)) (i.val : Int)) 1 = if (match i.val with | 0 => b0 | 1 => b1 | 2 => b2 | 3 => b3 | _ => b4) = true then 1 else 0 := by decide +kernel
theorem bs_bit {n : Nat} (hn : n ≤ 5) (p : Int → Bool) {i : Int} (hi : In n i) : bAnd (bShr (bs n p) i) 1 = if p i = true then 1 else 0 := by
  rw [bs_five hn p]
  have e : bs 5 (fun i => decide (i < (n : Int)) && p i) = 0 + (if (decide ((0 : Int) < (n : Int)) && p 0) = true then 1 else 0) + (if (decide ((1 : Int) < (n : Int)) && p 1) = true then 2 else 0) + (if (decide ((2 : Int) < (n : Int)) && p 2) = true then 4 else 0) + (if (decide ((3 : Int) < (n : Int)) && p 3) = true then 8 else 0) + (if (decide ((4 : Int) < (n : Int)) && p 4) = true then 16 else 0) := rfl
  rw [e]
  have hd : (decide (i < (n : Int)) && p i) = p i := by rw [decide_eq_true hi.2, Bool.true_and]
  have hi5 : i = 0 ∨ i = 1 ∨ i = 2 ∨ i = 3 ∨ i = 4 := by have := hi.1; have := hi.2; omega
  rcases hi5 with rfl | rfl | rfl | rfl | rfl
  · exact (bit5_tab _ _ _ _ _ ⟨0, by decide⟩).trans (by show (if (decide ((0 : Int) < (n : Int)) && p 0) = true then (1 : Int) else 0) = _; rw [hd])
  · exact (bit5_tab _ _ _ _ _ ⟨1, by decide⟩).trans (by show (if (decide ((1 : Int) < (n : Int)) && p 1) = true then (1 : Int) else 0) = _; rw [hd])
  · exact (bit5_tab _ _ _ _ _ ⟨2, by decide⟩).trans (by show (if (decide ((2 : Int) < (n : Int)) && p 2) = true then (1 : Int) else 0) = _; rw [hd])
  · exact (bit5_tab _ _ _ _ _ ⟨3, by decide⟩).trans (by show (if (decide ((3 : Int) < (n : Int)) && p 3) = true then (1 : Int) else 0) = _; rw [hd])
  · exact (bit5_tab _ _ _ _ _ ⟨4, by decide⟩).trans (by show (if (decide ((4 : Int) < (n : Int)) && p 4) = true then (1 : Int) else 0) = _; rw [hd])
/-- one toppling of each plate that is over -/
def uo (n : Nat) (br h : Int → Int) : Int → Int := fun j => if In n j ∧ br j ≤ h j then 1 else 0
/-- what has toppled behind so many rounds -/
def rU (n : Nat) (W : Int → Int → Int) (br g : Int → Int) : Nat → Int → Int
  | 0 => fun _ => 0
  | k + 1 => fun j => rU n W br g k j + uo n br (fun i => g i - Lp n W br (rU n W br g k) i) j
/-- the heap behind so many rounds -/
def rH (n : Nat) (W : Int → Int → Int) (br g : Int → Int) (k : Nat) : Int → Int := fun i => g i - Lp n W br (rU n W br g k) i
def rV (n : Nat) (br h U : Int → Int) (i : Int) : Int → Int := fun j => U j + (if j < i then uo n br h j else 0)
def RndR (n : Nat) (W : Int → Int → Int) (br g : Int → Int) (K : Nat) (z : Int) : Prop :=
  (∀ j : Nat, j < K → ovr n br (rH n W br g j) ≠ 0) ∧ ovr n br (rH n W br g K) = 0 ∧ z = K
section Rnd
variable {l : Launch} {G : GT} {d : Nat} {m : MM} {b : Nat} {n : Nat} {D : Int → Int} {W : Int → Int → Int} {br : Int → Int}
theorem uo_congr {g h : Int → Int} (e : ∀ i, In n i → g i = h i) : uo n br g = uo n br h := by
  funext j
  unfold uo
  by_cases hj : In n j
  · rw [e j hj]
  · rw [if_neg (fun q => hj q.1), if_neg (fun q => hj q.1)]
theorem rU_congr {g h : Int → Int} (e : ∀ i, In n i → g i = h i) : ∀ k, rU n W br g k = rU n W br h k
  | 0 => rfl
  | k + 1 => by
    have ih := rU_congr e k
    funext j
    show rU n W br g k j + uo n br (fun i => g i - Lp n W br (rU n W br g k) i) j = rU n W br h k j + uo n br (fun i => h i - Lp n W br (rU n W br h k) i) j
    rw [ih, uo_congr (fun i hi => by rw [e i hi])]
theorem RndR.uniq {g h : Int → Int} {K K' : Nat} {z z' : Int} (e : ∀ i, In n i → g i = h i) (h1 : RndR n W br g K z) (h2 : RndR n W br h K' z') : z = z' := by
  obtain ⟨a1, b1, c1⟩ := h1
  obtain ⟨a2, b2, c2⟩ := h2
  have ho : ∀ j, ovr n br (rH n W br g j) = ovr n br (rH n W br h j) := fun j => ovr_congr (fun i hi => by show g i - Lp n W br (rU n W br g j) i = h i - Lp n W br (rU n W br h j) i; rw [rU_congr e j, e i hi])
  rw [c1, c2]
  rcases Nat.lt_trichotomy K K' with q | q | q
  · exact absurd (by rw [← ho K]; exact b1) (a2 K q)
  · rw [q]
  · exact absurd (by rw [ho K']; exact b2) (a1 K' q)
theorem rV_zero {h U : Int → Int} : rV n br h U 0 = U := by
  funext j
  show U j + (if j < 0 then uo n br h j else 0) = U j
  by_cases e : j < 0
  · rw [if_pos e]
    unfold uo
    rw [if_neg (fun q => by have := q.1.1; omega)]
    omega
  · rw [if_neg e]; omega
theorem rV_end {h U : Int → Int} : rV n br h U (n : Int) = fun j => U j + uo n br h j := by
  funext j
  show U j + (if j < (n : Int) then uo n br h j else 0) = _
  by_cases e : j < (n : Int)
  · rw [if_pos e]
  · rw [if_neg e]
    unfold uo
    rw [if_neg (fun q => e q.1.2)]
theorem rV_no {h U : Int → Int} {i : Int} (c : ¬ br i ≤ h i) : rV n br h U (i + 1) = rV n br h U i := by
  funext j
  show U j + (if j < i + 1 then uo n br h j else 0) = U j + (if j < i then uo n br h j else 0)
  by_cases e : j = i
  · have : uo n br h j = 0 := by
      unfold uo
      rw [if_neg (fun q => c (by rw [← e]; exact q.2))]
    rw [this, ite_self, ite_self]
  · by_cases e2 : j < i
    · rw [if_pos e2, if_pos (by omega)]
    · rw [if_neg e2, if_neg (by omega)]
theorem rV_yes {h U : Int → Int} {i : Int} (hi : In n i) (c : br i ≤ h i) : rV n br h U (i + 1) = fun j => rV n br h U i j + (if j = i then 1 else 0) := by
  funext j
  show U j + (if j < i + 1 then uo n br h j else 0) = U j + (if j < i then uo n br h j else 0) + (if j = i then 1 else 0)
  by_cases e : j = i
  · have : uo n br h j = 1 := by
      unfold uo
      rw [e, if_pos ⟨hi, c⟩]
    rw [this, if_pos (by omega), if_neg (by omega), if_pos e]
    omega
  · rw [if_neg e]
    by_cases e2 : j < i
    · rw [if_pos e2, if_pos (by omega)]; omega
    · rw [if_neg e2, if_neg (by omega)]; omega
/-- in a round, before its plate i -/
def RdV (n : Nat) (W : Int → Int → Int) (br g : Int → Int) (k : Nat) (i : Int) : Prop :=
  Way n W br g (rV n br (rH n W br g k) (rU n W br g k) i) ∧ ∀ t, In n t → i ≤ t → rH n W br g k t ≤ g t - Lp n W br (rV n br (rH n W br g k) (rU n W br g k) i) t
theorem RdV.no {g : Int → Int} {k : Nat} {i : Int} (c : ¬ br i ≤ rH n W br g k i) (h : RdV n W br g k i) : RdV n W br g k (i + 1) := by
  unfold RdV
  rw [rV_no c]
  exact ⟨h.1, fun t ht hit => h.2 t ht (by omega)⟩
theorem RdV.yes (B : BW n D W br) {g : Int → Int} {k : Nat} {i : Int} (hi : In n i) (c : br i ≤ rH n W br g k i) (h : RdV n W br g k i) : RdV n W br g k (i + 1) := by
  unfold RdV
  rw [rV_yes hi c]
  have h1 := h.2 i hi (Int.le_refl _)
  refine ⟨h.1.tip B hi (by decide) (by omega), fun t ht hit => ?_⟩
  rw [Lp_add]
  have e := Lp_u1 B hi ht
  rw [if_neg (show ¬ t = i by omega)] at e
  have e2 : Lp n W br (fun j => if j = i then 1 else 0) t = 0 - W i t * 1 := e
  rw [e2]
  have := (B.2.2.1 i t hi ht).1
  have := h.2 t ht (by omega)
  omega
theorem RdV.start {g : Int → Int} {k : Nat} (h : Way n W br g (rU n W br g k)) : RdV n W br g k 0 := by
  unfold RdV
  rw [rV_zero]
  exact ⟨h, fun t ht _ => Int.le_refl _⟩
theorem RdV.fin {g : Int → Int} {k : Nat} (h : RdV n W br g k n) : Way n W br g (rU n W br g (k + 1)) := by
  have := h.1
  rw [rV_end] at this
  exact this
theorem rU_more (hn : n ≤ 5) {g : Int → Int} {k : Nat} (ho : ovr n br (rH n W br g k) ≠ 0) (h : (k : Int) ≤ sm n (rU n W br g k)) : ((k + 1 : Nat) : Int) ≤ sm n (rU n W br g (k + 1)) := by
  have e : sm n (rU n W br g (k + 1)) = sm n (rU n W br g k) + sm n (uo n br (rH n W br g k)) := sm_add n _ _
  obtain ⟨hp, h2, -⟩ := bs_lsb hn (fun i => decide (br i ≤ rH n W br g k i)) ho
  have h2' := of_decide_eq_true h2
  have h3 := sm_term (n := n) (f := uo n br (rH n W br g k)) (fun i _ => by unfold uo; split <;> decide) _ hp
  have h4 : uo n br (rH n W br g k) (lsb (bs n (fun i => decide (br i ≤ rH n W br g k i)))) = 1 := by
    unfold uo
    rw [if_pos ⟨hp, h2'⟩]
  rw [h4] at h3
  omega
theorem c_roundsX (B : BW n D W br) (X : CX n D W br b m) (hg : ∀ i, In n i → 0 ≤ m 25 i) {N : Int} (hN : sm n (m 25) ≤ N) (hN3 : N ≤ 30000) : CI l G Y_S_rounds (d + 2) [.inr (.inr 0)] m (fun z m' => Fr [32, 33, 34] m m' ∧ ∃ K, RndR n W br (m 25) K z) := by
  have hn5 := B.1
  refine e_S_rounds (fun _ => ⟨d, _, by omega, c_take (a := 32) (Or.inl rfl) (h := 25) (len := 8) rfl (by decide) (by decide) (by decide) (by decide), fun m0 h0 _ => ?_⟩)
  obtain ⟨f0, t1, t2, t3⟩ := h0
  have t1' : ∀ i, In n i → m0 33 i = m 25 i := fun i hi => (t1 i hi.1 (by omega)).1
  have t4 : ∀ i, In n i → m0 34 i = 0 := fun i hi => (t1 i hi.1 (by omega)).2
  have outer : ∀ (f k : Nat) (m1 : MM), k + f = 900001 → (k : Int) ≤ sm n (rU n W br (m 25) k) → CalmQ n D W br 32 (rU n W br (m 25) k) m0 m1 → Way n W br (m 25) (rU n W br (m 25) k) → (∀ j : Nat, j < k → ovr n br (rH n W br (m 25) j) ≠ 0) →
      Wq l G false Y_S_rounds (d + 2) (QI fun z m' => Fr [32, 33, 34] m m' ∧ ∃ K, RndR n W br (m 25) K z) 28 [(0, .inr (.inr 0)), (1, .inl (k : Int)), (2, .inl (ovr n br (rH n W br (m 25) k)))] [] m1 := by
    intro f
    induction f with
    | zero =>
      intro k m1 hk hs hc hw hj
      have := hw.sum B hg hN
      omega
    | succ f ih =>
      intro k m1 hk hs hc hw hj
      refine s_S_rounds_28 _ _ (fun _ _ _ => ⟨fun c => ⟨f0.tr hc.1, k, hj, c, rfl⟩, fun c => ⟨fun c2 => absurd c2 (by omega), fun _ => ?_⟩⟩)
      have inner : ∀ (j : Nat) (i : Int) (m2 : MM), i + j = n → 0 ≤ i → CalmQ n D W br 32 (rV n br (rH n W br (m 25) k) (rU n W br (m 25) k) i) m0 m2 → RdV n W br (m 25) k i →
          Wq l G false Y_S_rounds (d + 2) (QI fun z m' => Fr [32, 33, 34] m m' ∧ ∃ K, RndR n W br (m 25) K z) 40 [(0, .inr (.inr 0)), (1, .inl (k : Int)), (2, .inl (ovr n br (rH n W br (m 25) k))), (3, .inl i)] [] m2 := by
        intro j
        induction j with
        | zero =>
          intro i m2 hij h0 hc2 hr
          have X2 := X.fr (f0.tr hc2.1) (by decide) (by decide)
          have hin : i = (n : Int) := by omega
          rw [hin] at hc2 hr
          rw [rV_end] at hc2
          refine s_S_rounds_40 _ _ _ (fun _ _ _ _ => ⟨b, X2.2.1, X2.1, fun _ => ⟨by omega, b, X2.2.1, X2.1, d, _, by omega, c_overfull X2.1 hn5 X2.2.2 (h := 33) (len := 5) rfl (by decide) (by decide), fun z m3 hz _ _ => ?_⟩, fun c => absurd (show i ≥ m2 b 0 by rw [X2.2.2.1]; omega) c⟩)
          obtain ⟨rfl, rfl⟩ := hz
          have e : bs n (fun i => decide (br i ≤ m2 33 i)) = ovr n br (rH n W br (m 25) (k + 1)) := ovr_congr (fun i hi => (hc2.2.1 i hi).trans (by show m0 33 i - _ = m 25 i - _; rw [t1' i hi]; rfl))
          rw [e]
          exact ih (k + 1) m2 (by omega) (rU_more hn5 c hs) hc2 hr.fin (fun j hj2 => by
            by_cases e2 : j = k
            · rw [e2]; exact c
            · exact hj j (by omega))
        | succ j ihj =>
          intro i m2 hij h0 hc2 hr
          have hi : In n i := by omega
          have X2 := X.fr (f0.tr hc2.1) (by decide) (by decide)
          have hbit := bs_bit hn5 (fun i => decide (br i ≤ rH n W br (m 25) k i)) hi
          have hbit' : bAnd (bShr (ovr n br (rH n W br (m 25) k)) i) 1 = if decide (br i ≤ rH n W br (m 25) k i) = true then 1 else 0 := hbit
          refine s_S_rounds_40 _ _ _ (fun _ _ _ _ => ⟨b, X2.2.1, X2.1, fun c => absurd c (by rw [X2.2.2.1]; omega), fun _ => ⟨fun c2 => ⟨by omega, ?_⟩, fun c2 => ⟨b, X2.2.1, X2.1, ?_⟩⟩⟩)
          · rw [hbit'] at c2
            have c3 : ¬ br i ≤ rH n W br (m 25) k i := fun q => by rw [decide_eq_true q] at c2; exact absurd c2 (by decide)
            exact ihj (i + 1) m2 (by omega) (by omega) (by rw [rV_no c3]; exact hc2) (hr.no c3)
          · rw [hbit'] at c2
            have c3 : br i ≤ rH n W br (m 25) k i := Classical.byContradiction (fun q => by rw [decide_eq_false q] at c2; exact absurd rfl c2)
            have hsum := hr.1.sum B hg hN
            have hs0 := sm_nonneg hr.1.1
            have hu : ∀ t, In n t → 0 ≤ rV n br (rH n W br (m 25) k) (rU n W br (m 25) k) i t ∧ rV n br (rH n W br (m 25) k) (rU n W br (m 25) k) i t ≤ 900000 := fun t ht => ⟨hr.1.1 t ht, by have := sm_term hr.1.1 t ht; omega⟩
            have hds : 0 ≤ sm n (fun t => D t * rV n br (rH n W br (m 25) k) (rU n W br (m 25) k) i t) ∧ sm n (fun t => D t * rV n br (rH n W br (m 25) k) (rU n W br (m 25) k) i t) ≤ 2 * sm n (rV n br (rH n W br (m 25) k) (rU n W br (m 25) k) i) := by
              rw [← sm_mul]
              exact ⟨sm_nonneg (fun t ht => Int.mul_nonneg (B.2.1 t ht).1 (hu t ht).1), sm_le (fun t ht => Int.mul_le_mul_of_nonneg_right (B.2.1 t ht).2 (hu t ht).1)⟩
            have T : CV l G Y_Sand_tip (d + 1) [.inr (.inr 32), .inr (.inr b), .inl i, .inl 1] m2 (TipQ n D W br 32 i 1 m2) := by
              refine c_tip (Or.inl rfl) X2.1 B X2.2.2 hi (by decide) (fun t ht => ?_) ?_ ?_ ?_
              · show -1000000000 ≤ m2 33 t ∧ m2 33 t ≤ 1000000000
                have e : m2 33 t = m 25 t - Lp n W br (rV n br (rH n W br (m 25) k) (rU n W br (m 25) k) i) t := (hc2.2.1 t ht).trans (by show m0 33 t - _ = _; rw [t1' t ht])
                have := hr.1.cur B hN t ht
                have := hr.1.2.1 t ht
                omega
              · show -1000000000 ≤ m2 34 i ∧ m2 34 i ≤ 1000000000
                have e : m2 34 i = 0 + rV n br (rH n W br (m 25) k) (rU n W br (m 25) k) i i := (hc2.2.2.2.1 i hi).trans (by show m0 34 i + _ = _; rw [t4 i hi])
                have := hu i hi
                omega
              · rw [hc2.2.2.2.2.2.1, t2]; omega
              · rw [hc2.2.2.2.2.2.2, t3]; omega
            refine ⟨d + 1, _, by omega, T, fun m3 ht _ => ⟨by omega, ihj (i + 1) m3 (by omega) (by omega) ?_ (hr.yes B hi c3)⟩⟩
            rw [rV_yes hi c3]
            exact hc2.tip B hi ht
      exact inner n 0 m1 (by omega) (by omega) (by rw [rV_zero]; exact hc) (RdV.start hw)
  have X0 := X.fr f0 (by decide) (by decide)
  refine ⟨b, X0.2.1, X0.1, d, _, by omega, c_overfull X0.1 hn5 X0.2.2 (h := 33) (len := 5) rfl (by decide) (by decide), fun z m3 hz _ _ => ?_⟩
  obtain ⟨rfl, rfl⟩ := hz
  have e : bs n (fun i => decide (br i ≤ m0 33 i)) = ovr n br (rH n W br (m 25) 0) := ovr_congr (fun i hi => by
    show m0 33 i = m 25 i - Lp n W br (fun _ => 0) i
    have hz := (CalmQ.start (n := n) (D := D) (W := W) (br := br) (a := 32) m0).2.1 i hi
    have hz' : m0 33 i = m0 33 i - Lp n W br (fun _ => 0) i := hz
    rw [← t1' i hi]
    exact hz')
  rw [e]
  exact outer 900001 0 m0 (by omega) (sm_nonneg (fun _ _ => Int.le_refl 0)) (CalmQ.start m0) (Way.start hg) (fun j hj => absurd hj (by omega))
theorem c_roundsM (B : BW n D W br) (X : BM n D W br m) (hg : ∀ i, In n i → 0 ≤ m 90 i) {N : Int} (hN : sm n (m 90) ≤ N) (hN3 : N ≤ 30000) : CI l G Y_M_rounds (d + 2) [.inr (.inr 70)] m (fun z m' => Fro 70 [93, 94] [41] m m' ∧ ∃ K, RndR n W br (m 90) K z) := by
  have hn5 := B.1
  refine e_M_rounds (fun _ => ⟨d + 1, _, by omega, c_layNow hn5 X, fun m0 h0 _ => ?_⟩)
  obtain ⟨f0, g0, -⟩ := h0
  have outer : ∀ (f k : Nat) (m1 : MM), k + f = 900001 → (k : Int) ≤ sm n (rU n W br (m 90) k) → Fro 70 [93, 94] [41] m m1 → (∀ i, In n i → m1 93 i = rH n W br (m 90) k i) → Way n W br (m 90) (rU n W br (m 90) k) → (∀ j : Nat, j < k → ovr n br (rH n W br (m 90) j) ≠ 0) →
      Wq l G false Y_M_rounds (d + 2) (QI fun z m' => Fro 70 [93, 94] [41] m m' ∧ ∃ K, RndR n W br (m 90) K z) 6 [(0, .inr (.inr 70)), (1, .inl (k : Int))] [] m1 := by
    intro f
    induction f with
    | zero =>
      intro k m1 hk hs hf hh hw hj
      have := hw.sum B hg hN
      omega
    | succ f ih =>
      intro k m1 hk hs hf hh hw hj
      have X1 := X.fro hf (by decide) (by decide) (by decide) (by decide) (by decide)
      refine s_M_rounds_6 _ (fun _ _ => ⟨d + 1, _, by omega, c_leastOver hn5 X1, fun z m2 hz _ _ => ?_⟩)
      obtain ⟨rfl, hz⟩ := hz
      have h6 := lst_ovr hn5 hz
      rw [ovr_congr (br := br) hh] at h6
      refine ⟨fun c => ⟨hf, k, hj, h6.1.mp c, rfl⟩, fun c => ?_⟩
      have ho : ovr n br (rH n W br (m 90) k) ≠ 0 := fun q => c (h6.1.mpr q)
      have inner : ∀ (j : Nat) (i : Int) (m2 : MM), i + j = n → 0 ≤ i → Fro 70 [93, 94] [41] m m2 → (∀ t, In n t → m2 93 t = m 90 t - Lp n W br (rV n br (rH n W br (m 90) k) (rU n W br (m 90) k) i) t) → RdV n W br (m 90) k i →
          Wq l G false Y_M_rounds (d + 2) (QI fun z m' => Fro 70 [93, 94] [41] m m' ∧ ∃ K, RndR n W br (m 90) K z) 53 [(0, .inr (.inr 70)), (1, .inl (k : Int)), (2, .inl (ovr n br (rH n W br (m 90) k))), (3, .inl i)] [] m2 := by
        intro j
        induction j with
        | zero =>
          intro i m2 hij h0 hf2 hc2 hr
          have X2 := X.fro hf2 (by decide) (by decide) (by decide) (by decide) (by decide)
          have hin : i = (n : Int) := by omega
          rw [hin] at hc2 hr
          rw [rV_end] at hc2
          refine s_M_rounds_53 _ _ _ (fun _ _ _ _ => ⟨d, _, by omega, c_lots X2, fun z m3 hz _ _ => ?_⟩)
          obtain ⟨rfl, rfl⟩ := hz
          exact ⟨fun _ => ⟨by omega, ih (k + 1) m2 (by omega) (rU_more hn5 ho hs) hf2 hc2 hr.fin (fun j hj2 => by
            by_cases e2 : j = k
            · rw [e2]; exact ho
            · exact hj j (by omega))⟩, fun c => absurd (show i ≥ (n : Int) by omega) c⟩
        | succ j ihj =>
          intro i m2 hij h0 hf2 hc2 hr
          have hi : In n i := by omega
          have X2 := X.fro hf2 (by decide) (by decide) (by decide) (by decide) (by decide)
          have hbit := bs_bit hn5 (fun i => decide (br i ≤ rH n W br (m 90) k i)) hi
          have hbit' : bt (ovr n br (rH n W br (m 90) k)) i = if decide (br i ≤ rH n W br (m 90) k i) = true then 1 else 0 := hbit
          refine s_M_rounds_53 _ _ _ (fun _ _ _ _ => ⟨d, _, by omega, c_lots X2, fun z m3 hz _ _ => ?_⟩)
          obtain ⟨rfl, rfl⟩ := hz
          refine ⟨fun c => absurd c (by omega), fun _ => ⟨d, _, by omega, c_bit, fun z m3 hz _ _ => ?_⟩⟩
          obtain ⟨rfl, rfl⟩ := hz
          rw [hbit']
          by_cases c3 : br i ≤ rH n W br (m 90) k i
          · rw [decide_eq_true c3, if_pos rfl, if_pos rfl]
            have T : CV l G Y_M_toppleIn (d + 1) [.inr (.inr 70), .inl i, .inl 1] m2 (TopW n D W br i 1 m2) := by
              refine c_toppleW B X2 hi (by decide) (fun t ht => ?_)
              rw [hc2 t ht]
              have := hr.1.cur B hN t ht
              have := hr.1.2.1 t ht
              omega
            refine ⟨fun c => absurd c (by decide), fun _ => ⟨d + 1, _, by omega, T, fun m3 ht _ => ⟨by omega, ihj (i + 1) m3 (by omega) (by omega) (hf2.tr ht.1) (fun t htn => ?_) (hr.yes B hi c3)⟩⟩⟩
            rw [rV_yes hi c3, Lp_add, ht.2.1 t htn, hc2 t htn]
            have e := Lp_u1 B hi htn
            have e2 : Lp n W br (fun j => if j = i then 1 else 0) t = (if t = i then br i * 1 else 0) - W i t * 1 := e
            rw [e2]
            omega
          · rw [decide_eq_false c3, if_neg (show ¬ false = true by decide), if_neg (show ¬ (0 : Int) = 1 by decide)]
            exact ⟨fun _ => ⟨by omega, ihj (i + 1) m2 (by omega) (by omega) hf2 (by rw [rV_no c3]; exact hc2) (hr.no c3)⟩, fun c => absurd rfl c⟩
      have sets : ∀ (j i : Nat), i + j = n → Wq l G false Y_M_rounds (d + 2) (QI fun z m' => Fro 70 [93, 94] [41] m m' ∧ ∃ K, RndR n W br (m 90) K z) 17 [(0, .inr (.inr 70)), (1, .inl (k : Int)), (2, .inl (bs i (fun i => decide (br i ≤ rH n W br (m 90) k i)))), (3, .inl (i : Int))] [] m1 := by
        intro j
        induction j with
        | zero =>
          intro i hij
          refine s_M_rounds_17 _ _ _ (fun _ _ _ _ => ⟨d, _, by omega, c_lots X1, fun z m3 hz _ _ => ?_⟩)
          obtain ⟨rfl, rfl⟩ := hz
          refine ⟨fun _ => ?_, fun c => absurd (show (i : Int) ≥ n by omega) c⟩
          have e : i = n := by omega
          rw [e]
          exact inner n 0 m1 (by omega) (by omega) hf (by rw [rV_zero]; exact hh) (RdV.start hw)
        | succ j ihj =>
          intro i hij
          have hi : In n (i : Int) := by omega
          refine s_M_rounds_17 _ _ _ (fun _ _ _ _ => ⟨d, _, by omega, c_lots X1, fun z m3 hz _ _ => ?_⟩)
          obtain ⟨rfl, rfl⟩ := hz
          refine ⟨fun c => absurd c (by omega), fun _ => ⟨by omega, d, _, by omega, c_brimOf hn5 X1 hi, fun z m3 hz _ _ => ?_⟩⟩
          obtain ⟨rfl, rfl⟩ := hz
          rw [hh i hi]
          refine ⟨fun c => ⟨by omega, ?_⟩, fun c => ⟨by omega, ?_⟩⟩
          · have := ihj (i + 1) (by omega)
            rw [← bs_no (k := i) (by simp only [decide_eq_true_eq]; omega)] at this
            exact this
          · rw [bs_yes (k := i) (by omega) (by simp only [decide_eq_true_eq]; omega)]
            exact ihj (i + 1) (by omega)
      exact sets n 0 (by omega)
  have hst := (CalmQ.start (n := n) (D := D) (W := W) (br := br) (a := 92) m0).2.1
  exact outer 900001 0 m0 (by omega) (sm_nonneg (fun _ _ => Int.le_refl 0)) (f0.mono (by simp) (by simp)) (fun i hi => by
    show m0 93 i = m 90 i - Lp n W br (fun _ => 0) i
    rw [← g0 i hi]
    exact hst i hi) (Way.start hg) (fun j hj => absurd hj (by omega))
end Rnd
