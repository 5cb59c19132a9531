section Ref4
variable {l : Launch} {G : GT} {d : Nat} {m : MM} {n : Nat} {D : Int → Int} {W : Int → Int → Int} {br : Int → Int}
theorem c_overM (B : BW n D W br) (X : BM n D W br m) : CI l G Y_M_over (d + 1) [.inr (.inr 70)] m (fun z m' => z = bs n (fun i => decide (br i ≤ m 90 i)) ∧ m = m') := by
  have hn5 := B.1
  refine e_M_over (fun _ => ?_)
  have loop : ∀ (j k : Nat), k + j = n → Wq l G false Y_M_over (d + 1) (QI fun z m' => z = bs n (fun i => decide (br i ≤ m 90 i)) ∧ m = m') 4 [(0, .inr (.inr 70)), (1, .inl (bs k (fun i => decide (br i ≤ m 90 i)))), (2, .inl k)] [] m := by
    intro j
    induction j with
    | zero =>
      intro k hk
      refine s_M_over_4 _ k (fun _ _ _ => ⟨d, _, Nat.lt_succ_self d, c_lots X, fun z m1 hz _ _ => ?_⟩)
      obtain ⟨rfl, rfl⟩ := hz
      exact ⟨fun _ => ⟨by rw [show k = n by omega], rfl⟩, fun c => absurd (show (k : Int) ≥ n by omega) c⟩
    | succ j ih =>
      intro k hk
      have hi : In n (k : Int) := by omega
      refine s_M_over_4 _ k (fun _ _ _ => ⟨d, _, Nat.lt_succ_self d, c_lots X, fun z m1 hz _ _ => ?_⟩)
      obtain ⟨rfl, rfl⟩ := hz
      rw [Int.zero_add]
      refine ⟨fun c => absurd c (by omega), fun _ => ⟨by omega, by omega, d, _, Nat.lt_succ_self d, c_brimOf hn5 X hi, fun z m1 hz _ _ => ?_⟩⟩
      obtain ⟨rfl, rfl⟩ := hz
      refine ⟨fun c => ⟨by omega, ?_⟩, fun c => ⟨by omega, ?_⟩⟩
      · have := ih (k + 1) (by omega)
        rw [← bs_no (k := k) (by simp only [decide_eq_true_eq]; omega)] at this
        exact this
      · rw [bs_yes (k := k) (by omega) (by simp only [decide_eq_true_eq]; omega)]
        exact ih (k + 1) (by omega)
  exact loop n 0 (by omega)
/-- the slide in the reference's rows -/
theorem c_goSlide (B : BW n D W br) (X : BM n D W br m) (hg : ∀ i, In n i → 0 ≤ m 90 i) {N : Int} (hN : sm n (m 90) ≤ N) (hN3 : N ≤ 1000000) {x : Int} (hx : In n x) : CI l G Y_M_goSlide (d + 4) [.inr (.inr 70), .inl x] m (fun z m' => Fro 70 [93, 94] [41] m m' ∧ ∃ w, Sld n W br (m 90) x w ∧ (∀ i, In n i → m' 94 i = w i) ∧ m' 70 41 = sm n (fun i => D i * w i) ∧ z = sm n w) := by
  have hn5 := B.1
  have hbx := B.br hx
  refine e_M_goSlide x (fun _ _ => ⟨d + 3, _, by omega, c_layRest B X hg hN hN3, fun m1 h1 _ => ?_⟩)
  obtain ⟨f1, u, hu, r1, r2, r3⟩ := h1
  have hr : ∀ i, In n i → 0 ≤ m1 93 i ∧ m1 93 i < br i := fun i hi => by
    rw [r1 i hi]
    exact ⟨hu.nonneg B hg i hi, hu.2.1 i hi⟩
  have hrx := hr x hx
  refine ⟨by omega, by omega, by omega, ?_⟩
  rintro m2 rfl
  have f2 : Fro 70 [93, 94] [41] m (up m1 93 x (m1 93 x + 1)) := Fro_up f1 (by simp) (by decide)
  have X2 : BM n D W br (up m1 93 x (m1 93 x + 1)) := X.fro f2 (by decide) (by decide) (by decide) (by decide) (by decide)
  have g2 : ∀ i, In n i → up m1 93 x (m1 93 x + 1) 93 i = m1 93 i + (if i = x then 1 else 0) := fun i hi => by
    rw [up_row]
    by_cases e : i = x
    · rw [if_pos e, if_pos e, e]
    · rw [if_neg e, if_neg e]; omega
  have hsum : sm n (up m1 93 x (m1 93 x + 1) 93) ≤ 61 := by
    rw [sm_congr g2, sm_add, sm_one, if_pos hx]
    have := settled_sum B (fun i hi => (hr i hi).2)
    omega
  refine ⟨d + 3, _, by omega, c_settleHeap (d := d + 1) B X2 (fun i hi => by
    rw [g2 i hi]
    have := (hr i hi).1
    split <;> omega) hsum (by decide), fun z m3 h3 _ _ => ?_⟩
  obtain ⟨w, hw, hc, hz⟩ := h3
  exact ⟨f2.tr hc.1, w, ⟨u, hu, hw.congr (fun i hi => by rw [g2 i hi, r1 i hi])⟩, hc.2.2.2.1, hc.2.2.2.2.2, hz⟩
theorem c_slideM (B : BW n D W br) (X : BM n D W br m) (hg : ∀ i, In n i → 0 ≤ m 90 i) {N : Int} (hN : sm n (m 90) ≤ N) (hN3 : N ≤ 1000000) {x y : Int} : CI l G Y_M_slide (d + 5) [.inr (.inr 70), .inl x, .inl y] m (fun z m' => Fro 70 [93, 94] [41] m m' ∧ (In n x ∧ 0 ≤ y ∧ y ≤ 2 → ∃ w, Sld n W br (m 90) x w ∧ z = (if y = 0 then sm n w else if y = 1 then bs n (fun i => decide (0 < w i)) else sm n (fun i => D i * w i))) ∧ (¬ (In n x ∧ 0 ≤ y ∧ y ≤ 2) → z = -1)) := by
  have hn5 := B.1
  refine e_M_slide x y (fun _ _ _ => ⟨d + 1, _, by omega, c_isPlate B.1 X, fun z m1 hz _ _ => ?_⟩)
  obtain ⟨rfl, rfl⟩ := hz
  by_cases h : In n x
  · rw [if_pos h]
    refine ⟨fun c => absurd c (by decide), fun _ => ⟨d, _, by omega, c_isIn, fun z m1 hz _ _ => ?_⟩⟩
    obtain ⟨rfl, rfl⟩ := hz
    by_cases hy : 0 ≤ y ∧ y ≤ 2
    · rw [if_pos hy]
      refine ⟨fun _ => ⟨d + 4, _, by omega, c_goSlide B X hg hN hN3 h, fun z m1 h1 _ _ => ?_⟩, fun c => absurd (by decide) c⟩
      obtain ⟨f1, w, hw, o, dr, hz⟩ := h1
      have X1 : BM n D W br m1 := X.fro f1 (by decide) (by decide) (by decide) (by decide) (by decide)
      have loop : ∀ (j k : Nat), k + j = n → Wq l G false Y_M_slide (d + 5) (QI fun z m' => Fro 70 [93, 94] [41] m m' ∧ (In n x ∧ 0 ≤ y ∧ y ≤ 2 → ∃ w, Sld n W br (m 90) x w ∧ z = (if y = 0 then sm n w else if y = 1 then bs n (fun i => decide (0 < w i)) else sm n (fun i => D i * w i))) ∧ (¬ (In n x ∧ 0 ≤ y ∧ y ≤ 2) → z = -1)) 31 [(0, .inr (.inr 70)), (2, .inl y), (3, .inl z), (4, .inl (bs k (fun i => decide (0 < w i)))), (5, .inl k)] [] m1 := by
        intro j
        induction j with
        | zero =>
          intro k hk
          have e : k = n := by omega
          subst e
          refine s_M_slide_31 y z _ k (fun _ _ _ _ _ => ⟨d, _, by omega, c_lots X1, fun z2 m2 hz2 _ _ => ?_⟩)
          obtain ⟨rfl, rfl⟩ := hz2
          refine ⟨fun _ => ⟨fun c3 => ⟨fun c4 => ⟨f1, fun _ => ⟨w, hw, ?_⟩, fun q => absurd ⟨h, hy⟩ q⟩, fun c4 => ⟨f1, fun _ => ⟨w, hw, ?_⟩, fun q => absurd ⟨h, hy⟩ q⟩⟩, fun c3 => ⟨f1, fun _ => ⟨w, hw, ?_⟩, fun q => absurd ⟨h, hy⟩ q⟩⟩, fun c => absurd (show (k : Int) ≥ k by omega) c⟩
          · rw [if_neg c3, if_neg c4]; exact dr
          · rw [if_neg c3, if_pos (Classical.not_not.mp c4)]
          · rw [if_pos (Classical.not_not.mp c3)]; exact hz
        | succ j ih =>
          intro k hk
          have hi : In n (k : Int) := by omega
          refine s_M_slide_31 y z _ k (fun _ _ _ _ _ => ⟨d, _, by omega, c_lots X1, fun z2 m2 hz2 _ _ => ?_⟩)
          obtain ⟨rfl, rfl⟩ := hz2
          rw [o k hi]
          refine ⟨fun c => absurd c (by omega), fun _ => ⟨by omega, fun c => ⟨by omega, ?_⟩, fun c => ⟨by omega, ?_⟩⟩⟩
          · rw [bs_no (k := k) (by simp only [decide_eq_true_eq]; omega)]
            exact ih (k + 1) (by omega)
          · rw [bs_yes (k := k) (by omega) (by simp only [decide_eq_true_eq]; omega)]
            exact ih (k + 1) (by omega)
      exact loop n 0 (by omega)
    · rw [if_neg hy]
      exact ⟨fun c => absurd rfl c, fun _ => ⟨Fro.rf, fun q => absurd q.2 hy, fun _ => rfl⟩⟩
  · rw [if_neg h]
    exact ⟨fun _ => ⟨Fro.rf, fun q => absurd q.1 h, fun _ => rfl⟩, fun c => absurd rfl c⟩
theorem c_steepestM (B : BW n D W br) (X : BM n D W br m) (hg : ∀ i, In n i → 0 ≤ m 90 i) {N : Int} (hN : sm n (m 90) ≤ N) (hN3 : N ≤ 1000000) : CI l G Y_M_steepest (d + 5) [.inr (.inr 70)] m (fun z m' => Fro 70 [93, 94] [41] m m' ∧ ∃ t, Sls n W br (m 90) n t ∧ z = (stp n t).1) := by
  have hn5 := B.1
  refine e_M_steepest (fun _ => ?_)
  have loop : ∀ (j k : Nat) (t : Int → Int) (m2 : MM), k + j = n → Fro 70 [93, 94] [41] m m2 → Sls n W br (m 90) k t →
      Wq l G false Y_M_steepest (d + 5) (QI fun z m' => Fro 70 [93, 94] [41] m m' ∧ ∃ t, Sls n W br (m 90) n t ∧ z = (stp n t).1) 6 [(0, .inr (.inr 70)), (1, .inl (stp k t).1), (2, .inl (stp k t).2), (3, .inl k)] [] m2 := by
    intro j
    induction j with
    | zero =>
      intro k t m2 hk hf ht
      have X2 : BM n D W br m2 := X.fro hf (by decide) (by decide) (by decide) (by decide) (by decide)
      have e : k = n := by omega
      subst e
      refine s_M_steepest_6 _ _ k (fun _ _ _ _ => ⟨d, _, by omega, c_lots X2, fun z2 m3 hz2 _ _ => ?_⟩)
      obtain ⟨rfl, rfl⟩ := hz2
      exact ⟨fun _ => ⟨hf, t, ht, rfl⟩, fun c => absurd (show (k : Int) ≥ k by omega) c⟩
    | succ j ih =>
      intro k t m2 hk hf ht
      have X2 : BM n D W br m2 := X.fro hf (by decide) (by decide) (by decide) (by decide) (by decide)
      have e90 : m2 90 = m 90 := hf.1 90 (by decide) (by decide)
      refine s_M_steepest_6 _ _ k (fun _ _ _ _ => ⟨d, _, by omega, c_lots X2, fun z2 m3 hz2 _ _ => ?_⟩)
      obtain ⟨rfl, rfl⟩ := hz2
      refine ⟨fun c => absurd c (by omega), fun _ => ⟨d + 4, _, by omega, c_goSlide B X2 (fun i hi => by rw [e90]; exact hg i hi) (N := N) (by rw [e90]; exact hN) hN3 (x := (k : Int)) (by omega), fun z m3 h3 _ _ => ?_⟩⟩
      obtain ⟨f3, w, hw, -, -, hz⟩ := h3
      rw [e90] at hw
      have hnext := ih (k + 1) _ m3 (by omega) (hf.tr f3) (ht.more hw)
      have e1 : stp (k + 1) (fun p => if p = (k : Int) then sm n w else t p) = if (stp k t).2 < sm n w then ((k : Int), sm n w) else stp k t := by
        show (if (stp k _).2 < (if (k : Int) = k then sm n w else t k) then ((k : Int), if (k : Int) = k then sm n w else t k) else stp k _) = _
        rw [if_pos rfl, stp_congr (t' := t) (fun p hp => if_neg (by omega))]
      rw [e1] at hnext
      subst hz
      refine ⟨fun c => ⟨by omega, ?_⟩, fun c => ⟨by omega, ?_⟩⟩
      · rw [if_pos (by omega)] at hnext; exact hnext
      · rw [if_neg (by omega)] at hnext; exact hnext
  exact loop n 0 (fun _ => 0) m (by omega) Fro.rf (fun p hp => by omega)
theorem c_quietM (B : BW n D W br) (X : BM n D W br m) (hg : ∀ i, In n i → 0 ≤ m 90 i) {N : Int} (hN : sm n (m 90) ≤ N) (hN3 : N ≤ 1000000) : CI l G Y_M_quiet (d + 5) [.inr (.inr 70)] m (fun z m' => Fro 70 [93, 94] [41] m m' ∧ ∃ t, Sls n W br (m 90) n t ∧ z = bs n (fun i => decide (t i = 0))) := by
  have hn5 := B.1
  refine e_M_quiet (fun _ => ?_)
  have loop : ∀ (j k : Nat) (t : Int → Int) (m2 : MM), k + j = n → Fro 70 [93, 94] [41] m m2 → Sls n W br (m 90) k t →
      Wq l G false Y_M_quiet (d + 5) (QI fun z m' => Fro 70 [93, 94] [41] m m' ∧ ∃ t, Sls n W br (m 90) n t ∧ z = bs n (fun i => decide (t i = 0))) 4 [(0, .inr (.inr 70)), (1, .inl (bs k (fun i => decide (t i = 0)))), (2, .inl k)] [] m2 := by
    intro j
    induction j with
    | zero =>
      intro k t m2 hk hf ht
      have X2 : BM n D W br m2 := X.fro hf (by decide) (by decide) (by decide) (by decide) (by decide)
      have e : k = n := by omega
      subst e
      refine s_M_quiet_4 _ k (fun _ _ _ => ⟨d, _, by omega, c_lots X2, fun z2 m3 hz2 _ _ => ?_⟩)
      obtain ⟨rfl, rfl⟩ := hz2
      exact ⟨fun _ => ⟨hf, t, ht, rfl⟩, fun c => absurd (show (k : Int) ≥ k by omega) c⟩
    | succ j ih =>
      intro k t m2 hk hf ht
      have X2 : BM n D W br m2 := X.fro hf (by decide) (by decide) (by decide) (by decide) (by decide)
      have e90 : m2 90 = m 90 := hf.1 90 (by decide) (by decide)
      refine s_M_quiet_4 _ k (fun _ _ _ => ⟨d, _, by omega, c_lots X2, fun z2 m3 hz2 _ _ => ?_⟩)
      obtain ⟨rfl, rfl⟩ := hz2
      refine ⟨fun c => absurd c (by omega), fun _ => ⟨d + 4, _, by omega, c_goSlide B X2 (fun i hi => by rw [e90]; exact hg i hi) (N := N) (by rw [e90]; exact hN) hN3 (x := (k : Int)) (by omega), fun z m3 h3 _ _ => ?_⟩⟩
      obtain ⟨f3, w, hw, -, -, hz⟩ := h3
      rw [e90] at hw
      have hnext := ih (k + 1) _ m3 (by omega) (hf.tr f3) (ht.more hw)
      have e1 : bs k (fun i => decide (t i = 0)) = bs k (fun i => decide ((if i = (k : Int) then sm n w else t i) = 0)) := bs_congr (fun i hi => by rw [if_neg (by omega)])
      subst hz
      rw [e1]
      refine ⟨fun c => ⟨by omega, ?_⟩, fun c => ⟨by omega, ?_⟩⟩
      · rw [bs_no (k := k) (by rw [if_pos rfl]; simpa using c)]; exact hnext
      · rw [bs_yes (k := k) (by omega) (by rw [if_pos rfl]; simpa using c)]; exact hnext
  exact loop n 0 (fun _ => 0) m (by omega) Fro.rf (fun p hp => by omega)
end Ref4
