/-! rank of both -/
section Rank2
variable {l : Launch} {G : GT} {d : Nat} {m : MM} {b : Nat} {n : Nat} {D : Int → Int} {W : Int → Int → Int} {br : Int → Int}
theorem c_rankX (B : BW n D W br) (X : CX n D W br b m) {N : Int} (H : GX n W br N m) {x : Int} : CI l G Y_S_rank (d + 13) [.inr (.inr 0), .inl x] m (fun z m' => Fr [26, 27, 41, 42, 43] m m' ∧ (¬ (-30 ≤ x ∧ x ≤ 30) → z = -2) ∧ (-30 ≤ x ∧ x ≤ 30 → RkR n W br (m 25) (sm n (m 25) + x) z)) := by
  have hn5 := B.1
  refine e_S_rank x (by omega) (fun _ _ => ⟨fun c => ⟨Fr.rf, fun _ => rfl, fun q => by omega⟩, fun c => ⟨fun c2 => ?_, fun c2 => ⟨Fr.rf, fun _ => rfl, fun q => by omega⟩⟩⟩)
  obtain ⟨g1, g2, g3, g4, g5⟩ := H
  have hs := sm_nonneg g1
  refine ⟨b, X.2.1, X.1, d, _, by omega, grains_of B X g1 (N := N) g2 (by omega), fun z m1 hz _ _ => ?_⟩
  obtain ⟨rfl, rfl⟩ := hz
  obtain ⟨f1, X1, F1, v1⟩ := copy27 X ⟨g1, g2, g3, g4, g5⟩
  have hz0 : ∀ i, In n i → upC m 25 27 0 0 8 27 i = m 25 i := fun i hi => v1 i hi.1 (by have := hi.2; omega)
  refine ⟨by omega, by decide, ?_⟩
  intro m1 e1
  rw [← e1] at f1 X1 F1 v1 hz0
  refine ⟨b, X1.2.1, X1.1, d + 3, _, by omega, c_toOwn B X1.1 X1.2.2 F1 (Or.inr rfl) (fun i hi => by rw [hz0 i hi]; have := g1 i hi; omega) (N := N) (by rw [sm_congr hz0]; exact g2) g3 (fun i q0 q5 => by rw [v1 i q0 q5]; exact g4 i q0 q5), fun m2 h2 _ => ?_⟩
  obtain ⟨f2, o2, n2⟩ := h2
  have o2' := o2.congr hz0
  have fm : Fr [26, 27, 41, 42, 43] m m2 := (f1.mono (by simp)).tr (f2.mono (by simp))
  obtain ⟨w, hw⟩ := o2'.one
  have to1 : ∀ {c Z : Int → Int}, BaR n W br (fun i => m2 27 i - c i) Z → BaR n W br (fun i => m 25 i - c i) Z := fun {c Z} h => h.shift (w := fun j => (-1) * w j) (fun i hi => by
    show m2 27 i - c i = m 25 i - c i + Lp n W br (fun j => (-1) * w j) i
    rw [Lp_neg', hw i hi]; omega)
  have to2 : ∀ {c Z : Int → Int}, BaR n W br (fun i => m 25 i - c i) Z → BaR n W br (fun i => m2 27 i - c i) Z := fun {c Z} h => h.shift (w := w) (fun i hi => by
    show m 25 i - c i = m2 27 i - c i + Lp n W br w i
    rw [hw i hi]; omega)
  generalize hT : sm n (m 25) + x = T
  have hTr : -30 ≤ T ∧ T ≤ 20030 := by omega
  have loop : ∀ (s : Nat) (k v : Int) (m3 : MM), k + s = 4 → 0 ≤ k → Fr [26, 27, 41, 42, 43] m m3 → (∀ i, m3 27 i = m2 27 i) → (0 ≤ v ∧ (k = 0 → v = 0)) → (∀ c t Z, 0 ≤ t → t < k → Cn n c t 0 → BaR n W br (fun i => m2 27 i - c i) Z → sm n Z ≤ v) → (0 < k → ∃ c t Z, 0 ≤ t ∧ t < k ∧ Cn n c t 0 ∧ BaR n W br (fun i => m2 27 i - c i) Z ∧ v = sm n Z) → (∀ j, 0 ≤ j → j < k → ¬ Bad n W br (m 25) T j) → Wq l G false Y_S_rank (d + 13) (QI fun z m' => Fr [26, 27, 41, 42, 43] m m' ∧ (¬ (-30 ≤ x ∧ x ≤ 30) → z = -2) ∧ (-30 ≤ x ∧ x ≤ 30 → RkR n W br (m 25) T z)) 64 [(0, .inr (.inr 0)), (2, .inl T), (3, .inl v), (4, .inl k)] [] m3 := by
    intro s
    induction s with
    | zero =>
      intro k v m3 hks k0 f3 _ _ _ _ nb
      exact s_S_rank_64 _ _ _ (by omega) (fun _ _ _ _ => ⟨fun _ => ⟨f3, fun q => absurd ⟨by omega, c2⟩ q, fun _ => Or.inl ⟨fun j j0 j1 => nb j j0 (by omega), rfl⟩⟩, fun c => absurd (show k > 3 by omega) c⟩)
    | succ s ih =>
      intro k v m3 hks k0 f3 e3 hv up3 ex3 nb
      have hk3 : k ≤ 3 := by clear ex3; omega
      have hks2 : k + 1 + (s : Int) = 4 := by clear ex3; omega
      have hk10 : 0 ≤ k + 1 := by clear ex3; omega
      have X3 := X.fr f3 (by decide) (by decide)
      obtain ⟨t, rfl⟩ : ∃ t : Nat, k = (t : Int) := ⟨k.toNat, by clear ex3; omega⟩
      have mn := c_mostNeeded (l := l) (G := G) B t (d := d) (m := m3) (f := 0) (by clear ex3; omega) (Int.le_refl 0) X3 (by rw [f3 40 (by decide)]; exact g5) (fun i hi => by
        rw [e3 i]
        have := o2'.rng B hi
        have := B.br10 hi
        clear ex3; omega) (fun i q0 q5 => by
        rw [e3 i]
        by_cases hi : In n i
        · have := o2'.rng B hi
          have := B.br10 hi
          clear ex3; omega
        · rw [n2 i hi, v1 i q0 q5]
          exact g4 i q0 q5)
      refine s_S_rank_64 _ _ _ (by omega) (fun _ _ _ _ => ⟨fun c => absurd c (by clear ex3; omega), fun _ => ⟨d + 2 * t + 6, _, by clear ex3; omega, mn, fun z m4 hz _ _ => ?_⟩⟩)
      obtain ⟨f4, e4, hM⟩ := hz
      have hM2 := hM.congr (S' := m2 27) (fun i _ => e3 i)
      have z0 := hM2.1
      have up4 : ∀ c (t' : Int) Z, 0 ≤ t' → t' < (t : Int) + 1 → Cn n c t' 0 → BaR n W br (fun i => m2 27 i - c i) Z → sm n Z ≤ max v z := fun c t' Z h0 h1 hc hZ => by
        by_cases q : t' = t
        · subst q
          have := hM2.2.1 c Z hc hZ
          clear ex3; omega
        · have := up3 c t' Z h0 (by clear ex3; omega) hc hZ
          clear ex3; omega
      have ex4 : ∃ c t' Z, 0 ≤ t' ∧ t' < (t : Int) + 1 ∧ Cn n c t' 0 ∧ BaR n W br (fun i => m2 27 i - c i) Z ∧ max v z = sm n Z := by
        by_cases q : v < z ∨ (t : Int) = 0
        · obtain ⟨c, Z, h1, h2, h3⟩ := hM2.2.2 (by clear ex3; omega)
          exact ⟨c, t, Z, by clear ex3; omega, by clear ex3; omega, h1, h2, by clear ex3; omega⟩
        · obtain ⟨c, t', Z, h0, h1, h2, h3, h4⟩ := ex3 (by clear ex3; omega)
          exact ⟨c, t', Z, h0, by clear ex3; omega, h2, h3, by clear ex3; omega⟩
      clear ex3 up3 hM hM2
      refine ⟨by omega, fun q => ⟨by omega, ?_⟩, fun q => ⟨by omega, f3.tr f4, fun g => absurd ⟨by omega, c2⟩ g, fun _ => Or.inr ⟨t, by omega, hk3, ?_, nb, rfl⟩⟩⟩
      · refine ih ((t : Int) + 1) (max v z) m4 hks2 hk10 (f3.tr f4) (fun i => by rw [e4 i, e3 i]) ⟨by omega, fun g => by omega⟩ up4 (fun _ => ex4) (fun j j0 j1 hbad => ?_)
        by_cases g : j = t
        · subst g
          obtain ⟨c, t', Z, b0, b1, b2, b3, b4⟩ := hbad
          have := up4 c t' Z b0 (by omega) b2 (to2 b3)
          omega
        · exact nb j j0 (by omega) hbad
      · obtain ⟨c, t', Z, h0, h1, h2, h3, h4⟩ := ex4
        exact ⟨c, t', Z, h0, by omega, h2, to1 h3, by omega⟩
  exact loop 4 0 0 m2 (by omega) (by omega) fm (fun _ => rfl) ⟨Int.le_refl 0, fun _ => rfl⟩ (fun c t Z h0 h1 => by omega) (fun q => absurd q (by omega)) (fun j j0 j1 => by omega)
/-- what the digits of a number take -/
def dgc (n : Nat) : Nat → Int → Int → Int
  | 0, _, _ => 0
  | k + 1, x, i => (if i = x % ((n : Int) + 1) then 1 else 0) + dgc n k (x / ((n : Int) + 1)) i
theorem dgc_cn : ∀ (k : Nat) (x : Int), 0 ≤ x → (∀ i, 0 ≤ dgc n k x i ∧ dgc n k x i ≤ k) ∧ 0 ≤ sm n (dgc n k x) ∧ sm n (dgc n k x) ≤ k
  | 0, x, _ => ⟨fun i => by show (0 : Int) ≤ 0 ∧ (0 : Int) ≤ ((0 : Nat) : Int); decide, by show 0 ≤ sm n (fun _ => 0) ∧ sm n (fun _ => 0) ≤ ((0 : Nat) : Int); rw [sm_zero]; decide⟩
  | k + 1, x, hx => by
    obtain ⟨h1, h2, h3⟩ := dgc_cn k (x / ((n : Int) + 1)) (Int.ediv_nonneg hx (by omega))
    refine ⟨fun i => ?_, ?_⟩
    · have := h1 i
      show 0 ≤ (if i = x % ((n : Int) + 1) then 1 else 0) + dgc n k (x / ((n : Int) + 1)) i ∧ (if i = x % ((n : Int) + 1) then 1 else 0) + dgc n k (x / ((n : Int) + 1)) i ≤ ((k + 1 : Nat) : Int)
      split <;> omega
    · have e : sm n (dgc n (k + 1) x) = sm n (fun i => if i = x % ((n : Int) + 1) then 1 else 0) + sm n (dgc n k (x / ((n : Int) + 1))) := sm_add n _ _
      rw [e, sm_one]
      split <;> omega
theorem dgc_all : ∀ (k : Nat) (c : Int → Int) (t : Int), 0 ≤ t → t ≤ k → Cn n c t 0 → ∃ x, 0 ≤ x ∧ x < ((n : Int) + 1) ^ k ∧ ∀ i, In n i → dgc n k x i = c i
  | 0, c, t, h0, h1, hc => by
    have e : t = 0 := by omega
    subst e
    exact ⟨0, by omega, by rw [Int.pow_zero]; decide, fun i hi => (hc.nil i hi).symm⟩
  | k + 1, c, t, h0, h1, hc => by
    have big : ∀ (p y : Int), 0 ≤ p → p ≤ n → 0 ≤ y → y < ((n : Int) + 1) ^ k → 0 ≤ p + y * ((n : Int) + 1) ∧ p + y * ((n : Int) + 1) < ((n : Int) + 1) ^ (k + 1) ∧ (p + y * ((n : Int) + 1)) % ((n : Int) + 1) = p ∧ (p + y * ((n : Int) + 1)) / ((n : Int) + 1) = y := fun p y p0 p1 y0 y1 => by
      have a1 := Int.mul_nonneg y0 (show (0 : Int) ≤ (n : Int) + 1 by omega)
      have a2 := Int.mul_le_mul_of_nonneg_right (show y ≤ ((n : Int) + 1) ^ k - 1 by omega) (show (0 : Int) ≤ (n : Int) + 1 by omega)
      rw [Int.sub_mul, Int.one_mul] at a2
      rw [Int.pow_succ]
      refine ⟨by omega, by omega, ?_, ?_⟩
      · rw [Int.add_mul_emod_self_right, Int.emod_eq_of_lt p0 (by omega)]
      · rw [Int.add_mul_ediv_right _ _ (by omega), Int.ediv_eq_zero_of_lt p0 (by omega)]; omega
    by_cases q : t ≤ k
    · obtain ⟨y, y0, y1, hy⟩ := dgc_all k c t h0 q hc
      obtain ⟨b1, b2, b3, b4⟩ := big n y (by omega) (Int.le_refl _) y0 y1
      refine ⟨_, b1, b2, fun i hi => ?_⟩
      show (if i = ((n : Int) + y * ((n : Int) + 1)) % ((n : Int) + 1) then 1 else 0) + dgc n k (((n : Int) + y * ((n : Int) + 1)) / ((n : Int) + 1)) i = c i
      rw [b3, b4, hy i hi, if_neg (show ¬ i = (n : Int) by have := hi.2; omega)]
      omega
    · have et : t = (k : Int) + 1 := by omega
      subst et
      obtain ⟨p, hp, hp0⟩ := hc.some (by omega)
      have hc' : Cn n (fun j => if j = p then c j + -1 else c j) k 0 := ⟨fun j hj => by
        have := hc.1 j hj
        show 0 ≤ (if j = p then c j + -1 else c j)
        split
        · rename_i e; rw [e]; omega
        · omega, fun j hj q => by have := hj.1; omega, by rw [sm_upd n c p (-1) hp, hc.2.2]; omega⟩
      obtain ⟨y, y0, y1, hy⟩ := dgc_all k _ k (by omega) (Int.le_refl _) hc'
      obtain ⟨b1, b2, b3, b4⟩ := big p y hp.1 (Int.le_of_lt hp.2) y0 y1
      refine ⟨_, b1, b2, fun i hi => ?_⟩
      show (if i = (p + y * ((n : Int) + 1)) % ((n : Int) + 1) then 1 else 0) + dgc n k ((p + y * ((n : Int) + 1)) / ((n : Int) + 1)) i = c i
      rw [b3, b4, hy i hi]
      show (if i = p then 1 else 0) + (if i = p then c i + -1 else c i) = c i
      by_cases e : i = p
      · rw [if_pos e, if_pos e]; omega
      · rw [if_neg e, if_neg e]; omega
theorem c_isEven (B : BW n D W br) (X : BM n D W br m) (H : GM n W br m) (hg : ∀ i, In n i → 0 ≤ m 90 i ∧ m 90 i ≤ 20000) {x y : Int} {k : Nat} (hx : -30 ≤ x ∧ x ≤ 30) (hy : 0 ≤ y) (hk : k ≤ 3) : CI l G Y_M_isEven (d + 5) [.inr (.inr 70), .inl x, .inl y, .inl (k : Int)] m (fun z m' => Fro 70 [93, 94] [41] m m' ∧ ∃ Z, BaR n W br (fun i => m 90 i - dgc n k y i) Z ∧ z = if sm n (m 90) + x - k < sm n Z then 0 else 1) := by
  have hn5 := B.1
  refine e_M_isEven _ _ _ (fun _ _ _ hk0 => ⟨d + 1, _, by omega, c_layNow hn5 X, fun m1 h1 _ => ?_⟩)
  obtain ⟨f1, g1, -⟩ := h1
  have X1 := X.fro f1 (by decide) (by decide) (by decide) (by decide) (by decide)
  have hs0 := sm_nonneg (fun i hi => (hg i hi).1)
  have hs1 : sm n (m 90) ≤ 100000 := by
    have h1 := (sm_bound (k := n) (f := m 90) (M := 20000) (fun i hi => by have := hg i hi; omega)).2
    omega
  refine ⟨d + 1, _, by omega, c_levelOf hn5 X1 (fun i hi => by rw [g1 i hi]; have := hg i hi; omega), fun z m2 hz _ _ => ?_⟩
  obtain ⟨rfl, rfl⟩ := hz
  rw [sm_congr g1]
  refine ⟨by omega, by omega, ?_⟩
  generalize hT : sm n (m 90) + x - (k : Int) = T
  have hdg := (dgc_cn (n := n) k y hy).1
  have loop : ∀ (s : Nat) (j y' : Int) (m2 : MM), j + s = k → 0 ≤ j → 0 ≤ y' → Fro 70 [93, 94] [41] m m2 → (∀ i, In n i → m2 93 i = m 90 i - dgc n k y i + dgc n s y' i) → Wq l G false Y_M_isEven (d + 5) (QI fun z m' => Fro 70 [93, 94] [41] m m' ∧ ∃ Z, BaR n W br (fun i => m 90 i - dgc n k y i) Z ∧ z = if T < sm n Z then 0 else 1) 20 [(0, .inr (.inr 70)), (3, .inl (k : Int)), (4, .inl T), (5, .inl y'), (6, .inl j)] [] m2 := by
    intro s
    induction s with
    | zero =>
      intro j y' m2 hjs j0 y0 f2 hv
      have hv2 : ∀ i, In n i → m2 93 i = m 90 i - dgc n k y i := fun i hi => by
        rw [hv i hi]
        show _ + 0 = _
        omega
      have X2 := X.fro f2 (by decide) (by decide) (by decide) (by decide) (by decide)
      refine s_M_isEven_20 _ _ _ _ (fun _ _ _ _ _ => ⟨fun _ => ⟨d + 4, _, by omega, c_makeBare B X2 (H.fro f2 (by decide) (by decide)) (fun i hi => by rw [hv2 i hi]; have := hg i hi; have := hdg i; omega), fun m3 h3 _ => ?_⟩, fun c => absurd (show j ≥ (k : Int) by omega) c⟩)
      obtain ⟨f3, o3⟩ := h3
      have o3' := o3.congr hv2
      have fm := f2.tr f3
      have X3 := X.fro fm (by decide) (by decide) (by decide) (by decide) (by decide)
      refine ⟨d + 1, _, by omega, c_levelOf hn5 X3 (fun i hi => by have := o3'.rng B hi; have := B.br10 hi; omega), fun z m4 hz _ _ => ?_⟩
      obtain ⟨rfl, rfl⟩ := hz
      exact ⟨fun c => ⟨fm, m3 93, o3', by rw [if_pos c]⟩, fun c => ⟨fm, m3 93, o3', by rw [if_neg c]⟩⟩
    | succ s ih =>
      intro j y' m2 hjs j0 y0 f2 hv
      have X2 := X.fro f2 (by decide) (by decide) (by decide) (by decide) (by decide)
      refine s_M_isEven_20 _ _ _ _ (fun _ _ _ _ _ => ⟨fun c => absurd c (by omega), fun _ => ⟨d, _, by omega, c_lots X2, fun z m3 hz _ _ => ?_⟩⟩)
      obtain ⟨rfl, rfl⟩ := hz
      refine ⟨by omega, by omega, d, _, by omega, c_lots X2, fun z m3 hz _ _ => ?_⟩
      obtain ⟨rfl, rfl⟩ := hz
      refine ⟨by omega, by omega, d, _, by omega, c_lots X2, fun z m3 hz _ _ => ?_⟩
      obtain ⟨rfl, rfl⟩ := hz
      rw [Int.tmod_eq_emod_of_nonneg y0, Int.tdiv_eq_ediv_of_nonneg y0]
      have hd0 := Int.ediv_nonneg y0 (show (0 : Int) ≤ (n : Int) + 1 by omega)
      have hp0 := Int.emod_nonneg y' (show (n : Int) + 1 ≠ 0 by omega)
      have hp1 := Int.emod_lt_of_pos y' (show (0 : Int) < (n : Int) + 1 by omega)
      have ed : ∀ i, dgc n (s + 1) y' i = (if i = y' % ((n : Int) + 1) then 1 else 0) + dgc n s (y' / ((n : Int) + 1)) i := fun i => rfl
      refine ⟨fun c => ⟨by omega, ih (j + 1) _ m2 (by omega) (by omega) hd0 f2 (fun i hi => ?_)⟩, fun c => ?_⟩
      · rw [hv i hi, ed i, if_neg (show ¬ i = y' % ((n : Int) + 1) by have := hi.2; omega)]
        omega
      · generalize hp : y' % ((n : Int) + 1) = p at hp0 hp1 ed c
        have hpi : In n p := ⟨hp0, by omega⟩
        have h1 := hg p hpi
        have h2 := hdg p
        have h3 := hv p hpi
        have h4 := (dgc_cn (n := n) (s + 1) y' y0).1 p
        refine ⟨by omega, by omega, by omega, ?_⟩
        intro m3 e3
        refine ⟨by omega, ih (j + 1) _ m3 (by omega) (by omega) hd0 (by rw [e3]; exact Fro_up f2 (by simp) (by decide)) (fun i hi => ?_)⟩
        rw [e3, up_row]
        have h5 := hv i hi
        rw [ed i] at h5
        by_cases q : i = p
        · rw [if_pos q] at h5 ⊢
          rw [← q]
          omega
        · rw [if_neg q] at h5 ⊢
          omega
  exact loop k 0 y m1 (by omega) (by omega) hy (f1.mono (by simp) (by simp)) (fun i hi => by rw [g1 i hi]; omega)
theorem c_rankM (B : BW n D W br) (X : BM n D W br m) (H : GM n W br m) (hg : ∀ i, In n i → 0 ≤ m 90 i ∧ m 90 i ≤ 20000) {x : Int} : CI l G Y_M_rank (d + 6) [.inr (.inr 70), .inl x] m (fun z m' => Fro 70 [93, 94] [41] m m' ∧ (¬ (-30 ≤ x ∧ x ≤ 30) → z = -2) ∧ (-30 ≤ x ∧ x ≤ 30 → RkR n W br (m 90) (sm n (m 90) + x) z)) := by
  have hn5 := B.1
  refine e_M_rank _ (fun _ _ => ⟨d, _, by omega, c_isIn, fun z m1 hz _ _ => ?_⟩)
  obtain ⟨rfl, rfl⟩ := hz
  by_cases hx : -30 ≤ x ∧ x ≤ 30
  · rw [if_pos hx]
    refine ⟨fun _ => ?_, fun c => absurd (by decide) c⟩
    generalize hT : sm n (m 90) + x = T
    have outer : ∀ (s k : Nat) (m1 : MM), k + s = 4 → Fro 70 [93, 94] [41] m m1 → (∀ j, 0 ≤ j → j < (k : Int) → ¬ Bad n W br (m 90) T j) → Wq l G false Y_M_rank (d + 6) (QI fun z m' => Fro 70 [93, 94] [41] m m' ∧ (¬ (-30 ≤ x ∧ x ≤ 30) → z = -2) ∧ (-30 ≤ x ∧ x ≤ 30 → RkR n W br (m 90) T z)) 16 [(0, .inr (.inr 70)), (1, .inl x), (2, .inl (k : Int))] [] m1 := by
      intro s
      induction s with
      | zero =>
        intro k m1 hks f nb
        exact s_M_rank_16 _ _ (fun _ _ _ => ⟨fun _ => ⟨f, fun q => absurd hx q, fun _ => Or.inl ⟨fun j j0 j1 => nb j j0 (by omega), rfl⟩⟩, fun c => absurd (show (k : Int) > 3 by omega) c⟩)
      | succ s ih =>
        intro k m1 hks f nb
        refine s_M_rank_16 _ _ (fun _ _ _ => ⟨fun c => absurd c (by omega), fun _ => ?_⟩)
        have hp0 : (0 : Int) < ((n : Int) + 1) ^ k := pow_pos' (by omega) k
        have inner : ∀ (t : Nat) (y : Int) (m2 : MM), y + t = ((n : Int) + 1) ^ k → 0 ≤ y → Fro 70 [93, 94] [41] m m2 → (∀ y', 0 ≤ y' → y' < y → ∃ Z, BaR n W br (fun i => m 90 i - dgc n k y' i) Z ∧ ¬ T - k < sm n Z) → Wq l G false Y_M_rank (d + 6) (QI fun z m' => Fro 70 [93, 94] [41] m m' ∧ (¬ (-30 ≤ x ∧ x ≤ 30) → z = -2) ∧ (-30 ≤ x ∧ x ≤ 30 → RkR n W br (m 90) T z)) 23 [(0, .inr (.inr 70)), (1, .inl x), (2, .inl (k : Int)), (3, .inl y)] [] m2 := by
          intro t
          induction t with
          | zero =>
            intro y m2 hyt y0 f2 ok
            have X2 := X.fro f2 (by decide) (by decide) (by decide) (by decide) (by decide)
            refine s_M_rank_23 _ _ _ (fun _ _ _ _ => ⟨d, _, by omega, c_lots X2, fun z m3 hz _ _ => ?_⟩)
            obtain ⟨rfl, rfl⟩ := hz
            refine ⟨by omega, d, _, by omega, c_power (by omega) (by omega), fun z m3 hz _ _ => ?_⟩
            obtain ⟨rfl, rfl⟩ := hz
            rw [Int.toNat_natCast]
            have nx := ih (k + 1) m2 (by omega) f2
            rw [show ((k + 1 : Nat) : Int) = (k : Int) + 1 by omega] at nx
            refine ⟨fun _ => ⟨by omega, nx (fun j j0 j1 hb => ?_)⟩, fun c => absurd (show y ≥ ((n : Int) + 1) ^ k by omega) c⟩
            by_cases q : j = k
            · subst q
              obtain ⟨c, t, Z, b0, b1, b2, b3, b4⟩ := hb
              obtain ⟨y', y0', y1', hy'⟩ := dgc_all (n := n) k c t b0 b1 b2
              obtain ⟨Z', z1, z2⟩ := ok y' y0' (by omega)
              have := sm_congr (BaR.uniq B (fun i hi => by show m 90 i - c i = m 90 i - dgc n k y' i; rw [hy' i hi]) b3 z1)
              omega
            · exact nb j j0 (by omega) hb
          | succ t iht =>
            intro y m2 hyt y0 f2 ok
            have hyt2 : y + 1 + (t : Int) = ((n : Int) + 1) ^ k := by omega
            have X2 := X.fro f2 (by decide) (by decide) (by decide) (by decide) (by decide)
            have e90 : m2 90 = m 90 := f2.1 90 (by decide) (by decide)
            have hp3 := pow_rng (a := (n : Int) + 1) (by omega) k
            have hp4 := pow100 (j := k) (by omega)
            refine s_M_rank_23 _ _ _ (fun _ _ _ _ => ⟨d, _, by omega, c_lots X2, fun z m3 hz _ _ => ?_⟩)
            obtain ⟨rfl, rfl⟩ := hz
            refine ⟨by omega, d, _, by omega, c_power (by omega) (by omega), fun z m3 hz _ _ => ?_⟩
            obtain ⟨rfl, rfl⟩ := hz
            rw [Int.toNat_natCast]
            refine ⟨fun c => absurd c (by omega), fun _ => ⟨d + 5, _, by omega, c_isEven B X2 (H.fro f2 (by decide) (by decide)) (by rw [e90]; exact hg) hx y0 (by omega), fun z m3 hz _ _ => ?_⟩⟩
            obtain ⟨f3, Z, hZ, ez⟩ := hz
            rw [e90] at hZ ez
            rw [hT] at ez
            by_cases q : T - (k : Int) < sm n Z
            · rw [if_pos q] at ez
              refine ⟨fun c => absurd ez c, fun _ => ⟨by omega, f2.tr f3, fun g => absurd hx g, fun _ => Or.inr ⟨k, by omega, by omega, ?_, nb, rfl⟩⟩⟩
              have hd := dgc_cn (n := n) k y y0
              exact ⟨dgc n k y, sm n (dgc n k y), Z, hd.2.1, hd.2.2, ⟨fun i _ => (hd.1 i).1, fun i hi q => by have := hi.1; omega, rfl⟩, hZ, q⟩
            · rw [if_neg q] at ez
              refine ⟨fun _ => ⟨by omega, iht (y + 1) m3 hyt2 (by omega) (f2.tr f3) (fun y' h0 h1 => ?_)⟩, fun c => absurd (show z ≠ 0 by omega) c⟩
              by_cases g : y' = y
              · rw [g]; exact ⟨Z, hZ, q⟩
              · exact ok y' h0 (by omega)
        exact inner (((n : Int) + 1) ^ k).toNat 0 m1 (by omega) (by omega) f (fun y' h0 h1 => by omega)
    exact outer 4 0 m (by omega) Fro.rf (fun j j0 j1 => by omega)
  · rw [if_neg hx]
    exact ⟨fun c => absurd rfl c, fun _ => ⟨Fro.rf, fun _ => rfl, fun q => absurd q hx⟩⟩
end Rank2
