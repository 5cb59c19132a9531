/-! rank: what can be taken from wherever -/
section Rank
variable {l : Launch} {G : GT} {d : Nat} {m : MM} {b : Nat} {n : Nat} {D : Int → Int} {W : Int → Int → Int} {br : Int → Int}
/-- t grains on plates from f on -/
def Cn (n : Nat) (c : Int → Int) (t f : Int) : Prop := (∀ i, In n i → 0 ≤ c i) ∧ (∀ i, In n i → i < f → c i = 0) ∧ sm n c = t
theorem Cn.nil {c : Int → Int} {f : Int} (h : Cn n c 0 f) : ∀ i, In n i → c i = 0 := fun i hi => by
  have := sm_term h.1 i hi
  have := h.1 i hi
  have := h.2.2
  omega
theorem Cn.none {f : Int} : Cn n (fun _ => 0) 0 f := ⟨fun _ _ => Int.le_refl 0, fun _ _ _ => rfl, sm_zero n⟩
theorem Cn.more {c : Int → Int} {t f i : Int} (h : Cn n c t i) (hi : In n i) (hf : f ≤ i) : Cn n (fun j => if j = i then c j + 1 else c j) (t + 1) f := by
  refine ⟨fun j hj => ?_, fun j hj q => ?_, ?_⟩
  · have := h.1 j hj
    show 0 ≤ (if j = i then c j + 1 else c j)
    split <;> omega
  · show (if j = i then c j + 1 else c j) = 0
    rw [if_neg (by omega)]
    exact h.2.1 j hj (by omega)
  · rw [sm_upd n c i 1 hi, h.2.2]
theorem Cn.less {c : Int → Int} {t f i : Int} (h : Cn n c (t + 1) f) (hi : In n i) (h0 : 0 < c i) (hl : ∀ j, In n j → j < i → c j = 0) : Cn n (fun j => if j = i then c j + -1 else c j) t i := by
  refine ⟨fun j hj => ?_, fun j hj q => ?_, ?_⟩
  · have := h.1 j hj
    show 0 ≤ (if j = i then c j + -1 else c j)
    split
    · rename_i e; rw [e]; omega
    · omega
  · show (if j = i then c j + -1 else c j) = 0
    rw [if_neg (by omega)]
    exact hl j hj q
  · rw [sm_upd n c i (-1) hi, h.2.2]; omega
theorem Cn.some {c : Int → Int} {t f : Int} (h : Cn n c t f) (ht : 0 < t) : ∃ i, In n i ∧ 0 < c i := by
  apply Classical.byContradiction
  intro q
  have e : sm n c = sm n (fun _ => 0) := sm_congr (fun i hi => by
    have := h.1 i hi
    rcases Int.lt_or_le 0 (c i) with g | g
    · exact absurd ⟨i, hi, g⟩ q
    · omega)
  rw [sm_zero, h.2.2] at e
  omega
theorem BaR.shift {X X' Z w : Int → Int} (h : BaR n W br X Z) (e : ∀ i, In n i → X i = X' i + Lp n W br w i) : BaR n W br X' Z := by
  obtain ⟨O, h1, h2⟩ := h
  exact ⟨O, h1.shift (w := w) (fun i hi => by show br i - 1 - X i = br i - 1 - X' i - Lp n W br w i; rw [e i hi]; omega), h2⟩
theorem Lp_neg' (u : Int → Int) (i : Int) : Lp n W br (fun j => (-1) * u j) i = - Lp n W br u i := by rw [Lp_smul]; omega
/-- the most that a bare of the heap with t grains fewer has -/
def MxR (n : Nat) (W : Int → Int → Int) (br S : Int → Int) (t f z : Int) : Prop :=
  0 ≤ z ∧ (∀ c Z, Cn n c t f → BaR n W br (fun i => S i - c i) Z → sm n Z ≤ z) ∧ ((0 < z ∨ t = 0) → ∃ c Z, Cn n c t f ∧ BaR n W br (fun i => S i - c i) Z ∧ z = sm n Z)
theorem MxR.congr {S S' : Int → Int} {t f z : Int} (h : MxR n W br S t f z) (e : ∀ i, In n i → S i = S' i) : MxR n W br S' t f z :=
  ⟨h.1, fun c Z hc hZ => h.2.1 c Z hc (hZ.congr (fun i hi => by rw [e i hi])), fun q => by
    obtain ⟨c, Z, h1, h2, h3⟩ := h.2.2 q
    exact ⟨c, Z, h1, h2.congr (fun i hi => by rw [e i hi]), h3⟩⟩
theorem MxR.base (B : BW n D W br) {S Z : Int → Int} {f : Int} (h : BaR n W br S Z) : MxR n W br S 0 f (sm n Z) := by
  refine ⟨sm_nonneg (fun i hi => (h.rng B hi).1), fun c Z' hc hZ => ?_, fun _ => ⟨_, Z, Cn.none, h.congr (fun i _ => by show S i = S i - 0; omega), rfl⟩⟩
  rw [sm_congr (BaR.uniq B (fun i hi => by show S i - c i = S i; rw [hc.nil i hi]; omega) hZ h)]
  exact Int.le_refl _
theorem c_mostNeeded (B : BW n D W br) : ∀ (t : Nat) {d : Nat} {m : MM} {f : Int}, t ≤ 3 → 0 ≤ f → CX n D W br b m → FlR n W br (m 40) → (∀ i, In n i → (t : Int) - 3 ≤ m 27 i ∧ m 27 i ≤ 10) → (∀ i, 0 ≤ i → i < 5 → -1000000 ≤ m 27 i ∧ m 27 i ≤ 1000000) → CI l G Y_S_mostNeeded (d + 2 * t + 6) [.inr (.inr 0), .inl (t : Int), .inl f] m (fun z m' => Fr [26, 27, 41, 42, 43] m m' ∧ (∀ i, m' 27 i = m 27 i) ∧ MxR n W br (m 27) t f z)
  | 0, d, m, f, _, f0, X, F, hg, hbd => by
    have hn5 := B.1
    refine e_S_mostNeeded _ f (by omega) (fun _ _ _ => ⟨fun c => absurd c (by omega), fun _ => ⟨by decide, ?_⟩⟩)
    rintro m1 rfl
    have f1 : Fr [26, 27, 41, 42, 43] m (upC m 27 26 0 0 8) := fun c hc => upC_ne (fun e => hc (by rw [e]; simp))
    have X1 := X.fr f1 (by decide) (by decide)
    have v1 : ∀ i, 0 ≤ i → i < 5 → upC m 27 26 0 0 8 26 i = m 27 i := fun i q0 q5 => by
      rw [upC_row, if_pos (show 0 ≤ i ∧ i < 0 + 8 by omega)]
      congr 1; omega
    have v2 : ∀ i, In n i → upC m 27 26 0 0 8 26 i = m 27 i := fun i hi => v1 i hi.1 (by have := hi.2; omega)
    have e27 : upC m 27 26 0 0 8 27 = m 27 := upC_ne (by decide)
    have hs : sm n (upC m 27 26 0 0 8 26) ≤ 100 := by
      rw [sm_congr v2]
      have h2 := (sm_bound (k := n) (f := m 27) (M := 10) (fun i hi => by have := hg i hi; omega)).2
      omega
    refine ⟨b, X1.2.1, X1.1, d + 4, _, by omega, c_toBare B X1.1 X1.2.2 (by rw [f1 40 (by decide)]; exact F) (Or.inl rfl) (fun i hi => by rw [v2 i hi]; have := hg i hi; omega) hs (by decide) (fun i q0 q5 => by rw [v1 i q0 q5]; exact hbd i q0 q5), fun m2 h2 _ => ?_⟩
    obtain ⟨f2, o2, -⟩ := h2
    have o2' := o2.congr v2
    have fm : Fr [26, 27, 41, 42, 43] m m2 := f1.tr (f2.mono (by simp))
    have X2 := X.fr fm (by decide) (by decide)
    have r2 : ∀ i, In n i → 0 ≤ m2 26 i ∧ m2 26 i < br i := fun i hi => o2'.rng B hi
    refine ⟨b, X2.2.1, X2.1, d, _, by omega, c_grainsOf X2.1 hn5 X2.2.2.1 (h := 26) (len := 8) rfl (by decide) (by decide) (fun i hi => by have := r2 i hi; have := B.br10 hi; omega), fun z m3 hz _ _ => ?_⟩
    obtain ⟨rfl, rfl⟩ := hz
    exact ⟨fm, fun i => by rw [f2 27 (by decide), e27], MxR.base B o2'⟩
  | t + 1, d, m, f, ht, f0, X, F, hg, hbd => by
    have hn5 := B.1
    refine e_S_mostNeeded _ f (by omega) (fun _ _ _ => ⟨fun _ => ?_, fun c => absurd (show ((t + 1 : Nat) : Int) > 0 by omega) c⟩)
    have loop : ∀ (s : Nat) (i v : Int) (m1 : MM), (i + s = n ∨ (s = 0 ∧ (n : Int) ≤ i)) → f ≤ i → Fr [26, 27, 41, 42, 43] m m1 → (∀ j, m1 27 j = m 27 j) → 0 ≤ v → (∀ c Z, Cn n c ((t + 1 : Nat) : Int) f → (∃ j, In n j ∧ j < i ∧ 0 < c j) → BaR n W br (fun i => m 27 i - c i) Z → sm n Z ≤ v) → (0 < v → ∃ c Z, Cn n c ((t + 1 : Nat) : Int) f ∧ BaR n W br (fun i => m 27 i - c i) Z ∧ v = sm n Z) → Wq l G false Y_S_mostNeeded (d + 2 * (t + 1) + 6) (QI fun z m' => Fr [26, 27, 41, 42, 43] m m' ∧ (∀ i, m' 27 i = m 27 i) ∧ MxR n W br (m 27) ((t + 1 : Nat) : Int) f z) 51 [(0, .inr (.inr 0)), (1, .inl ((t + 1 : Nat) : Int)), (3, .inl v), (4, .inl i)] [] m1 := by
      intro s
      induction s with
      | zero =>
        intro i v m1 his hfi fr e27 v0 up1 ex1
        have X1 := X.fr fr (by decide) (by decide)
        refine s_S_mostNeeded_51 _ _ _ (by omega) (fun _ _ _ _ => ⟨b, X1.2.1, X1.1, fun _ => ⟨fr, e27, v0, fun c Z hc hZ => ?_, fun q => ?_⟩, fun c => absurd (show i ≥ m1 b 0 by rw [X1.2.2.1]; omega) c⟩)
        · obtain ⟨j, hj, h0⟩ := hc.some (by omega)
          exact up1 c Z hc ⟨j, hj, by have := hj.2; omega, h0⟩ hZ
        · exact ex1 (by omega)
      | succ s ih =>
        intro i v m1 his hfi fr e27 v0 up1 ex1
        have X1 := X.fr fr (by decide) (by decide)
        have hi : In n i := ⟨by omega, by omega⟩
        have hgi := hg i hi
        have his2 : i + 1 + (s : Int) = n ∨ (s = 0 ∧ (n : Int) ≤ i + 1) := by clear ex1; omega
        have hfi2 : f ≤ i + 1 := by clear ex1; omega
        refine s_S_mostNeeded_51 _ _ _ (by omega) (fun _ _ _ _ => ⟨b, X1.2.1, X1.1, fun c => absurd (show i ≥ (n : Int) by rw [← X1.2.2.1]; exact c) (by omega), fun _ => ⟨d + 2 * t + 7, fun z m3 => Fr [26, 27, 41, 42, 43] m m3 ∧ (∀ j, m3 27 j = m 27 j) ∧ MxR n W br (fun j => if j = i then m 27 i - 1 else m 27 j) (t : Int) i z, by omega, ?_, fun z m3 hz _ _ => ?_⟩⟩)
        · refine e_S_mostNeededWithout _ _ (fun _ _ _ => ⟨by omega, by rw [e27 i]; omega, by omega, ?_⟩)
          rw [e27 i]
          rintro m2 rfl
          have fr2 : Fr [26, 27, 41, 42, 43] m (up m1 27 i (m 27 i - 1)) := Fr_up fr (by simp)
          have X2 := X.fr fr2 (by decide) (by decide)
          have w2 : ∀ j, up m1 27 i (m 27 i - 1) 27 j = if j = i then m 27 i - 1 else m 27 j := fun j => by rw [up_row, e27 j]
          have rc := c_mostNeeded B t (d := d) (m := up m1 27 i (m 27 i - 1)) (f := i) (by omega) (by omega) X2 (by rw [fr2 40 (by decide)]; exact F) (fun j hj => by
            rw [w2 j]
            have := hg j hj
            split <;> omega) (fun j j0 j5 => by
            rw [w2 j]
            have := hbd j j0 j5
            split <;> omega)
          rw [show ((t + 1 : Nat) : Int) - 1 = (t : Int) by omega]
          refine ⟨by omega, d + 2 * t + 6, _, by omega, rc, ?_⟩
          intro z m3 hz _ _
          obtain ⟨f3, g3, h3⟩ := hz
          have w3 : ∀ j, m3 27 j = if j = i then m 27 i - 1 else m 27 j := fun j => by rw [g3 j, w2 j]
          have fr3 := fr2.tr f3
          have hM := h3.congr (S' := fun j => if j = i then m 27 i - 1 else m 27 j) (fun j _ => w2 j)
          have e3 : m3 27 i + 1 = m 27 i := by rw [w3 i, if_pos rfl]; omega
          refine ⟨by omega, by rw [e3]; omega, by omega, ?_⟩
          rw [e3]
          rintro m4 rfl
          refine ⟨Fr_up fr3 (by simp), fun j => ?_, hM⟩
          rw [up_row, w3 j]
          by_cases q : j = i
          · rw [if_pos q, q]
          · rw [if_neg q, if_neg q]
        · obtain ⟨f3, g3, hM⟩ := hz
          refine ⟨by omega, ih (i + 1) (max v z) m3 his2 hfi2 f3 g3 (by omega) (fun c Z hc hj hZ => ?_) (fun hv => ?_)⟩
          · by_cases q : ∃ j, In n j ∧ j < i ∧ 0 < c j
            · have := up1 c Z hc q hZ
              omega
            · obtain ⟨j, hj, hji, hj0⟩ := hj
              have ej : j = i := by
                apply Classical.byContradiction
                intro g
                exact q ⟨j, hj, by omega, hj0⟩
              subst ej
              have hc' := Cn.less (t := (t : Int)) (i := j) (by rw [show (t : Int) + 1 = ((t + 1 : Nat) : Int) by omega]; exact hc) hi hj0 (fun k hk hkj => by
                have := hc.1 k hk
                rcases Int.lt_or_le 0 (c k) with g | g
                · exact absurd ⟨k, hk, hkj, g⟩ q
                · omega)
              have := hM.2.1 _ Z hc' (hZ.congr (fun k _ => by
                show m 27 k - c k = (if k = j then m 27 j - 1 else m 27 k) - (if k = j then c k + -1 else c k)
                by_cases g : k = j
                · rw [if_pos g, if_pos g, g]; omega
                · rw [if_neg g, if_neg g]))
              omega
          · rcases Int.lt_or_le v z with g | g
            · obtain ⟨c, Z, h1, h2, h4⟩ := hM.2.2 (Or.inl (by omega))
              refine ⟨_, Z, ?_, h2.congr (X' := fun k => m 27 k - (if k = i then c k + 1 else c k)) (fun k _ => ?_), by omega⟩
              · have := h1.more (f := f) hi hfi
                rw [show (t : Int) + 1 = ((t + 1 : Nat) : Int) by omega] at this
                exact this
              · show (if k = i then m 27 i - 1 else m 27 k) - c k = m 27 k - (if k = i then c k + 1 else c k)
                by_cases g : k = i
                · rw [if_pos g, if_pos g, g]; omega
                · rw [if_neg g, if_neg g]
            · obtain ⟨c, Z, h1, h2, h4⟩ := ex1 (by omega)
              exact ⟨c, Z, h1, h2, by omega⟩
    refine loop (n - f.toNat) f 0 m (by omega) (Int.le_refl _) Fr.rf (fun _ => rfl) (Int.le_refl 0) (fun c Z hc hj hZ => ?_) (fun q => absurd q (by omega))
    obtain ⟨j, hj, hjf, hj0⟩ := hj
    have := hc.2.1 j hj hjf
    omega
/-- k grains fewer may not come out even -/
def Bad (n : Nat) (W : Int → Int → Int) (br X : Int → Int) (T k : Int) : Prop := ∃ c t Z, 0 ≤ t ∧ t ≤ k ∧ Cn n c t 0 ∧ BaR n W br (fun i => X i - c i) Z ∧ T - k < sm n Z
def RkR (n : Nat) (W : Int → Int → Int) (br X : Int → Int) (T z : Int) : Prop := ((∀ k, 0 ≤ k → k ≤ 3 → ¬ Bad n W br X T k) ∧ z = 3) ∨ ∃ k, 0 ≤ k ∧ k ≤ 3 ∧ Bad n W br X T k ∧ (∀ j, 0 ≤ j → j < k → ¬ Bad n W br X T j) ∧ z = k - 1
theorem RkR.uniq {X : Int → Int} {T z y : Int} (h : RkR n W br X T z) (g : RkR n W br X T y) : z = y := by
  rcases h with ⟨h1, h2⟩ | ⟨k, h0, h3, h4, h5, h6⟩
  · rcases g with ⟨g1, g2⟩ | ⟨j, g0, g3, g4, g5, g6⟩
    · omega
    · exact absurd g4 (h1 j g0 g3)
  · rcases g with ⟨g1, g2⟩ | ⟨j, g0, g3, g4, g5, g6⟩
    · exact absurd h4 (g1 k h0 h3)
    · rcases Int.lt_trichotomy k j with q | q | q
      · exact absurd h4 (g5 k h0 q)
      · omega
      · exact absurd g4 (h5 j g0 q)
theorem Bad.congr {X X' : Int → Int} {T k : Int} (h : Bad n W br X T k) (e : ∀ i, In n i → X i = X' i) : Bad n W br X' T k := by
  obtain ⟨c, t, Z, h1, h2, h3, h4, h5⟩ := h
  exact ⟨c, t, Z, h1, h2, h3, h4.congr (fun i hi => by rw [e i hi]), h5⟩
end Rank
