section Con3
variable {l : Launch} {G : GT} {d : Nat} {m : MM} {a b : Nat} {n : Nat} {D : Int → Int} {W : Int → Int → Int} {br : Int → Int}
theorem Lp_sum (B : BW n D W br) (u : Int → Int) : sm n (fun i => Lp n W br u i) = sm n (fun i => D i * u i) := by
  have e1 : sm n (fun i => Lp n W br u i) = sm n (fun i => D i * u i) + sm n (fun i => sm n (fun k => W i k * (u i - u k))) := by
    rw [← sm_add]
    exact sm_congr (fun i hi => Lp_alt B hi)
  have e2 : sm n (fun i => sm n (fun k => W i k * (u i - u k))) = - sm n (fun i => sm n (fun k => W i k * (u i - u k))) := by
    rw [← neg_sm]
    rw [sm_swap]
    exact sm_congr (fun k hk => by
      rw [← neg_sm]
      exact sm_congr (fun i hi => by
        rw [(B.2.2.1 i k hi hk).2.2, ← Int.mul_neg]
        congr 1
        omega))
  omega
theorem Way.cur (B : BW n D W br) {g u : Int → Int} (h : Way n W br g u) {N : Int} (hN : sm n g ≤ N) : ∀ i, In n i → g i - Lp n W br u i ≤ N := by
  intro i hi
  have h1 := sm_term (n := n) (f := fun i => g i - Lp n W br u i) h.2.1 i hi
  rw [sm_sub, Lp_sum B] at h1
  have h2 := sm_nonneg (n := n) (f := fun i => D i * u i) (fun j hj => Int.mul_nonneg (B.2.1 j hj).1 (h.1 j hj))
  have h1' : g i - Lp n W br u i ≤ sm n g - sm n (fun i => D i * u i) := h1
  omega
/-- what is said of sand on its way and behind calm -/
def CalmQ (n : Nat) (D : Int → Int) (W : Int → Int → Int) (br : Int → Int) (a : Nat) (u : Int → Int) (m m' : MM) : Prop :=
  Fr [a, a + 1, a + 2] m m' ∧ (∀ i, In n i → m' (a + 1) i = m (a + 1) i - Lp n W br u i) ∧ (∀ i, ¬ In n i → m' (a + 1) i = m (a + 1) i) ∧ (∀ i, In n i → m' (a + 2) i = m (a + 2) i + u i) ∧ (∀ i, ¬ In n i → m' (a + 2) i = m (a + 2) i) ∧ m' a 2 = m a 2 + sm n u ∧ m' a 3 = m a 3 + sm n (fun i => D i * u i)
theorem CalmQ.start (m : MM) : CalmQ n D W br a (fun _ => 0) m m := by
  have h0 : ∀ i, Lp n W br (fun _ => 0) i = 0 := fun i => by
    unfold Lp
    have : sm n (fun j => W i j * 0) = 0 := (sm_congr (fun j _ => Int.mul_zero _)).trans (sm_zero n)
    rw [this]; simp
  refine ⟨Fr.rf, fun i _ => by rw [h0]; omega, fun _ _ => rfl, fun i _ => (Int.add_zero _).symm, fun _ _ => rfl, by rw [sm_zero]; omega, ?_⟩
  have : sm n (fun i => D i * 0) = 0 := (sm_congr (fun j _ => Int.mul_zero _)).trans (sm_zero n)
  rw [this]; omega
theorem CalmQ.tip (B : BW n D W br) {u : Int → Int} {m m1 m2 : MM} {p k : Int} (hp : In n p) (h : CalmQ n D W br a u m m1) (ht : TipQ n D W br a p k m1 m2) : CalmQ n D W br a (fun i => u i + (if i = p then k else 0)) m m2 := by
  obtain ⟨f1, g1, g2, o1, o2, t1, d1⟩ := h
  obtain ⟨f2, q1, q2, q3, q4, q5⟩ := ht
  refine ⟨f1.tr f2, fun i hi => ?_, fun i hi => by rw [q2 i hi, g2 i hi], fun i hi => ?_, fun i hi => ?_, ?_, ?_⟩
  · rw [q1 i hi, g1 i hi, Lp_add, Lp_one p k i hp, (B.2.2.1 p i hp hi).2.2]
    by_cases e : i = p
    · subst e; rw [if_pos rfl]; omega
    · rw [if_neg e]; omega
  · rw [q3 i, o1 i hi]
    show m (a + 2) i + u i + _ = m (a + 2) i + (u i + _)
    omega
  · rw [q3 i, o2 i hi, if_neg (fun e => hi (by rw [e]; exact hp))]; omega
  · rw [q4, t1, sm_add, sm_one, if_pos hp]; omega
  · rw [q5, d1]
    have e : sm n (fun i => D i * (u i + (if i = p then k else 0))) = sm n (fun i => D i * u i) + sm n (fun i => if i = p then D p * k else 0) := by
      rw [← sm_add]
      exact sm_congr (fun i _ => by
        by_cases e : i = p
        · subst e; simp [Int.mul_add]
        · simp [e])
    rw [e, sm_one, if_pos hp]; omega
theorem tdiv_facts {x y : Int} (hx : 0 ≤ x) (hy : 0 < y) : 0 ≤ x.tdiv y ∧ x.tdiv y * y ≤ x ∧ x < x.tdiv y * y + y := by
  rw [Int.tdiv_eq_ediv_of_nonneg hx]
  have h1 := Int.ediv_nonneg hx (Int.le_of_lt hy)
  have h2 := Int.ediv_mul_le x (b := y) (by omega)
  have h3 := Int.lt_ediv_add_one_mul_self x hy
  rw [Int.add_mul, Int.one_mul] at h3
  exact ⟨h1, h2, h3⟩
theorem c_calm (ha : isS a) (hb : isB b) (B : BW n D W br) (X : BX n D W br b m) (hg : ∀ i, In n i → 0 ≤ m (a + 1) i) {N : Int} (hN : sm n (m (a + 1)) ≤ N) (hN3 : N ≤ 30000) (ho : ∀ i, In n i → -100000000 ≤ m (a + 2) i ∧ m (a + 2) i ≤ 100000000) (ht : -100000000 ≤ m a 2 ∧ m a 2 ≤ 100000000) (hdr : -100000000 ≤ m a 3 ∧ m a 3 ≤ 100000000) :
    CV l G Y_Sand_calm (d + 2) [.inr (.inr a), .inr (.inr b)] m (fun m' => ∃ u, Stb n W br (m (a + 1)) u ∧ CalmQ n D W br a u m m') := by
  have hn5 := B.1
  have hN0 : 0 ≤ N := by have := sm_nonneg hg; omega
  refine e_Sand_calm a b ha hb (fun _ => ?_)
  generalize hQ : (QV fun m' => ∃ u, Stb n W br (m (a + 1)) u ∧ CalmQ n D W br a u m m') = Q
  have outer : ∀ (f : Nat) (u : Int → Int) (x2 x3 : Int) (m1 : MM), (900002 - sm n u).toNat ≤ f → Way n W br (m (a + 1)) u → CalmQ n D W br a u m m1 → (x2 = 0 ∨ x2 = 1) → (x2 = 0 → ∀ i, In n i → m (a + 1) i - Lp n W br u i < br i) → 0 ≤ x3 → x3 ≤ sm n u + (1 - x2) →
      Wq l G false Y_Sand_calm (d + 2) Q 4 [(0, .inr (.inr a)), (1, .inr (.inr b)), (2, .inl x2), (3, .inl x3)] [] m1 := by
    intro f
    induction f with
    | zero =>
      intro u x2 x3 m1 hf hw hc h01 hset h0 hx3
      have := hw.sum B hg hN
      omega
    | succ f ih =>
      intro u x2 x3 m1 hf hw hc h01 hset h0 hx3
      have hsum := hw.sum B hg hN
      subst hQ
      refine s_Sand_calm_4 x2 x3 a b ha hb (fun _ _ _ => ⟨fun c => absurd c (by omega), fun _ => ⟨fun c => ⟨u, hw.done (hset c), hc⟩, fun c => ?_⟩⟩)
      generalize hQ : (QV fun m' => ∃ u, Stb n W br (m (a + 1)) u ∧ CalmQ n D W br a u m m') = Q at ih ⊢
      have hx2 : x2 = 1 := by omega
      have inner : ∀ (j : Nat) (i : Int) (v : Int → Int) (y2 : Int) (m2 : MM), i + j = n → 0 ≤ i → Way n W br (m (a + 1)) v → CalmQ n D W br a v m m2 → (y2 = 0 ∨ y2 = 1) → (y2 = 0 → sm n v = sm n u ∧ ∀ t, In n t → t < i → m (a + 1) t - Lp n W br v t < br t) → (y2 = 1 → sm n u + 1 ≤ sm n v) →
          Wq l G false Y_Sand_calm (d + 2) Q 19 [(0, .inr (.inr a)), (1, .inr (.inr b)), (2, .inl y2), (3, .inl x3), (4, .inl i)] [] m2 := by
        intro j
        induction j with
        | zero =>
          intro i v y2 m2 hij h0i hw2 hc2 h012 hs0 hs1
          have X2 : BX n D W br b m2 := X.sand ha hb hc2.1
          have hsum2 := hw2.sum B hg hN
          subst hQ
          refine s_Sand_calm_19 y2 x3 i a b ha hb (fun _ _ _ _ => ⟨fun _ => ⟨by omega, ?_⟩, fun c => absurd (show i ≥ m2 b 0 by rw [X2.1]; omega) c⟩)
          rcases h012 with e | e
          · subst e
            obtain ⟨q1, q2⟩ := hs0 rfl
            have hsum3 := sm_nonneg hw.1
            refine s_Sand_calm_4 0 (x3 + 1) a b ha hb (fun _ _ _ => ⟨fun c => absurd c (by omega), fun _ => ⟨fun _ => ⟨v, hw2.done (fun t ht => q2 t ht (by omega)), hc2⟩, fun c => absurd rfl c⟩⟩)
          · subst e
            have := hs1 rfl
            exact ih v 1 (x3 + 1) m2 (by omega) hw2 hc2 (Or.inr rfl) (fun q => absurd q (by decide)) (by omega) (by omega)
        | succ j ihj =>
          intro i v y2 m2 hij h0i hw2 hc2 h012 hs0 hs1
          have X2 : BX n D W br b m2 := X.sand ha hb hc2.1
          have hi : In n i := by omega
          have hbri := B.br hi
          have hcur := hw2.2.1 i hi
          have hcurN := hw2.cur B hN i hi
          have hsum2 := hw2.sum B hg hN
          have em := hc2.2.1 i hi
          have cont0 : m (a + 1) i - Lp n W br v i < br i → Wq l G false Y_Sand_calm (d + 2) Q 19 [(0, .inr (.inr a)), (1, .inr (.inr b)), (2, .inl y2), (3, .inl x3), (4, .inl (i + 1))] [] m2 := fun hlt =>
            ihj (i + 1) v y2 m2 (by omega) (by omega) hw2 hc2 h012 (fun e => ⟨(hs0 e).1, fun t ht hti => by
              by_cases e2 : t = i
              · rw [e2]; exact hlt
              · exact (hs0 e).2 t ht (by omega)⟩) hs1
          have contT : ∀ m3, TipQ n D W br a i ((m2 (a + 1) i).tdiv (br i)) m2 m3 → ¬ (m2 (a + 1) i < br i) → Wq l G false Y_Sand_calm (d + 2) Q 19 [(0, .inr (.inr a)), (1, .inr (.inr b)), (2, .inl 1), (3, .inl x3), (4, .inl (i + 1))] [] m3 := fun m3 htq hge => by
            have td := tdiv_facts (x := m2 (a + 1) i) (y := br i) (by omega) hbri.1
            have hk1 : 1 ≤ (m2 (a + 1) i).tdiv (br i) := by
              rcases Int.lt_or_le ((m2 (a + 1) i).tdiv (br i)) 1 with q | q
              · have : (m2 (a + 1) i).tdiv (br i) = 0 := by omega
                rw [this] at td
                omega
              · exact q
            have hw3 := hw2.tip B hi td.1 (by rw [← em]; exact td.2.1)
            have hc3 := hc2.tip B hi htq
            refine ihj (i + 1) _ 1 m3 (by omega) (by omega) hw3 hc3 (Or.inr rfl) (fun q => absurd q (by decide)) (fun _ => ?_)
            rw [sm_add, sm_one, if_pos hi]
            rcases h012 with e | e
            · have := (hs0 e).1
              omega
            · have := hs1 e
              omega
          have hoi := ho i hi
          have hov := hc2.2.2.2.1 i hi
          have hvi := sm_term hw2.1 i hi
          have hv0 := hw2.1 i hi
          have hd0 := sm_nonneg (n := n) (f := fun i => D i * v i) (fun t ht => Int.mul_nonneg (B.2.1 t ht).1 (hw2.1 t ht))
          have hd1 : sm n (fun i => D i * v i) ≤ 2 * sm n v := by
            rw [← sm_mul]
            exact sm_le (fun t ht => Int.mul_le_mul_of_nonneg_right (B.2.1 t ht).2 (hw2.1 t ht))
          have hv2 := sm_nonneg hw2.1
          have hgb : ∀ t, In n t → -1000000000 ≤ m2 (a + 1) t ∧ m2 (a + 1) t ≤ 1000000000 := fun t htt => by
            have h1 := hw2.2.1 t htt
            have h2 := hw2.cur B hN t htt
            rw [hc2.2.1 t htt]
            omega
          have htip : 0 ≤ (m2 (a + 1) i).tdiv (br i) ∧ (m2 (a + 1) i).tdiv (br i) ≤ 10000000 := by
            have td := tdiv_facts (x := m2 (a + 1) i) (y := br i) (by omega) hbri.1
            refine ⟨td.1, ?_⟩
            have := Int.mul_le_mul_of_nonneg_left (show 1 ≤ br i by omega) td.1
            omega
          subst hQ
          refine s_Sand_calm_19 y2 x3 i a b ha hb (fun _ _ _ _ => ⟨fun c => absurd c (by rw [X2.1]; omega), fun _ => ?_⟩)
          rw [X2.2.2.1 i hi]
          refine ⟨by omega, fun c => absurd c (by omega), fun _ => ⟨by omega, fun c => ⟨by omega, cont0 (by rw [← em]; exact c)⟩, fun c => ⟨by omega, hbri.1, d + 1, _, by omega, c_tip ha hb B X2 hi htip hgb (by omega) ?_ ?_, fun m3 hm3 _ => ⟨by omega, contT m3 hm3 c⟩⟩⟩⟩
          · rw [hc2.2.2.2.2.2.1]; omega
          · rw [hc2.2.2.2.2.2.2]; omega
      rw [hx2] at hx3
      have := inner n 0 u 0 m1 (by omega) (by omega) hw hc (Or.inl rfl) (fun _ => ⟨rfl, fun t ht h => by omega⟩) (fun q => absurd q (by decide))
      subst hQ
      exact this
  subst hQ
  exact outer 900002 (fun _ => 0) 1 0 m (by rw [sm_zero]; decide) (Way.start hg) (CalmQ.start m) (Or.inr rfl) (fun q => absurd q (by decide)) (by omega) (by rw [sm_zero]; omega)
end Con3
