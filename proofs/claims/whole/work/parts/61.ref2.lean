section Ref2
variable {l : Launch} {G : GT} {d : Nat} {m : MM} {n : Nat} {D : Int → Int} {W : Int → Int → Int} {br : Int → Int}
/-- on the way and behind settleHeap; m: when its rows are clean -/
def SetQ (n : Nat) (D : Int → Int) (W : Int → Int → Int) (br : Int → Int) (u : Int → Int) (m m' : MM) : Prop :=
  Fro 70 [93, 94] [41] m m' ∧ (∀ i, In n i → m' 93 i = m 93 i - Lp n W br u i) ∧ (∀ i, ¬ In n i → m' 93 i = m 93 i) ∧ (∀ i, In n i → m' 94 i = u i) ∧ (∀ i, 0 ≤ i → i < 5 → ¬ In n i → m' 94 i = 0) ∧ m' 70 41 = sm n (fun i => D i * u i)
theorem SetQ.tip (B : BW n D W br) {u : Int → Int} {m m1 m2 : MM} {p k : Int} (hp : In n p) (h : SetQ n D W br u m m1) (ht : TopQ n D W br p k m1 m2) : SetQ n D W br (fun i => u i + (if i = p then k else 0)) m m2 := by
  obtain ⟨f1, g1, g2, o1, o2, d1⟩ := h
  obtain ⟨f2, q1, q2, q3, q5⟩ := ht
  refine ⟨f1.tr f2, fun i hi => ?_, fun i hi => by rw [q2 i hi, g2 i hi], fun i hi => ?_, fun i h0 h5 hi => ?_, ?_⟩
  · rw [q1 i hi, g1 i hi, Lp_add, Lp_one p k i hp, (B.2.2.1 p i hp hi).2.2]
    by_cases e : i = p
    · subst e; rw [if_pos rfl]; omega
    · rw [if_neg e]; omega
  · rw [q3 i, o1 i hi]
  · rw [q3 i, o2 i h0 h5 hi, if_neg (fun e => hi (by rw [e]; exact hp))]; rfl
  · rw [q5, d1]
    have e : sm n (fun i => D i * (u i + (if i = p then k else 0))) = sm n (fun i => D i * u i) + sm n (fun i => if i = p then D p * k else 0) := by
      rw [← sm_add]
      exact sm_congr (fun i _ => by
        by_cases e : i = p
        · subst e; simp [Int.mul_add]
        · simp [e])
    rw [e, sm_one, if_pos hp]
theorem c_settleHeap (B : BW n D W br) (X : BM n D W br m) (hg : ∀ i, In n i → 0 ≤ m 93 i) {N : Int} (hN : sm n (m 93) ≤ N) (hN3 : N ≤ 1000000) :
    CI l G Y_M_settleHeap (d + 2) [.inr (.inr 70)] m (fun z m' => ∃ u, Stb n W br (m 93) u ∧ SetQ n D W br u m m' ∧ z = sm n u) := by
  have hn5 := B.1
  have hN0 : 0 ≤ N := by have := sm_nonneg hg; omega
  have L0 : ∀ i, Lp n W br (fun _ => 0) i = 0 := fun i => by
    unfold Lp
    have : sm n (fun j => W i j * 0) = 0 := (sm_congr (fun j _ => Int.mul_zero _)).trans (sm_zero n)
    rw [this]; simp
  refine e_M_settleHeap (fun _ => ?_)
  generalize hQ : (QI fun z m' => ∃ u, Stb n W br (m 93) u ∧ SetQ n D W br u m m' ∧ z = sm n u) = Q
  -- the last sum
  have last : ∀ (u : Int → Int) (m1 : MM), Stb n W br (m 93) u → Way n W br (m 93) u → SetQ n D W br u m m1 → ∀ (j : Nat) (i y : Int), i + j = n → 0 ≤ i → y = sm i.toNat u →
      Wq l G false Y_M_settleHeap (d + 2) Q 92 [(0, .inr (.inr 70)), (2, .inl y), (3, .inl i)] [] m1 := by
    intro u m1 hst hw hc j
    have X1 : BM n D W br m1 := X.fro hc.1 (by decide) (by decide) (by decide) (by decide) (by decide)
    have hsum := hw.sum B hg hN
    induction j with
    | zero =>
      intro i y hij h0 hy
      subst hQ
      refine s_M_settleHeap_92 y i (fun _ _ _ => ⟨d + 1, _, by omega, c_lots X1, fun z m2 hz _ _ => ?_⟩)
      obtain ⟨rfl, rfl⟩ := hz
      refine ⟨fun _ => ⟨u, hst, hc, ?_⟩, fun c => absurd (show i ≥ (n : Int) by omega) c⟩
      rw [hy, show i.toNat = n by omega]
    | succ j ih =>
      intro i y hij h0 hy
      have hi : In n i := by omega
      have hle : sm (i.toNat + 1) u ≤ sm n u := by
        have hmono : ∀ k : Nat, i.toNat + 1 + k ≤ n → sm (i.toNat + 1) u ≤ sm (i.toNat + 1 + k) u := by
          intro k
          induction k with
          | zero => intro _; exact Int.le_refl _
          | succ k ihk =>
            intro hk
            have h1 := ihk (by omega)
            have h2 := hw.1 ((i.toNat + 1 + k : Nat) : Int) ⟨by omega, by omega⟩
            show _ ≤ sm (i.toNat + 1 + k) u + u ((i.toNat + 1 + k : Nat) : Int)
            omega
        have := hmono (n - (i.toNat + 1)) (by omega)
        rwa [show i.toNat + 1 + (n - (i.toNat + 1)) = n by omega] at this
      have e1 : sm (i.toNat + 1) u = y + u i := by
        show sm i.toNat u + u (i.toNat : Int) = _
        rw [hy, Int.toNat_of_nonneg h0]
      have hui := hw.1 i hi
      have hy0 : 0 ≤ y := by rw [hy]; exact sm_nonneg (fun t ht => hw.1 t ⟨ht.1, by omega⟩)
      subst hQ
      refine s_M_settleHeap_92 y i (fun _ _ _ => ⟨d + 1, _, by omega, c_lots X1, fun z m2 hz _ _ => ?_⟩)
      obtain ⟨rfl, rfl⟩ := hz
      refine ⟨fun c => absurd c (by omega), fun _ => ?_⟩
      rw [hc.2.2.2.1 i hi]
      exact ⟨by omega, by omega, by omega, ih (i + 1) (y + u i) (by omega) (by omega) (by rw [← e1, show (i + 1).toNat = i.toNat + 1 by omega])⟩
  have outer : ∀ (f : Nat) (u : Int → Int) (x1 : Int) (m1 : MM), (30000002 - sm n u).toNat ≤ f → Way n W br (m 93) u → SetQ n D W br u m m1 → (x1 = 0 ∨ x1 = 1) → (x1 = 0 → ∀ i, In n i → m 93 i - Lp n W br u i < br i) →
      Wq l G false Y_M_settleHeap (d + 2) Q 27 [(0, .inr (.inr 70)), (1, .inl x1)] [] m1 := by
    intro f
    induction f with
    | zero =>
      intro u x1 m1 hf hw hc h01 hset
      have := hw.sum B hg hN
      omega
    | succ f ih =>
      intro u x1 m1 hf hw hc h01 hset
      have hsum := hw.sum B hg hN
      have hlast : x1 = 0 → Wq l G false Y_M_settleHeap (d + 2) Q 92 [(0, .inr (.inr 70)), (2, .inl 0), (3, .inl 0)] [] m1 := fun c => last u m1 (hw.done (hset c)) hw hc n 0 0 (by omega) (by omega) rfl
      have inner : ∀ (j : Nat) (i : Int) (v : Int → Int) (y2 : Int) (m2 : MM), i + j = n → 0 ≤ i → Way n W br (m 93) v → SetQ n D W br v m m2 → (y2 = 0 ∨ y2 = 1) → (y2 = 0 → sm n v = sm n u ∧ ∀ t, In n t → t < i → m 93 t - Lp n W br v t < br t) → (y2 = 1 → sm n u + 1 ≤ sm n v) →
          Wq l G false Y_M_settleHeap (d + 2) Q 35 [(0, .inr (.inr 70)), (1, .inl y2), (2, .inl i)] [] m2 := by
        intro j
        induction j with
        | zero =>
          intro i v y2 m2 hij h0i hw2 hc2 h012 hs0 hs1
          have X2 : BM n D W br m2 := X.fro hc2.1 (by decide) (by decide) (by decide) (by decide) (by decide)
          have hsum2 := hw2.sum B hg hN
          have hnext : Wq l G false Y_M_settleHeap (d + 2) Q 27 [(0, .inr (.inr 70)), (1, .inl y2)] [] m2 := by
            rcases h012 with e | e
            · subst e
              obtain ⟨q1, q2⟩ := hs0 rfl
              have hl2 := last v m2 (hw2.done (fun t ht => q2 t ht (by omega))) hw2 hc2 n 0 0 (by omega) (by omega) rfl
              subst hQ
              exact s_M_settleHeap_27 0 (fun _ _ => ⟨fun _ => hl2, fun c => absurd rfl c⟩)
            · subst e
              have := hs1 rfl
              exact ih v 1 m2 (by omega) hw2 hc2 (Or.inr rfl) (fun q => absurd q (by decide))
          subst hQ
          refine s_M_settleHeap_35 y2 i (fun _ _ _ => ⟨d + 1, _, by omega, c_lots X2, fun z m3 hz _ _ => ?_⟩)
          obtain ⟨rfl, rfl⟩ := hz
          exact ⟨fun _ => hnext, fun c => absurd (show i ≥ (n : Int) by omega) c⟩
        | succ j ihj =>
          intro i v y2 m2 hij h0i hw2 hc2 h012 hs0 hs1
          have X2 : BM n D W br m2 := X.fro hc2.1 (by decide) (by decide) (by decide) (by decide) (by decide)
          have hi : In n i := by omega
          have hbri := B.br hi
          have hcur := hw2.2.1 i hi
          have hcurN := hw2.cur B hN i hi
          have hsum2 := hw2.sum B hg hN
          have em := hc2.2.1 i hi
          have cont0 : m 93 i - Lp n W br v i < br i → Wq l G false Y_M_settleHeap (d + 2) Q 35 [(0, .inr (.inr 70)), (1, .inl y2), (2, .inl (i + 1))] [] m2 := fun hlt =>
            ihj (i + 1) v y2 m2 (by omega) (by omega) hw2 hc2 h012 (fun e => ⟨(hs0 e).1, fun t ht hti => by
              by_cases e2 : t = i
              · rw [e2]; exact hlt
              · exact (hs0 e).2 t ht (by omega)⟩) hs1
          have contT : ∀ m3, TopQ n D W br i ((m2 93 i).tdiv (br i)) m2 m3 → m2 93 i ≥ br i → Wq l G false Y_M_settleHeap (d + 2) Q 35 [(0, .inr (.inr 70)), (1, .inl 1), (2, .inl (i + 1))] [] m3 := fun m3 htq hge => by
            have td := tdiv_facts (x := m2 93 i) (y := br i) (by omega) hbri.1
            have hk1 : 1 ≤ (m2 93 i).tdiv (br i) := by
              rcases Int.lt_or_le ((m2 93 i).tdiv (br i)) 1 with q | q
              · have : (m2 93 i).tdiv (br i) = 0 := by omega
                rw [this] at td
                omega
              · exact q
            have hw3 := hw2.tip B hi td.1 (by rw [← em]; exact td.2.1)
            have hc3 := hc2.tip B hi htq
            refine ihj (i + 1) _ 1 m3 (by omega) (by omega) hw3 hc3 (Or.inr rfl) (fun q => absurd q (by decide)) (fun _ => ?_)
            rw [sm_add, sm_one, if_pos hi]
            rcases h012 with e | e
            · have := (hs0 e).1
              omega
            · have := hs1 e
              omega
          have hov := hc2.2.2.2.1 i hi
          have hvi := sm_term hw2.1 i hi
          have hv0 := hw2.1 i hi
          have hd0 := sm_nonneg (n := n) (f := fun i => D i * v i) (fun t ht => Int.mul_nonneg (B.2.1 t ht).1 (hw2.1 t ht))
          have hd1 : sm n (fun i => D i * v i) ≤ 2 * sm n v := by
            rw [← sm_mul]
            exact sm_le (fun t ht => Int.mul_le_mul_of_nonneg_right (B.2.1 t ht).2 (hw2.1 t ht))
          have hgb : ∀ t, In n t → -1000000000 ≤ m2 93 t ∧ m2 93 t ≤ 1000000000 := fun t htt => by
            have h1 := hw2.2.1 t htt
            have h2 := hw2.cur B hN t htt
            rw [hc2.2.1 t htt]
            omega
          have htip : 0 ≤ (m2 93 i).tdiv (br i) ∧ (m2 93 i).tdiv (br i) ≤ 10000000 := by
            have td := tdiv_facts (x := m2 93 i) (y := br i) (by omega) hbri.1
            refine ⟨td.1, ?_⟩
            have := Int.mul_le_mul_of_nonneg_left (show 1 ≤ br i by omega) td.1
            omega
          have hspill : -1000000000 ≤ m2 70 41 ∧ m2 70 41 ≤ 1000000000 := by rw [hc2.2.2.2.2.2]; omega
          subst hQ
          refine s_M_settleHeap_35 y2 i (fun _ _ _ => ⟨d + 1, _, by omega, c_lots X2, fun z m3 hz _ _ => ?_⟩)
          obtain ⟨rfl, rfl⟩ := hz
          refine ⟨fun c => absurd c (by omega), fun _ => ⟨by omega, d + 1, _, by omega, c_brimOf hn5 X2 hi, fun z m3 hz _ _ => ?_⟩⟩
          obtain ⟨rfl, rfl⟩ := hz
          refine ⟨fun c => ⟨by omega, d + 1, _, by omega, c_brimOf hn5 X2 hi, fun z m3 hz _ _ => ?_⟩, fun c => ⟨by omega, cont0 (by rw [← em]; omega)⟩⟩
          obtain ⟨rfl, rfl⟩ := hz
          exact ⟨hbri.1, d + 1, _, by omega, c_toppleIn B X2 hi htip hgb (by omega) hspill, fun m3 hm3 _ => ⟨by omega, contT m3 hm3 c⟩⟩
      have h35 := inner n 0 u 0 m1 (by omega) (by omega) hw hc (Or.inl rfl) (fun _ => ⟨rfl, fun t ht h => by omega⟩) (fun q => absurd q (by decide))
      subst hQ
      exact s_M_settleHeap_27 x1 (fun _ _ => ⟨hlast, fun _ => h35⟩)
  have start : ∀ (j : Nat) (i : Int) (m1 : MM), i + j = 5 → 0 ≤ i → Fro 70 [94] [] m m1 → (∀ t, 0 ≤ t → t < i → m1 94 t = 0) →
      Wq l G false Y_M_settleHeap (d + 2) Q 2 [(0, .inr (.inr 70)), (1, .inl i)] [] m1 := by
    intro j
    induction j with
    | zero =>
      intro i m1 hij h0 hf hz
      have hgo : Wq l G false Y_M_settleHeap (d + 2) Q 27 [(0, .inr (.inr 70)), (1, .inl 1)] [] (up m1 70 41 0) := by
        refine outer 30000002 (fun _ => 0) 1 _ (by rw [sm_zero]; decide) (Way.start hg) ⟨Fro_upo (hf.mono (by simp) (by simp)) (by simp), fun i hi => ?_, fun i hi => ?_, fun i hi => ?_, fun i h0 h5 hi => ?_, ?_⟩ (Or.inr rfl) (fun q => absurd q (by decide))
        · rw [up_ne (by decide), hf.1 93 (by decide) (by decide), L0]; omega
        · rw [up_ne (by decide), hf.1 93 (by decide) (by decide)]
        · rw [up_ne (by decide)]; exact hz i hi.1 (by omega)
        · rw [up_ne (by decide)]; exact hz i h0 (by omega)
        · rw [up_at]
          exact ((sm_congr (fun j _ => Int.mul_zero _)).trans (sm_zero n)).symm
      subst hQ
      refine s_M_settleHeap_2 i (fun _ _ => ⟨fun _ => ?_, fun c => absurd (show i ≥ 5 by omega) c⟩)
      rintro m2 rfl
      exact hgo
    | succ j ih =>
      intro i m1 hij h0 hf hz
      have hgo := ih (i + 1) (up m1 94 i 0) (by omega) (by omega) (Fro_up hf (by simp) (by decide)) (fun t t0 t1 => by
        rw [up_row]
        split
        · rfl
        · exact hz t t0 (by omega))
      subst hQ
      refine s_M_settleHeap_2 i (fun _ _ => ⟨fun c => absurd c (by omega), fun _ => ⟨by omega, ?_⟩⟩)
      rintro m2 rfl
      exact ⟨by omega, hgo⟩
  have := start 5 0 m (by omega) (by omega) Fro.rf (fun t t0 t1 => by omega)
  subst hQ
  exact this
end Ref2
