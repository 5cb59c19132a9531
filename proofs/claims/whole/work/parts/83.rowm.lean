/-! row of the reference; a toppling whose counters may wrap -/
theorem sw_M_toppleIn_18 {l : Launch} {G : GT} {d : Nat} {P : MM → Prop} {m : MM} (x1 : Int) (x2 : Int) (x3 : Int)  (H : wfM m → inR x1 → inR x2 → inR x3 → ∃ (e1 : Nat) (P2 : Int → MM → Prop), e1 < d ∧ CI l G Y_M_lots e1 [.inr (.inr 70)] m P2 ∧ (∀ z7 m8, P2 z7 m8 → inR z7 → wfM m8 → ((x3 ≥ z7 → (∃ (e17 : Nat) (P18 : Int → MM → Prop), e17 < d ∧ CI l G Y_M_drainOf e17 [.inr (.inr 70), .inl x1] m8 P18 ∧ (∀ z23 m24, P18 z23 m24 → inR z23 → wfM m24 → ((inR (x2 * z23)) ∧ (∀ m30, m30 = up m24 70 41 (w32 ((m8 70 41) + (x2 * z23))) → ((0 ≤ x1 ∧ x1 < (5 : Int)) ∧ ((0 ≤ x1 ∧ x1 < (5 : Int)) ∧ (∀ m35, m35 = up m30 94 x1 (w32 ((m30 94 x1) + x2)) → (P m35))))))))) ∧ (¬ (x3 ≥ z7) → ((0 ≤ x3 ∧ x3 < (5 : Int)) ∧ (∃ (e44 : Nat) (P45 : Int → MM → Prop), e44 < d ∧ CI l G Y_M_wideOf e44 [.inr (.inr 70), .inl x1, .inl x3] m8 P45 ∧ (∀ z50 m51, P45 z50 m51 → inR z50 → wfM m51 → ((inR (x2 * z50)) ∧ ((inR ((m8 93 x3) + (x2 * z50))) ∧ ((0 ≤ x3 ∧ x3 < (5 : Int)) ∧ (∀ m59, m59 = up m51 93 x3 ((m8 93 x3) + (x2 * z50)) → ((inR (x3 + 1)) ∧ (Wq l G false Y_M_toppleIn d (QV P) 18 [(0, .inr (.inr 70)), (1, .inl x1), (2, .inl x2), (3, .inl (x3 + 1))] [] m59))))))))))))) : Wq l G false Y_M_toppleIn d (QV P) 18 [(0, .inr (.inr 70)), (1, .inl x1), (2, .inl x2), (3, .inl x3)] [] m := by
  refine Wp.wf (fun hw _ hl hs => ?_)
  have H0 := H hw (hl _ (List.mem_of_getElem? (i := 1) rfl)) (hl _ (List.mem_of_getElem? (i := 2) rfl)) (hl _ (List.mem_of_getElem? (i := 3) rfl))
  refine Wp.iload_n 3 3 d_M_toppleIn_18 rfl rfl ?_
  refine Wp.aload_n 0 0 d_M_toppleIn_19 rfl rfl ?_
  obtain ⟨e1, P2, hd3, ho4, H5⟩ := H0
  refine Wq.VI (st := [.inl x3]) [] d_M_toppleIn_20 k_M_lots ml_M_338 rfl rfl rfl (fun h => by cases h) (Nat.le_of_ble_eq_true rfl) hd3 ho4 (fun z7 m8 hp9 hz10 hw11 => ?_)
  have H6 := H5 z7 m8 hp9 hz10 hw11
  obtain ⟨H13, H14⟩ := H6
  refine Wp.icmp_ge 49 d_M_toppleIn_23 (by decide) (fun c12 => ?_) (fun c12 => ?_)
  · have H15 := H13 c12
    refine Wp.aload_n 0 0 d_M_toppleIn_49 rfl rfl ?_
    refine Wp.dup d_M_toppleIn_50 rfl ?_
    refine Wq.getI 41 rfl d_M_toppleIn_51 fl_M_372 rfl (Or.inl rfl) ?_
    refine Wp.iload_n 2 2 d_M_toppleIn_54 rfl rfl ?_
    refine Wp.aload_n 0 0 d_M_toppleIn_55 rfl rfl ?_
    refine Wp.iload_n 1 1 d_M_toppleIn_56 rfl rfl ?_
    obtain ⟨e17, P18, hd19, ho20, H21⟩ := H15
    refine Wq.VI (st := [.inl x2, .inl (m8 70 41), .inr (.inr 70)]) [.inl x1] d_M_toppleIn_57 k_M_drainOf ml_M_345 rfl rfl rfl (fun h => by cases h) (Nat.le_of_ble_eq_true rfl) hd19 ho20 (fun z23 m24 hp25 hz26 hw27 => ?_)
    have H22 := H21 z23 m24 hp25 hz26 hw27
    obtain ⟨s28, H29⟩ := H22
    refine Wp.imul d_M_toppleIn_60 s28 ?_
    refine Wp.iaddw d_M_toppleIn_61 ?_
    refine Wq.putI 41 rfl d_M_toppleIn_62 fl_M_372 (fun _ _ _ h => by cases h; rfl) rfl rfl rfl (fun m30 hm31 => ?_)
    have H32 := H29 m30 hm31
    refine Wp.aload_n 0 0 d_M_toppleIn_65 rfl rfl ?_
    refine Wp.getP 94 d_M_toppleIn_66 fl_M_85 rfl rfl rfl ?_
    refine Wp.iload_n 1 1 d_M_toppleIn_69 rfl rfl ?_
    refine Wp.dup2 d_M_toppleIn_70 rfl rfl ?_
    obtain ⟨s33, H34⟩ := H32
    refine Wp.iald d_M_toppleIn_71 rfl (Or.inl rfl) s33.1 s33.2 ?_
    refine Wp.iload_n 2 2 d_M_toppleIn_72 rfl rfl ?_
    refine Wp.iaddw d_M_toppleIn_73 ?_
    obtain ⟨s40, H41⟩ := H34
    refine Wq.iast d_M_toppleIn_74 rfl s40.1 s40.2 (fun m35 hm36 => ?_)
    have H37 := H41 m35 hm36
    exact Wq.vret d_M_toppleIn_75 rfl H37
  · have H16 := H14 c12
    refine Wp.aload_n 0 0 d_M_toppleIn_26 rfl rfl ?_
    refine Wp.getP 93 d_M_toppleIn_27 fl_M_82 rfl rfl rfl ?_
    refine Wp.iload_n 3 3 d_M_toppleIn_30 rfl rfl ?_
    refine Wp.dup2 d_M_toppleIn_31 rfl rfl ?_
    obtain ⟨s42, H43⟩ := H16
    refine Wp.iald d_M_toppleIn_32 rfl (Or.inl rfl) s42.1 s42.2 ?_
    refine Wp.iload_n 2 2 d_M_toppleIn_33 rfl rfl ?_
    refine Wp.aload_n 0 0 d_M_toppleIn_34 rfl rfl ?_
    refine Wp.iload_n 1 1 d_M_toppleIn_35 rfl rfl ?_
    refine Wp.iload_n 3 3 d_M_toppleIn_36 rfl rfl ?_
    obtain ⟨e44, P45, hd46, ho47, H48⟩ := H43
    refine Wq.VI (st := [.inl x2, .inl (m8 93 x3), .inl x3, .inr (.inr 93)]) [.inl x1, .inl x3] d_M_toppleIn_37 k_M_wideOf ml_M_348 rfl rfl rfl (fun h => by cases h) (Nat.le_of_ble_eq_true rfl) hd46 ho47 (fun z50 m51 hp52 hz53 hw54 => ?_)
    have H49 := H48 z50 m51 hp52 hz53 hw54
    obtain ⟨s55, H56⟩ := H49
    refine Wp.imul d_M_toppleIn_40 s55 ?_
    obtain ⟨s57, H58⟩ := H56
    refine Wp.iadd d_M_toppleIn_41 s57 ?_
    obtain ⟨s66, H67⟩ := H58
    refine Wq.iast d_M_toppleIn_42 rfl s66.1 s66.2 (fun m59 hm60 => ?_)
    have H61 := H67 m59 hm60
    obtain ⟨s64, H65⟩ := H61
    refine Wp.iinc 3 3 [(0, .inr (.inr 70)), (1, .inl x1), (2, .inl x2), (3, .inl (x3 + 1))] d_M_toppleIn_43 rfl s64 (by decide) rfl ?_
    refine Wp.goto 18 d_M_toppleIn_46 (by decide) ?_
    exact H65
section RowM
variable {l : Launch} {G : GT} {d : Nat} {m : MM} {n : Nat} {D : Int → Int} {W : Int → Int → Int} {br : Int → Int}
/-- what is said behind toppleIn, whatever the counters were -/
def TopW (n : Nat) (D : Int → Int) (W : Int → Int → Int) (br : Int → Int) (p k : Int) (m m' : MM) : Prop :=
  Fro 70 [93, 94] [41] m m' ∧ (∀ i, In n i → m' 93 i = m 93 i - (if i = p then br p * k else 0) + W p i * k) ∧ (∀ i, ¬ In n i → m' 93 i = m 93 i) ∧ m' 70 41 = w32 (m 70 41 + D p * k)
theorem c_toppleW (B : BW n D W br) (X : BM n D W br m) {p k : Int} (hp : In n p) (hk : 0 ≤ k ∧ k ≤ 10000000) (hg : ∀ i, In n i → -1000000000 ≤ m 93 i ∧ m 93 i ≤ 1000000000) :
    CV l G Y_M_toppleIn (d + 1) [.inr (.inr 70), .inl p, .inl k] m (TopW n D W br p k m) := by
  have hn5 := B.1
  have hbr := B.br hp
  have hbk := mul_rng (x := br p) ⟨by omega, hbr.2⟩ hk
  have hDk := mul_rng (x := D p) ⟨(B.2.1 p hp).1, by have := (B.2.1 p hp).2; omega⟩ hk
  have hWk : ∀ i, In n i → 0 ≤ W p i * k ∧ W p i * k ≤ 12 * 10000000 := fun i hi => mul_rng ⟨(B.2.2.1 p i hp hi).1, by have := (B.2.2.1 p i hp hi).2.1; omega⟩ hk
  have hgp := hg p hp
  refine e_M_toppleIn p k (fun _ _ _ => ⟨by omega, d, _, Nat.lt_succ_self d, c_brimOf hn5 X hp, fun z m1 hz _ _ => ?_⟩)
  obtain ⟨rfl, rfl⟩ := hz
  rw [Int.mul_comm k]
  refine ⟨by omega, by omega, by omega, ?_⟩
  rintro m2 rfl
  have loop : ∀ (j : Nat) (i : Int) (m1 : MM), i + j = n → 0 ≤ i → Fro 70 [93] [] m m1 → (∀ t, m1 93 t = m 93 t - (if t = p then br p * k else 0) + (if 0 ≤ t ∧ t < i then W p t * k else 0)) →
      Wq l G false Y_M_toppleIn (d + 1) (QV (TopW n D W br p k m)) 18 [(0, .inr (.inr 70)), (1, .inl p), (2, .inl k), (3, .inl i)] [] m1 := by
    intro j
    induction j with
    | zero =>
      intro i m1 hij h0 hf hr
      have X1 : BM n D W br m1 := X.fro hf (by decide) (by decide) (by decide) (by decide) (by decide)
      have e41 : m1 70 41 = m 70 41 := hf.2 41 (by decide)
      refine sw_M_toppleIn_18 p k i (fun _ _ _ _ => ⟨d, _, Nat.lt_succ_self d, c_lots X1, fun z m2 hz _ _ => ?_⟩)
      obtain ⟨rfl, rfl⟩ := hz
      refine ⟨fun _ => ⟨d, _, Nat.lt_succ_self d, c_drainOf hn5 X1 hp, fun z m2 hz _ _ => ?_⟩, fun c => absurd (show i ≥ (n : Int) by omega) c⟩
      obtain ⟨rfl, rfl⟩ := hz
      rw [Int.mul_comm k, e41]
      refine ⟨by omega, ?_⟩
      rintro m3 rfl
      refine ⟨by omega, by omega, ?_⟩
      rintro m4 rfl
      refine ⟨Fro_up (Fro_upo (hf.mono (by simp) (by simp)) (by simp)) (by simp) (by decide), fun t ht => ?_, fun t ht => ?_, ?_⟩
      · rw [up_ne (by decide), up_ne (by decide), hr t, if_pos (by omega : 0 ≤ t ∧ t < i)]
      · rw [up_ne (by decide), up_ne (by decide), hr t, if_neg (show ¬ (t = p) from fun e => ht (by rw [e]; exact hp)), if_neg (by omega)]; omega
      · rw [up_ne (by decide), up_at]
    | succ j ih =>
      intro i m1 hij h0 hf hr
      have X1 : BM n D W br m1 := X.fro hf (by decide) (by decide) (by decide) (by decide) (by decide)
      have hi : In n i := by omega
      have hw := hWk i hi
      have hgi := hg i hi
      have hri := hr i
      rw [if_neg (show ¬ (0 ≤ i ∧ i < i) by omega)] at hri
      have hb2 : -1200000000 ≤ m1 93 i ∧ m1 93 i ≤ 1200000000 := by
        rw [hri]
        split <;> omega
      refine sw_M_toppleIn_18 p k i (fun _ _ _ _ => ⟨d, _, Nat.lt_succ_self d, c_lots X1, fun z m2 hz _ _ => ?_⟩)
      obtain ⟨rfl, rfl⟩ := hz
      refine ⟨fun c => absurd c (by omega), fun _ => ⟨by omega, d, _, Nat.lt_succ_self d, c_wideOf hn5 X1 hp hi, fun z m2 hz _ _ => ?_⟩⟩
      obtain ⟨rfl, rfl⟩ := hz
      rw [Int.mul_comm k]
      refine ⟨by omega, by omega, by omega, ?_⟩
      rintro m2 rfl
      refine ⟨by omega, ih (i + 1) _ (by omega) (by omega) (Fro_up hf (by simp) (by decide)) (fun t => ?_)⟩
      rw [up_row]
      by_cases e : t = i
      · subst e
        rw [if_pos rfl, hri, if_pos (show 0 ≤ t ∧ t < t + 1 by omega)]
        omega
      · rw [if_neg e, hr t]
        by_cases e2 : 0 ≤ t ∧ t < i
        · rw [if_pos e2, if_pos (show 0 ≤ t ∧ t < i + 1 by omega)]
        · rw [if_neg e2, if_neg (show ¬ (0 ≤ t ∧ t < i + 1) by omega)]
  refine loop n 0 _ (by omega) (by omega) (Fro_up Fro.rf (by simp) (by decide)) (fun t => ?_)
  rw [up_row, if_neg (show ¬ (0 ≤ t ∧ t < 0) by omega)]
  split
  · rename_i e; rw [e]; omega
  · omega
/-- no minimal settling owes anything -/
theorem Stb.way (B : BW n D W br) {g u : Int → Int} (hg : ∀ i, In n i → 0 ≤ g i) (h : Stb n W br g u) : Way n W br g u := by
  refine ⟨h.1, fun i hi => ?_, h.2.2⟩
  rcases Int.lt_or_le (g i - Lp n W br u i) 0 with q | q
  · exfalso
    have hb := B.br hi
    have e : ∀ t, In n t → Lp n W br (fun j => u j - u1 i j) t = Lp n W br u t - ((if t = i then br i * 1 else 0) - W i t * 1) := fun t ht => by rw [Lp_sub, Lp_u1 B hi ht]
    have hui : 0 < u i := by
      rcases Int.lt_or_le 0 (u i) with r | r
      · exact r
      · have r0 : u i = 0 := by have := h.1 i hi; omega
        have e0 : Lp n W br u i = br i * u i - sm n (fun j => W i j * u j) := rfl
        rw [r0, Int.mul_zero] at e0
        have hs := sm_nonneg (n := n) (f := fun j => W i j * u j) (fun j hj => Int.mul_nonneg (B.2.2.1 i j hi hj).1 (h.1 j hj))
        have := hg i hi
        omega
    have hmin := h.2.2 (fun j => u j - u1 i j) (fun t ht => ?_) (fun t ht => ?_) i hi
    · have : u i ≤ u i - u1 i i := hmin
      have e1 : u1 i i = 1 := if_pos rfl
      omega
    · have := h.1 t ht
      show 0 ≤ u t - (if t = i then 1 else 0)
      by_cases r : t = i
      · rw [if_pos r, r]; omega
      · rw [if_neg r]; omega
    · have hs := h.2.1 t ht
      have hw := (B.2.2.1 i t hi ht).1
      rw [e t ht]
      by_cases r : t = i
      · rw [if_pos r, r] 
        rw [r] at hw
        omega
      · rw [if_neg r]; omega
  · exact q
theorem lst_ovr (hn : n ≤ 5) {g : Int → Int} {z : Int} (h : (z = -1 ∧ ∀ i, In n i → g i < br i) ∨ (In n z ∧ br z ≤ g z ∧ ∀ i, 0 ≤ i → i < z → g i < br i)) : (z < 0 ↔ ovr n br g = 0) ∧ (ovr n br g ≠ 0 → z = lsb (ovr n br g)) := by
  rcases h with ⟨rfl, h⟩ | ⟨hz, h1, h2⟩
  · have e : ovr n br g = 0 := by
      have : ovr n br g = bs n (fun _ => false) := bs_congr (fun i hi => decide_eq_false (by have := h i hi; omega))
      rw [this]
      exact sm_zero n
    exact ⟨⟨fun _ => e, fun _ => by decide⟩, fun q => absurd e q⟩
  · have e : ovr n br g ≠ 0 := fun q => by
      have := bs_zero hn _ q z hz
      exact of_decide_eq_false this h1
    refine ⟨⟨fun q => absurd hz.1 (by omega), fun q => absurd q e⟩, fun _ => ?_⟩
    obtain ⟨a1, a2, a3⟩ := bs_lsb hn (fun i => decide (br i ≤ g i)) e
    show z = lsb (bs n (fun i => decide (br i ≤ g i)))
    have a2' := of_decide_eq_true a2
    rcases Int.lt_trichotomy z (lsb (bs n (fun i => decide (br i ≤ g i)))) with q | q | q
    · exact absurd h1 (of_decide_eq_false (a3 z hz.1 q))
    · exact q
    · have := h2 _ a1.1 q
      omega
/-- row of the reference behind k topplings -/
def RwM (n : Nat) (W : Int → Int → Int) (br : Int → Int) (N : Int) (m m1 : MM) (k : Nat) : Prop :=
  Fro 70 [93, 94, 97] [41, 48] m m1 ∧ (∀ i, In n i → m1 93 i = gI n W br (m 90) k i) ∧ m1 70 48 = k ∧ (∀ j : Nat, j < k → m1 97 j = lsb (ovr n br (gI n W br (m 90) j)) ∧ ovr n br (gI n W br (m 90) j) ≠ 0) ∧ (∀ i, In n i → 0 ≤ gI n W br (m 90) k i) ∧ sm n (gI n W br (m 90) k) ≤ N
theorem c_rowM (B : BW n D W br) (X : BM n D W br m) (hg : ∀ i, In n i → 0 ≤ m 90 i) {N : Int} (hN : sm n (m 90) ≤ N) (hN3 : N ≤ 1000000) : CI l G Y_M_row (d + 3) [.inr (.inr 70)] m (fun z m' => ∃ K : Nat, Fro 70 [93, 94, 97] [41, 48] m m' ∧ m' 70 48 = K ∧ RowR n W br (m 90) K z (m' 97)) := by
  have hn5 := B.1
  have fin : ∀ (k : Nat) (m1 : MM), k ≤ 60 → RwM n W br N m m1 k → (k = 60 ∨ ovr n br (gI n W br (m 90) k) = 0) → CI l G Y_M_settleHeap (d + 2) [.inr (.inr 70)] m1 (fun z m' => (z ≤ 30000000 ∧ 0 ≤ z ∧ m1 70 48 ≤ 60 ∧ 0 ≤ m1 70 48) ∧ ∃ K : Nat, Fro 70 [93, 94, 97] [41, 48] m m' ∧ m' 70 48 = K ∧ RowR n W br (m 90) K (m1 70 48 + z) (m' 97)) := by
    intro k m1 hk h h0
    obtain ⟨f, g1, c1, l1, p1, s1⟩ := h
    have X1 := X.fro f (by decide) (by decide) (by decide) (by decide) (by decide)
    have hg1 : ∀ i, In n i → 0 ≤ m1 93 i := fun i hi => by rw [g1 i hi]; exact p1 i hi
    have hN1 : sm n (m1 93) ≤ N := by rw [sm_congr g1]; exact s1
    refine (c_settleHeap B X1 hg1 hN1 hN3).imp (fun z m' h => ?_)
    obtain ⟨u, hu, sq, hz⟩ := h
    have hw := (hu.way B hg1).sum B hg1 hN1
    have hu0 := sm_nonneg hu.1
    have e97 : m' 97 = m1 97 := sq.1.1 97 (by decide) (by decide)
    have e48 : m' 70 48 = m1 70 48 := sq.1.2 48 (by decide)
    refine ⟨⟨by omega, by omega, by omega, by omega⟩, k, f.tr (sq.1.mono (by simp) (by simp)), by rw [e48]; exact c1, hk, fun j hj => (l1 j hj).2, h0, fun j hj => by rw [e97]; exact (l1 j hj).1, u, hu.congr g1, by rw [c1, hz]⟩
  have loop : ∀ (j k : Nat) (z : Int) (m1 : MM), k + j = 60 → RwM n W br N m m1 k → ((z < 0 ↔ ovr n br (gI n W br (m 90) k) = 0) ∧ (ovr n br (gI n W br (m 90) k) ≠ 0 → z = lsb (ovr n br (gI n W br (m 90) k)))) → Wq l G false Y_M_row (d + 3) (QI fun z m' => ∃ K : Nat, Fro 70 [93, 94, 97] [41, 48] m m' ∧ m' 70 48 = K ∧ RowR n W br (m 90) K z (m' 97)) 14 [(0, .inr (.inr 70)), (1, .inl z)] [] m1 := by
    intro j
    induction j with
    | zero =>
      intro k z m1 hk h hz
      have c1 := h.2.2.1
      exact s_M_row_14 _ (fun _ _ => ⟨fun _ => ⟨d + 2, _, by omega, fin k m1 (by omega) h (Or.inl (by omega)), fun z m2 h2 _ _ => ⟨by omega, h2.2⟩⟩, fun _ => ⟨fun _ => ⟨d + 2, _, by omega, fin k m1 (by omega) h (Or.inl (by omega)), fun z m2 h2 _ _ => ⟨by omega, h2.2⟩⟩, fun c => absurd (show m1 70 48 ≥ 60 by omega) c⟩⟩)
    | succ j ih =>
      intro k z m1 hk h hz
      have X1 := X.fro h.1 (by decide) (by decide) (by decide) (by decide) (by decide)
      have c1 := h.2.2.1
      refine s_M_row_14 _ (fun _ _ => ⟨fun c => ⟨d + 2, _, by omega, fin k m1 (by omega) h (Or.inr (hz.1.mp c)), fun z m2 h2 _ _ => ⟨by omega, h2.2⟩⟩, fun c => ⟨fun c2 => absurd c2 (by omega), fun _ => ⟨by omega, ?_⟩⟩⟩)
      have ho : ovr n br (gI n W br (m 90) k) ≠ 0 := fun q => c (hz.1.mpr q)
      have hz2 := hz.2 ho
      obtain ⟨f, g1, -, l1, p1, s1⟩ := h
      have hp : In n (lsb (ovr n br (gI n W br (m 90) k))) := (bs_lsb hn5 (fun i => decide (br i ≤ gI n W br (m 90) k i)) ho).1
      have hgt : ∀ i, In n i → gI n W br (m 90) k i ≤ N := fun i hi => Int.le_trans (sm_term p1 i hi) s1
      have hgs : ∀ i, gI n W br (m 90) (k + 1) i = gI n W br (m 90) k i - Lp n W br (u1 (lsb (ovr n br (gI n W br (m 90) k)))) i := fun i => gI_succ ho i
      have hst := gI_step B ho p1
      rw [← hz2] at hp hgs
      rw [c1]
      rintro m2 rfl
      rw [up_ne (show 70 ≠ 97 by decide), c1]
      refine ⟨by omega, ?_⟩
      rintro m3 rfl
      have f3 : Fro 70 [93, 94, 97] [41, 48] m (up (up m1 97 (k : Int) z) 70 48 ((k : Int) + 1)) := Fro_upo (Fro_up f (by simp) (by decide)) (by simp)
      have e93 : (up (up m1 97 (k : Int) z) 70 48 ((k : Int) + 1)) 93 = m1 93 := by rw [up_ne (by decide), up_ne (by decide)]
      have e97 : ∀ t, (up (up m1 97 (k : Int) z) 70 48 ((k : Int) + 1)) 97 t = if t = (k : Int) then z else m1 97 t := fun t => by rw [up_ne (by decide), up_row]
      have e48 : (up (up m1 97 (k : Int) z) 70 48 ((k : Int) + 1)) 70 48 = (k : Int) + 1 := up_at
      generalize up (up m1 97 (k : Int) z) 70 48 ((k : Int) + 1) = m3 at f3 e93 e97 e48
      have X3 := X.fro f3 (by decide) (by decide) (by decide) (by decide) (by decide)
      have T : CV l G Y_M_toppleIn (d + 1) [.inr (.inr 70), .inl z, .inl 1] m3 (TopW n D W br z 1 m3) := by
        refine c_toppleW B X3 hp (by decide) (fun i hi => ?_)
        rw [e93, g1 i hi]
        have := hgt i hi
        have := p1 i hi
        omega
      refine ⟨d + 1, _, by omega, T, fun m4 ht _ => ?_⟩
      obtain ⟨f4, q1, -, -⟩ := ht
      have f5 : Fro 70 [93, 94, 97] [41, 48] m m4 := f3.tr (f4.mono (by simp) (by simp))
      have X4 := X.fro f5 (by decide) (by decide) (by decide) (by decide) (by decide)
      have e97' : m4 97 = m3 97 := f4.1 97 (by decide) (by decide)
      have N1 : RwM n W br N m m4 (k + 1) := by
        refine ⟨f5, fun i hi => ?_, ?_, fun j hj => ?_, hst.1, Int.le_trans hst.2 s1⟩
        · rw [q1 i hi, e93, g1 i hi, hgs i, Lp_u1 B hp hi]
          omega
        · rw [f4.2 48 (by decide), e48]
          rfl
        · rw [e97', e97]
          by_cases e : (j : Int) = k
          · rw [if_pos e]
            have e2 : j = k := by omega
            rw [e2]
            exact ⟨hz2, ho⟩
          · rw [if_neg e]
            exact l1 j (by omega)
      refine ⟨d + 1, _, by omega, c_leastOver hn5 X4, fun z2 m5 h5 _ _ => ?_⟩
      obtain ⟨rfl, h5⟩ := h5
      have h6 := lst_ovr hn5 h5
      rw [ovr_congr (br := br) N1.2.1] at h6
      exact ih (k + 1) z2 m4 (by omega) N1 h6
  refine e_M_row (fun _ m1 h1 => ?_)
  have f0 : Fro 70 [93, 94, 97] [41, 48] m m1 := by rw [h1]; exact Fro_upo Fro.rf (by simp)
  have X1 := X.fro f0 (by decide) (by decide) (by decide) (by decide) (by decide)
  have e48 : m1 70 48 = 0 := by rw [h1]; exact up_at
  have e90 : m1 90 = m 90 := by rw [h1]; exact up_ne (by decide)
  refine ⟨d + 1, _, by omega, c_layNow hn5 X1, fun m2 h2 _ => ?_⟩
  obtain ⟨f2, g2, -⟩ := h2
  rw [e90] at g2
  have f3 : Fro 70 [93, 94, 97] [41, 48] m m2 := f0.tr (f2.mono (by simp) (by simp))
  have X2 := X.fro f3 (by decide) (by decide) (by decide) (by decide) (by decide)
  have N1 : RwM n W br N m m2 0 := ⟨f3, g2, by rw [f2.2 48 (by decide)]; exact e48, fun j hj => absurd hj (by omega), hg, hN⟩
  refine ⟨d + 1, _, by omega, c_leastOver hn5 X2, fun z2 m5 h5 _ _ => ?_⟩
  obtain ⟨rfl, h5⟩ := h5
  have h6 := lst_ovr hn5 h5
  rw [ovr_congr (br := br) N1.2.1] at h6
  exact loop 60 0 z2 m2 (by omega) N1 h6
end RowM
