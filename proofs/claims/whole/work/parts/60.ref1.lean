/-! Contracts of the reference: its table, topplings, settling. -/
/-- all stays but these cells, and these fields of an object -/
def Fro (o : Nat) (S : List Nat) (I : List Int) (m m' : MM) : Prop := (∀ b, b ∉ S → b ≠ o → m' b = m b) ∧ ∀ i, i ∉ I → m' o i = m o i
theorem Fro.rf {o : Nat} {S : List Nat} {I : List Int} {m : MM} : Fro o S I m m := ⟨fun _ _ _ => rfl, fun _ _ => rfl⟩
theorem Fro.tr {o : Nat} {S : List Nat} {I : List Int} {m m1 m2 : MM} (h1 : Fro o S I m m1) (h2 : Fro o S I m1 m2) : Fro o S I m m2 := ⟨fun b hb ho => (h2.1 b hb ho).trans (h1.1 b hb ho), fun i hi => (h2.2 i hi).trans (h1.2 i hi)⟩
theorem Fro.mono {o : Nat} {S S' : List Nat} {I I' : List Int} {m m1 : MM} (h : Fro o S I m m1) (hs : ∀ b ∈ S, b ∈ S') (hi : ∀ i ∈ I, i ∈ I') : Fro o S' I' m m1 := ⟨fun b hb ho => h.1 b (fun q => hb (hs b q)) ho, fun i hii => h.2 i (fun q => hii (hi i q))⟩
theorem Fro_up {o : Nat} {S : List Nat} {I : List Int} {m m1 : MM} {a : Nat} {i v : Int} (h : Fro o S I m m1) (ha : a ∈ S) (hao : a ≠ o) : Fro o S I m (up m1 a i v) := ⟨fun b hb ho => by
  rw [up_ne (fun e => hb (by rw [e]; exact ha))]
  exact h.1 b hb ho, fun j hj => by
  rw [up_ne (Ne.symm hao)]
  exact h.2 j hj⟩
theorem Fro_upo {o : Nat} {S : List Nat} {I : List Int} {m m1 : MM} {i v : Int} (h : Fro o S I m m1) (hi : i ∈ I) : Fro o S I m (up m1 o i v) := ⟨fun b hb ho => by
  rw [up_ne ho]
  exact h.1 b hb ho, fun j hj => by
  rw [up_off (fun e => hj (by rw [e]; exact hi))]
  exact h.2 j hj⟩
def BM (n : Nat) (D : Int → Int) (W : Int → Int → Int) (br : Int → Int) (m : MM) : Prop :=
  (0 ≤ m 70 28 ∧ m 70 28 ≤ 1) ∧ m 73 (m 70 28) = n ∧ (∀ i, In n i → m 81 (5 * m 70 28 + i) = D i) ∧ (∀ i, In n i → m 92 i = br i) ∧ ∀ i j, In n i → In n j → m 80 (5 * (5 * m 70 28 + i) + j) = W i j
theorem BM.fro {n : Nat} {D : Int → Int} {W : Int → Int → Int} {br : Int → Int} {m m' : MM} (X : BM n D W br m) {S : List Nat} {I : List Int} (h : Fro 70 S I m m') (h1 : 73 ∉ S) (h2 : 81 ∉ S) (h3 : 92 ∉ S) (h4 : 80 ∉ S) (h5 : 28 ∉ I) : BM n D W br m' := by
  obtain ⟨x0, x1, x2, x3, x4⟩ := X
  have e0 := h.2 28 h5
  refine ⟨by rw [e0]; exact x0, ?_, fun i hi => ?_, fun i hi => ?_, fun i j hi hj => ?_⟩
  · rw [e0, h.1 73 h1 (by decide)]; exact x1
  · rw [e0, h.1 81 h2 (by decide)]; exact x2 i hi
  · rw [h.1 92 h3 (by decide)]; exact x3 i hi
  · rw [e0, h.1 80 h4 (by decide)]; exact x4 i j hi hj
section Ref1
variable {l : Launch} {G : GT} {d : Nat} {m : MM} {n : Nat} {D : Int → Int} {W : Int → Int → Int} {br : Int → Int}
theorem c_lots (X : BM n D W br m) : CI l G Y_M_lots d [.inr (.inr 70)] m (fun z m' => z = n ∧ m = m') :=
  e_M_lots (fun _ => ⟨by have := X.1; omega, X.2.1, rfl⟩)
theorem c_brimOf (hn : n ≤ 5) (X : BM n D W br m) {x : Int} (hx : In n x) : CI l G Y_M_brimOf d [.inr (.inr 70), .inl x] m (fun z m' => z = br x ∧ m = m') :=
  e_M_brimOf x (fun _ _ => ⟨by omega, X.2.2.2.1 x hx, rfl⟩)
theorem c_drainOf (hn : n ≤ 5) (X : BM n D W br m) {x : Int} (hx : In n x) : CI l G Y_M_drainOf d [.inr (.inr 70), .inl x] m (fun z m' => z = D x ∧ m = m') :=
  e_M_drainOf x (fun _ _ => by
    have := X.1
    exact ⟨by omega, by omega, by omega, X.2.2.1 x hx, rfl⟩)
theorem c_wideOf (hn : n ≤ 5) (X : BM n D W br m) {x y : Int} (hx : In n x) (hy : In n y) : CI l G Y_M_wideOf d [.inr (.inr 70), .inl x, .inl y] m (fun z m' => z = W x y ∧ m = m') :=
  e_M_wideOf x y (fun _ _ _ => by
    have := X.1
    exact ⟨by omega, by omega, by omega, by omega, by omega, X.2.2.2.2 x y hx hy, rfl⟩)
/-- what is said behind toppleIn -/
def TopQ (n : Nat) (D : Int → Int) (W : Int → Int → Int) (br : Int → Int) (p k : Int) (m m' : MM) : Prop :=
  Fro 70 [93, 94] [41] m m' ∧ (∀ i, In n i → m' 93 i = m 93 i - (if i = p then br p * k else 0) + W p i * k) ∧ (∀ i, ¬ In n i → m' 93 i = m 93 i) ∧ (∀ i, m' 94 i = m 94 i + (if i = p then k else 0)) ∧ m' 70 41 = m 70 41 + D p * k
theorem c_toppleIn (B : BW n D W br) (X : BM n D W br m) {p k : Int} (hp : In n p) (hk : 0 ≤ k ∧ k ≤ 10000000) (hg : ∀ i, In n i → -1000000000 ≤ m 93 i ∧ m 93 i ≤ 1000000000) (ho : -1000000000 ≤ m 94 p ∧ m 94 p ≤ 1000000000) (hdr : -1000000000 ≤ m 70 41 ∧ m 70 41 ≤ 1000000000) :
    CV l G Y_M_toppleIn (d + 1) [.inr (.inr 70), .inl p, .inl k] m (TopQ n D W br p k m) := by
  have hn5 := B.1
  have hbr := B.br hp
  have hbk := mul_rng (x := br p) ⟨by omega, hbr.2⟩ hk
  have hDk := mul_rng (x := D p) ⟨(B.2.1 p hp).1, by have := (B.2.1 p hp).2; omega⟩ hk
  have hWk : ∀ i, In n i → 0 ≤ W p i * k ∧ W p i * k ≤ 12 * 10000000 := fun i hi => mul_rng ⟨(B.2.2.1 p i hp hi).1, by have := (B.2.2.1 p i hp hi).2.1; omega⟩ hk
  have hgp := hg p hp
  refine e_M_toppleIn p k (fun _ _ _ => ⟨by omega, d, _, Nat.lt_succ_self d, c_brimOf hn5 X hp, fun z m1 hz _ _ => ?_⟩)
  obtain ⟨rfl, rfl⟩ := hz
  rw [Int.mul_comm k]
  refine ⟨by omega, by omega, by omega, ?_⟩
  rintro m2 rfl
  have loop : ∀ (j : Nat) (i : Int) (m1 : MM), i + j = n → 0 ≤ i → Fro 70 [93] [] m m1 → (∀ t, m1 93 t = m 93 t - (if t = p then br p * k else 0) + (if 0 ≤ t ∧ t < i then W p t * k else 0)) →
      Wq l G false Y_M_toppleIn (d + 1) (QV (TopQ n D W br p k m)) 18 [(0, .inr (.inr 70)), (1, .inl p), (2, .inl k), (3, .inl i)] [] m1 := by
    intro j
    induction j with
    | zero =>
      intro i m1 hij h0 hf hr
      have X1 : BM n D W br m1 := X.fro hf (by decide) (by decide) (by decide) (by decide) (by decide)
      have e94 : m1 94 = m 94 := hf.1 94 (by decide) (by decide)
      have e41 : m1 70 41 = m 70 41 := hf.2 41 (by decide)
      refine s_M_toppleIn_18 p k i (fun _ _ _ _ => ⟨d, _, Nat.lt_succ_self d, c_lots X1, fun z m2 hz _ _ => ?_⟩)
      obtain ⟨rfl, rfl⟩ := hz
      refine ⟨fun _ => ⟨d, _, Nat.lt_succ_self d, c_drainOf hn5 X1 hp, fun z m2 hz _ _ => ?_⟩, fun c => absurd (show i ≥ (n : Int) by omega) c⟩
      obtain ⟨rfl, rfl⟩ := hz
      rw [Int.mul_comm k, e41]
      refine ⟨by omega, by omega, ?_⟩
      rintro m3 rfl
      rw [up_ne (show 94 ≠ 70 by decide), e94]
      refine ⟨by omega, by omega, by omega, ?_⟩
      rintro m4 rfl
      refine ⟨Fro_up (Fro_upo (hf.mono (by simp) (by simp)) (by simp)) (by simp) (by decide), fun t ht => ?_, fun t ht => ?_, fun t => ?_, ?_⟩
      · rw [up_ne (by decide), up_ne (by decide), hr t, if_pos (by omega : 0 ≤ t ∧ t < i)]
      · rw [up_ne (by decide), up_ne (by decide), hr t, if_neg (show ¬ (t = p) from fun e => ht (by rw [e]; exact hp)), if_neg (by omega)]; omega
      · rw [up_row, up_ne (by decide), e94]
        split
        · rename_i e; rw [e]
        · omega
      · rw [up_ne (by decide), up_at]
    | succ j ih =>
      intro i m1 hij h0 hf hr
      have X1 : BM n D W br m1 := X.fro hf (by decide) (by decide) (by decide) (by decide) (by decide)
      have hi : In n i := by omega
      have hw := hWk i hi
      have hgi := hg i hi
      have hri := hr i
      rw [if_neg (show ¬ (0 ≤ i ∧ i < i) by omega)] at hri
      have hb2 : -1200000000 ≤ m1 93 i ∧ m1 93 i ≤ 1200000000 := by
        rw [hri]
        split <;> omega
      refine s_M_toppleIn_18 p k i (fun _ _ _ _ => ⟨d, _, Nat.lt_succ_self d, c_lots X1, fun z m2 hz _ _ => ?_⟩)
      obtain ⟨rfl, rfl⟩ := hz
      refine ⟨fun c => absurd c (by omega), fun _ => ⟨by omega, d, _, Nat.lt_succ_self d, c_wideOf hn5 X1 hp hi, fun z m2 hz _ _ => ?_⟩⟩
      obtain ⟨rfl, rfl⟩ := hz
      rw [Int.mul_comm k]
      refine ⟨by omega, by omega, by omega, ?_⟩
      rintro m2 rfl
      refine ⟨by omega, ih (i + 1) _ (by omega) (by omega) (Fro_up hf (by simp) (by decide)) (fun t => ?_)⟩
      rw [up_row]
      by_cases e : t = i
      · subst e
        rw [if_pos rfl, hri, if_pos (show 0 ≤ t ∧ t < t + 1 by omega)]
        omega
      · rw [if_neg e, hr t]
        by_cases e2 : 0 ≤ t ∧ t < i
        · rw [if_pos e2, if_pos (show 0 ≤ t ∧ t < i + 1 by omega)]
        · rw [if_neg e2, if_neg (show ¬ (0 ≤ t ∧ t < i + 1) by omega)]
  refine loop n 0 _ (by omega) (by omega) (Fro_up Fro.rf (by simp) (by decide)) (fun t => ?_)
  rw [up_row, if_neg (show ¬ (0 ≤ t ∧ t < 0) by omega)]
  split
  · rename_i e; rw [e]; omega
  · omega
end Ref1
