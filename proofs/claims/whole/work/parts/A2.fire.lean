/-! the fire -/
def okB (n : Nat) (D : Int → Int) (W : Int → Int → Int) (br h : Int → Int) (B : Int → Bool) (i : Int) : Prop := B i = false ∧ br i - (D i + wT n W i B) ≤ h i
def NxB (n : Nat) (D : Int → Int) (W : Int → Int → Int) (br h : Int → Int) (B : Int → Bool) (z : Int) : Prop :=
  (z = -1 ∧ ∀ i, In n i → ¬ okB n D W br h B i) ∨ (In n z ∧ okB n D W br h B z ∧ ∀ i, 0 ≤ i → i < z → ¬ okB n D W br h B i)
def bB (L : Int → Int) : Nat → Int → Bool
  | 0 => fun _ => false
  | k + 1 => fun x => bB L k x || decide (x = L k)
/-- the row in which they burn -/
def FiR (n : Nat) (D : Int → Int) (W : Int → Int → Int) (br h : Int → Int) (K : Nat) (L : Int → Int) : Prop :=
  (∀ j : Nat, j < K → In n (L j) ∧ NxB n D W br h (bB L j) (L j)) ∧ NxB n D W br h (bB L K) (-1)
theorem bB_congr {L L' : Int → Int} : ∀ {k : Nat}, (∀ j : Nat, j < k → L j = L' j) → bB L k = bB L' k
  | 0, _ => rfl
  | k + 1, h => by
    funext x
    show (bB L k x || decide (x = L k)) = (bB L' k x || decide (x = L' k))
    rw [bB_congr (k := k) (fun j hj => h j (by omega)), h k (by omega)]
theorem okB_congr {n : Nat} {D : Int → Int} {W : Int → Int → Int} {br h h' : Int → Int} {B : Int → Bool} {i : Int} (e : h i = h' i) : okB n D W br h B i ↔ okB n D W br h' B i := by
  unfold okB
  rw [e]
theorem NxB.uniq {n : Nat} {D : Int → Int} {W : Int → Int → Int} {br h h' : Int → Int} {B : Int → Bool} {z z' : Int} (e : ∀ i, In n i → h i = h' i) (a : NxB n D W br h B z) (b : NxB n D W br h' B z') : z = z' := by
  rcases a with ⟨a1, a2⟩ | ⟨a1, a2, a3⟩
  · rcases b with ⟨b1, b2⟩ | ⟨b1, b2, b3⟩
    · rw [a1, b1]
    · exact absurd ((okB_congr (e z' b1)).mpr b2) (a2 z' b1)
  · rcases b with ⟨b1, b2⟩ | ⟨b1, b2, b3⟩
    · exact absurd ((okB_congr (e z a1)).mp a2) (b2 z a1)
    · rcases Int.lt_trichotomy z z' with q | q | q
      · exact absurd ((okB_congr (e z a1)).mp a2) (b3 z a1.1 q)
      · exact q
      · exact absurd ((okB_congr (e z' b1)).mpr b2) (a3 z' b1.1 q)
theorem FiR.uniq {n : Nat} {D : Int → Int} {W : Int → Int → Int} {br h h' : Int → Int} {K K' : Nat} {L L' : Int → Int} (e : ∀ i, In n i → h i = h' i) (a : FiR n D W br h K L) (b : FiR n D W br h' K' L') : K = K' ∧ ∀ j : Nat, j < K → L j = L' j := by
  have step : ∀ k : Nat, k ≤ K → k ≤ K' → ∀ j : Nat, j < k → L j = L' j := by
    intro k
    induction k with
    | zero => intro _ _ j hj; exact absurd hj (by omega)
    | succ k ih =>
      intro h1 h2 j hj
      have ih' := ih (by omega) (by omega)
      by_cases e2 : j = k
      · subst e2
        have x := (a.1 j (by omega)).2
        have y := (b.1 j (by omega)).2
        rw [bB_congr ih'] at x
        exact x.uniq e y
      · exact ih' j (by omega)
  have hK : K = K' := by
    rcases Nat.lt_trichotomy K K' with q | q | q
    · have s := step K (Nat.le_refl _) (by omega)
      have x := a.2
      have y := b.1 K q
      rw [bB_congr s] at x
      have := x.uniq e y.2
      have := y.1.1
      omega
    · exact q
    · have s := step K' (by omega) (Nat.le_refl _)
      have x := b.2
      have y := a.1 K' q
      rw [bB_congr s] at y
      have := y.2.uniq e x
      have := y.1.1
      omega
  exact ⟨hK, step K (Nat.le_refl _) (by omega)⟩
/-- how many burn -/
theorem bB_count {n : Nat} {D : Int → Int} {W : Int → Int → Int} {br h : Int → Int} {L : Int → Int} : ∀ {K : Nat}, (∀ j : Nat, j < K → In n (L j) ∧ NxB n D W br h (bB L j) (L j)) → sm n (fun i => if bB L K i = true then 1 else 0) = K
  | 0, _ => (sm_congr (fun i _ => if_neg (show ¬ (false = true) by decide))).trans (sm_zero n)
  | K + 1, a => by
    have ih := bB_count (K := K) (fun j hj => a j (by omega))
    obtain ⟨hin, hnx⟩ := a K (by omega)
    have hf : bB L K (L K) = false := by
      rcases hnx with ⟨h1, -⟩ | ⟨-, h2, -⟩
      · have := hin.1; omega
      · exact h2.1
    have e : sm n (fun i => if bB L (K + 1) i = true then (1 : Int) else 0) = sm n (fun i => (if bB L K i = true then 1 else 0) + (if i = L K then 1 else 0)) := sm_congr (fun i _ => by
      show (if (bB L K i || decide (i = L K)) = true then (1 : Int) else 0) = _
      by_cases q : i = L K
      · rw [q, hf, decide_eq_true rfl, if_pos (show L K = L K from rfl)]; rfl
      · rw [decide_eq_false q, Bool.or_false, if_neg q, Int.add_zero])
    rw [e, sm_add, ih, sm_one, if_pos hin]
    omega
theorem FiR.le {n : Nat} {D : Int → Int} {W : Int → Int → Int} {br h : Int → Int} {L : Int → Int} {K : Nat} (a : ∀ j : Nat, j < K → In n (L j) ∧ NxB n D W br h (bB L j) (L j)) : K ≤ n := by
  have h1 := bB_count a
  have h2 := sm_le (n := n) (f := fun i => if bB L K i = true then (1 : Int) else 0) (g := fun _ => 1) (fun i _ => by split <;> decide)
  have h3 : ∀ t : Nat, sm t (fun _ => (1 : Int)) = t := by
    intro t
    induction t with
    | zero => rfl
    | succ t ih => show sm t _ + 1 = _; rw [ih]; omega
  rw [h1, h3] at h2
  omega
/-- all burn, as many as there are -/
theorem FiR.all {n : Nat} {D : Int → Int} {W : Int → Int → Int} {br h : Int → Int} {L : Int → Int} {K : Nat} (a : ∀ j : Nat, j < K → In n (L j) ∧ NxB n D W br h (bB L j) (L j)) : (∀ i, In n i → bB L K i = true) ↔ K = n := by
  have h1 := bB_count a
  have h3 : ∀ t : Nat, sm t (fun _ => (1 : Int)) = t := by
    intro t
    induction t with
    | zero => rfl
    | succ t ih => show sm t _ + 1 = _; rw [ih]; omega
  constructor
  · intro hall
    have h2 : sm n (fun i => if bB L K i = true then (1 : Int) else 0) = sm n (fun _ => 1) := sm_congr (fun i hi => if_pos (hall i hi))
    rw [h1, h3] at h2
    omega
  · intro hK i hi
    cases hb : bB L K i with
    | true => rfl
    | false =>
      exfalso
      have h2 := sm_le (n := n) (f := fun j => if bB L K j = true then (1 : Int) else 0) (g := fun j => 1 + (if j = i then -1 else 0)) (fun j _ => by
        by_cases q : j = i
        · rw [q, hb, if_pos rfl]; decide
        · rw [if_neg q]; split <;> decide)
      rw [h1, sm_add, h3, sm_one, if_pos hi] at h2
      omega
theorem sm_cut {n k : Nat} {f : Int → Int} (h : ∀ i, In k i → ¬ In n i → f i = 0) (hk : n ≤ k) : sm k f = sm n f := by
  have go : ∀ j : Nat, n + j ≤ k → sm (n + j) f = sm n f := by
    intro j
    induction j with
    | zero => intro _; rfl
    | succ j ih =>
      intro hj
      show sm (n + j) f + f ((n + j : Nat) : Int) = sm n f
      rw [ih (by omega), h _ ⟨by omega, by omega⟩ (fun q => by have := q.2; omega), Int.add_zero]
  have := go (k - n) (by omega)
  rw [show n + (k - n) = k by omega] at this
  exact this
def bcn (x : Int) : Int := sm 5 (fun i => if mb x i = true then 1 else 0)
theorem bcn_bs {n : Nat} (hn : n ≤ 5) (p : Int → Bool) : bcn (bs n p) = sm n (fun i => if p i = true then 1 else 0) := by
  unfold bcn
  have e : sm 5 (fun i => if mb (bs n p) i = true then (1 : Int) else 0) = sm 5 (fun i => if (decide (i < (n : Int)) && p i) = true then 1 else 0) := sm_congr (fun i hi => by rw [mb_bs hn p hi.1 hi.2])
  rw [e, sm_cut (n := n) (fun i hi hni => by
    rw [decide_eq_false (fun q => hni ⟨hi.1, q⟩)]; rfl) hn]
  exact sm_congr (fun i hi => by rw [decide_eq_true hi.2, Bool.true_and])
section FireS
variable {l : Launch} {G : GT} {d : Nat} {m : MM} {b : Nat} {n : Nat} {D : Int → Int} {W : Int → Int → Int} {br : Int → Int}
theorem c_bitCount {x : Int} (hx : 0 ≤ x ∧ x < 32) : CI l G Y_Integer_bitCount d [.inl x] m (fun z m' => z = bcn x ∧ m = m') := by
  have h : x = 0 ∨ x = 1 ∨ x = 2 ∨ x = 3 ∨ x = 4 ∨ x = 5 ∨ x = 6 ∨ x = 7 ∨ x = 8 ∨ x = 9 ∨ x = 10 ∨ x = 11 ∨ x = 12 ∨ x = 13 ∨ x = 14 ∨ x = 15 ∨ x = 16 ∨ x = 17 ∨ x = 18 ∨ x = 19 ∨ x = 20 ∨ x = 21 ∨ x = 22 ∨ x = 23 ∨ x = 24 ∨ x = 25 ∨ x = 26 ∨ x = 27 ∨ x = 28 ∨ x = 29 ∨ x = 30 ∨ x = 31 := by omega
  rcases h with rfl | rfl | rfl | rfl | rfl | rfl | rfl | rfl | rfl | rfl | rfl | rfl | rfl | rfl | rfl | rfl | rfl | rfl | rfl | rfl | rfl | rfl | rfl | rfl | rfl | rfl | rfl | rfl | rfl | rfl | rfl | rfl <;> exact e_Integer_bitCount _ (fun _ _ => ⟨by decide +kernel, by decide +kernel, by decide +kernel, by decide +kernel, by decide +kernel, by decide +kernel, rfl⟩)
theorem c_firstToBurn (B : BW n D W br) (hb : isB b) (X : BX n D W br b m) {h len : Nat} (hl : q_lay h = .inr (0, len)) (h5 : 5 ≤ len) (hlt : len < 2147483648) (p : Int → Bool) : CI l G Y_Fire_firstToBurn (d + 3) [.inr (.inr b), .inr (.inr h), .inl (bs n p)] m (fun z m' => NxB n D W br (m h) p z ∧ m = m') := by
  have hn5 := B.1
  refine e_Fire_firstToBurn _ b h len hb hl hlt (fun _ _ => ?_)
  have loop : ∀ (j k : Nat), k + j = n → (∀ i, In k i → ¬ okB n D W br (m h) p i) → Wq l G false Y_Fire_firstToBurn (d + 3) (QI fun z m' => NxB n D W br (m h) p z ∧ m = m') 2 [(0, .inr (.inr b)), (1, .inr (.inr h)), (2, .inl (bs n p)), (3, .inl (k : Int))] [] m := by
    intro j
    induction j with
    | zero =>
      intro k hk hno
      have e : k = n := by omega
      rw [e] at hno
      exact s_Fire_firstToBurn_2 _ _ b h len hb hl hlt (fun _ _ _ => ⟨fun _ => ⟨Or.inl ⟨rfl, hno⟩, rfl⟩, fun c => absurd (show (k : Int) ≥ m b 0 by rw [X.1]; omega) c⟩)
    | succ j ih =>
      intro k hk hno
      have hk2 : In n (k : Int) := by omega
      have hbit := (bit_bs hn5 p hk2).1
      have hr := wT_rng B hk2 p n (Nat.le_refl _)
      have hD := B.2.1 k hk2
      have hbr := B.br hk2
      have next : ¬ okB n D W br (m h) p k → (inR ((k : Int) + 1)) ∧ (Wq l G false Y_Fire_firstToBurn (d + 3) (QI fun z m' => NxB n D W br (m h) p z ∧ m = m') 2 [(0, .inr (.inr b)), (1, .inr (.inr h)), (2, .inl (bs n p)), (3, .inl ((k : Int) + 1))] [] m) := fun q => ⟨by omega, ih (k + 1) (by omega) (fun i hi => by
        by_cases e : i = (k : Int)
        · rw [e]; exact q
        · exact hno i ⟨hi.1, by have := hi.2; omega⟩)⟩
      refine s_Fire_firstToBurn_2 _ _ b h len hb hl hlt (fun _ _ _ => ⟨fun c => absurd c (by rw [X.1]; omega), fun _ => ⟨fun c => next (fun q => c (hbit.mpr q.1)), fun c => ⟨by omega, by omega, d + 2, _, by omega, c_widthToBurnt B hb X hk2 p, fun z m1 hz _ _ => ?_⟩⟩⟩)
      obtain ⟨rfl, rfl⟩ := hz
      rw [X.2.2.1 k hk2]
      have hpf : p k = false := hbit.mp (Classical.not_not.mp c)
      refine ⟨by omega, fun c2 => next (fun q => by have := q.2; omega), fun c2 => ⟨Or.inr ⟨hk2, ⟨hpf, by omega⟩, fun i i0 i1 => hno i ⟨i0, i1⟩⟩, rfl⟩⟩
  exact loop n 0 (by omega) (fun i hi => absurd hi (by intro r; have := r.1; have := r.2; omega))
theorem c_burn (B : BW n D W br) (hb : isB b) (X : BX n D W br b m) {h len : Nat} (hl : q_lay h = .inr (0, len)) (h5 : 5 ≤ len) (hlt : len < 2147483648) (hh : h ≠ 67 ∧ h ≠ 68) (hc : m 67 1 = 0) : CI l G Y_Fire_burn (d + 4) [.inr (.inr 45), .inr (.inr b), .inr (.inr h), .inr (.inr 67)] m (fun z m' => Fr [67, 68] m m' ∧ ∃ K : Nat, FiR n D W br (m h) K (m' 68) ∧ m' 67 1 = K ∧ z = K) := by
  have hn5 := B.1
  have hb6 : b ≤ 24 := by rcases hb with rfl | rfl <;> omega
  have XF : ∀ m1, Fr [67, 68] m m1 → BX n D W br b m1 := fun m1 f => X.fr f (by simp only [List.mem_cons, List.not_mem_nil, or_false]; omega) (by simp only [List.mem_cons, List.not_mem_nil, or_false]; omega) (by simp only [List.mem_cons, List.not_mem_nil, or_false]; omega) (by simp only [List.mem_cons, List.not_mem_nil, or_false]; omega)
  have fin : ∀ (k : Nat) (m1 : MM), Fr [67, 68] m m1 → (∀ j : Nat, j < k → In n (m1 68 j) ∧ NxB n D W br (m h) (bB (m1 68) j) (m1 68 j)) → m1 67 1 = k → NxB n D W br (m h) (bB (m1 68) k) (-1) → CI l G Y_Integer_bitCount (d + 3) [.inl (bs n (bB (m1 68) k))] m1 (fun z m' => Fr [67, 68] m m' ∧ ∃ K : Nat, FiR n D W br (m h) K (m' 68) ∧ m' 67 1 = K ∧ z = K) := by
    intro k m1 f ha hk hn
    refine (c_bitCount (bs5_range hn5 _)).imp (fun z m' hz => ?_)
    obtain ⟨rfl, rfl⟩ := hz
    exact ⟨f, k, ⟨ha, hn⟩, hk, by rw [bcn_bs hn5]; exact bB_count ha⟩
  have loop : ∀ (j k : Nat) (z : Int) (m1 : MM), k + j = 5 → Fr [67, 68] m m1 → (∀ j : Nat, j < k → In n (m1 68 j) ∧ NxB n D W br (m h) (bB (m1 68) j) (m1 68 j)) → m1 67 1 = k → NxB n D W br (m h) (bB (m1 68) k) z →
      Wq l G false Y_Fire_burn (d + 4) (QI fun z m' => Fr [67, 68] m m' ∧ ∃ K : Nat, FiR n D W br (m h) K (m' 68) ∧ m' 67 1 = K ∧ z = K) 15 [(1, .inr (.inr b)), (2, .inr (.inr h)), (3, .inr (.inr 67)), (4, .inl (bs n (bB (m1 68) k))), (5, .inl z), (6, .inl (k : Int))] [] m1 := by
    intro j
    induction j with
    | zero =>
      intro k z m1 hkj f ha hk hn
      have hz : z = -1 := by
        rcases hn with ⟨h1, -⟩ | ⟨h1, h2, h3⟩
        · exact h1
        · exfalso
          have hle := FiR.le ha
          have := (FiR.all ha).mpr (by omega) z h1
          rw [h2.1] at this; cases this
      rw [hz] at hn
      exact s_Fire_burn_15 _ _ _ b h len hb hl hlt (fun _ _ _ _ => ⟨fun _ => ⟨d + 3, _, by omega, fin k m1 f ha hk hn, fun z m2 h2 _ _ => h2⟩, fun c => absurd (show (k : Int) ≥ 5 by omega) c⟩)
    | succ j ih =>
      intro k z m1 hkj f ha hk hn
      refine s_Fire_burn_15 _ _ _ b h len hb hl hlt (fun _ _ _ _ => ⟨fun c => absurd c (by omega), fun _ => ⟨fun c => ⟨d + 3, _, by omega, fin k m1 f ha hk (by rw [c] at hn; exact hn), fun z m2 h2 _ _ => h2⟩, fun c => ⟨d, _, by omega, c_lyingPut (by omega), fun m2 h2 _ => ?_⟩⟩⟩)
      have hin : In n z := by
        rcases hn with ⟨h1, -⟩ | ⟨h1, -⟩
        · exact absurd h1 c
        · exact h1
      rw [hk] at h2
      have f2 : Fr [67, 68] m m2 := by rw [h2]; exact Fr_up (Fr_up f (by simp)) (by simp)
      have e68 : ∀ t, m2 68 t = if t = (k : Int) then z else m1 68 t := fun t => by rw [h2, up_ne (by decide), up_row]
      have hlow : ∀ t : Nat, t < k → m2 68 t = m1 68 t := fun t ht => by rw [e68, if_neg (by omega)]
      have ek : m2 68 k = z := by rw [e68, if_pos rfl]
      have eb : bB (m2 68) k = bB (m1 68) k := bB_congr hlow
      have ha2 : ∀ t : Nat, t < k + 1 → In n (m2 68 t) ∧ NxB n D W br (m h) (bB (m2 68) t) (m2 68 t) := fun t ht => by
        by_cases e : t = k
        · rw [e, ek, eb]; exact ⟨hin, hn⟩
        · rw [hlow t (by omega), bB_congr (fun s hs => hlow s (by omega))]
          exact ha t (by omega)
      have e67 : m2 67 1 = ((k + 1 : Nat) : Int) := by rw [h2, up_at]; rfl
      have eset : bOr (bs n (bB (m1 68) k)) (bShl 1 z) = bs n (bB (m2 68) (k + 1)) := by
        rw [bs_or1 hn5 _ hin]
        refine bs_congr (fun i _ => ?_)
        show _ = (bB (m2 68) k i || decide (i = m2 68 k))
        rw [eb, ek]
      rw [eset]
      have eh : m2 h = m h := f2 h (by simp only [List.mem_cons, List.not_mem_nil, or_false]; omega)
      refine ⟨d + 3, _, by omega, c_firstToBurn B hb (XF m2 f2) hl h5 hlt (bB (m2 68) (k + 1)), fun z2 m3 h3 _ _ => ⟨by omega, ?_⟩⟩
      obtain ⟨h3, rfl⟩ := h3
      rw [eh] at h3
      exact ih (k + 1) z2 m2 (by omega) f2 ha2 e67 h3
  have h0 := c_firstToBurn (l := l) (G := G) (d := d) B hb X hl h5 hlt (fun _ => false)
  rw [bs_none] at h0
  refine e_Fire_burn b h len hb hl hlt (fun _ => ⟨d + 3, _, by omega, h0, fun z m1 h1 _ _ => ?_⟩)
  obtain ⟨h1, rfl⟩ := h1
  have := loop 5 0 z m (by omega) Fr.rf (fun t ht => absurd ht (by omega)) hc h1
  have e0 : bs n (bB (m 68) 0) = 0 := bs_none
  rw [e0] at this
  exact this
theorem c_fireX (B : BW n D W br) (X : CX n D W br b m) (hg : ∀ i, In n i → 0 ≤ m 25 i) {N : Int} (hN : sm n (m 25) ≤ N) (hN3 : N ≤ 30000) : CI l G Y_S_fire (d + 5) [.inr (.inr 0)] m (fun z m' => Fr [32, 33, 34, 67, 68] m m' ∧ ∃ (u r : Int → Int) (K : Nat), Stb n W br (m 25) u ∧ (∀ i, In n i → r i = m 25 i - Lp n W br u i) ∧ FiR n D W br r K (m' 68) ∧ m' 67 1 = K ∧ z = K) := by
  refine e_S_fire (fun _ => ⟨d + 3, _, by omega, c_settleAhead B X hg hN hN3, fun m1 h1 _ => ?_⟩)
  obtain ⟨f1, u, hu, r1, -⟩ := h1
  have r1' : ∀ i, In n i → m1 33 i = m 25 i - Lp n W br u i := r1
  refine ⟨d, _, by omega, e_Lying_clear (P := fun m' => m' = up m1 67 1 0) (fun _ _ h => h), fun m2 h2 _ => ?_⟩
  have f2 : Fr [32, 33, 34, 67, 68] m m2 := by rw [h2]; exact Fr_up (f1.mono (by simp)) (by simp)
  have X2 := X.fr f2 (by decide) (by decide)
  have e33 : m2 33 = m1 33 := by rw [h2]; exact up_ne (by decide)
  have e67 : m2 67 1 = 0 := by rw [h2]; exact up_at
  refine ⟨b, X2.2.1, X2.1, d + 4, _, by omega, c_burn B X2.1 X2.2.2 (h := 33) (len := 5) rfl (by decide) (by decide) (by decide) e67, fun z m3 h3 _ _ => ?_⟩
  obtain ⟨f3, K, hF, hk, hz⟩ := h3
  rw [e33] at hF
  exact ⟨f2.tr (f3.mono (by simp)), u, m1 33, K, hu, r1', hF, hk, hz⟩
end FireS
