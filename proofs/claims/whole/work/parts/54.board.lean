section Brd
variable {l : Launch} {G : GT} {d : Nat} {m : MM} {a b : Nat} {n : Nat} {D : Int → Int} {W : Int → Int → Int} {br : Int → Int}
theorem c_overfull (hb : isB b) (hn : n ≤ 5) (X : BX n D W br b m) {h len : Nat} (hl : q_lay h = .inr (0, len)) (h5 : 5 ≤ len) (hlt : len < 2147483648) : CI l G Y_Board_overfull d [.inr (.inr b), .inr (.inr h)] m (fun z m' => z = bs n (fun i => decide (br i ≤ m h i)) ∧ m = m') := by
  refine e_Board_overfull b h len hb hl hlt (fun _ => ?_)
  have loop : ∀ (j k : Nat), k + j = n → Wq l G false Y_Board_overfull d (QI fun z m' => z = bs n (fun i => decide (br i ≤ m h i)) ∧ m = m') 4 [(0, .inr (.inr b)), (1, .inr (.inr h)), (2, .inl (bs k (fun i => decide (br i ≤ m h i)))), (3, .inl k)] [] m := by
    intro j
    induction j with
    | zero =>
      intro k hk
      refine s_Board_overfull_4 _ k b h len hb hl hlt (fun _ _ _ => ⟨fun _ => ⟨by rw [show k = n by omega], rfl⟩, fun c => absurd (show (k : Int) ≥ m b 0 by rw [X.1]; omega) c⟩)
    | succ j ih =>
      intro k hk
      have hi : In n (k : Int) := by omega
      have e4 := X.2.2.1 k hi
      refine s_Board_overfull_4 _ k b h len hb hl hlt (fun _ _ _ => ⟨fun c => absurd c (by rw [X.1]; omega), fun _ => ⟨by omega, by omega, fun c => ⟨by omega, ?_⟩, fun c => ⟨by omega, ?_⟩⟩⟩)
      · have := ih (k + 1) (by omega)
        rw [← bs_no (k := k) (by simp only [decide_eq_true_eq]; omega)] at this
        exact this
      · rw [bs_yes (k := k) (by omega) (by simp only [decide_eq_true_eq]; omega)]
        exact ih (k + 1) (by omega)
  exact loop n 0 (by omega)
theorem c_grainsOf (hb : isB b) (hn : n ≤ 5) (X : m b 0 = n) {h len : Nat} (hl : q_lay h = .inr (0, len)) (h5 : 5 ≤ len) (hlt : len < 2147483648) (hg : ∀ i, In n i → -100000000 ≤ m h i ∧ m h i ≤ 100000000) : CI l G Y_Board_grainsOf d [.inr (.inr b), .inr (.inr h)] m (fun z m' => z = sm n (m h) ∧ m = m') := by
  refine e_Board_grainsOf b h len hb hl hlt (fun _ => ?_)
  have loop : ∀ (j k : Nat), k + j = n → (-100000000 * (k : Int) ≤ sm k (m h) ∧ sm k (m h) ≤ 100000000 * (k : Int)) → Wq l G false Y_Board_grainsOf d (QI fun z m' => z = sm n (m h) ∧ m = m') 4 [(0, .inr (.inr b)), (1, .inr (.inr h)), (2, .inl (sm k (m h))), (3, .inl k)] [] m := by
    intro j
    induction j with
    | zero =>
      intro k hk hr
      refine s_Board_grainsOf_4 _ k b h len hb hl hlt (fun _ _ _ => ⟨fun _ => ⟨by rw [show k = n by omega], rfl⟩, fun c => absurd (show (k : Int) ≥ m b 0 by rw [X]; omega) c⟩)
    | succ j ih =>
      intro k hk hr
      have hgk := hg k (by omega)
      have e : sm (k + 1) (m h) = sm k (m h) + m h k := rfl
      have := ih (k + 1) (by omega) (by rw [e]; omega)
      rw [e] at this
      exact s_Board_grainsOf_4 _ k b h len hb hl hlt (fun _ _ _ => ⟨fun c => absurd c (by rw [X]; omega), fun _ => ⟨by omega, by omega, by omega, this⟩⟩)
  exact loop n 0 (by omega) (by show (-100000000 * 0 : Int) ≤ 0 ∧ (0 : Int) ≤ _; omega)
theorem c_toppled (ha : isS a) {k : Nat} (hk : k ≤ 5) : CI l G Y_Sand_toppled d [.inr (.inr a), .inl k] m (fun z m' => z = bs k (fun i => decide (0 < m (a + 2) i)) ∧ m = m') := by
  refine e_Sand_toppled k a ha (fun _ _ => ?_)
  have loop : ∀ (j t : Nat), t + j = k → Wq l G false Y_Sand_toppled d (QI fun z m' => z = bs k (fun i => decide (0 < m (a + 2) i)) ∧ m = m') 4 [(0, .inr (.inr a)), (1, .inl k), (2, .inl (bs t (fun i => decide (0 < m (a + 2) i)))), (3, .inl t)] [] m := by
    intro j
    induction j with
    | zero =>
      intro t ht
      exact s_Sand_toppled_4 k _ t a ha (fun _ _ _ _ => ⟨fun _ => ⟨by rw [show t = k by omega], rfl⟩, fun c => absurd (show (t : Int) ≥ k by omega) c⟩)
    | succ j ih =>
      intro t ht
      refine s_Sand_toppled_4 k _ t a ha (fun _ _ _ _ => ⟨fun c => absurd c (by omega), fun _ => ⟨fun c => absurd c (by omega), fun _ => ⟨by omega, fun c => ⟨by omega, ?_⟩, fun c => ⟨by omega, ?_⟩⟩⟩⟩)
      · have := ih (t + 1) (by omega)
        rw [← bs_no (k := t) (by simp only [decide_eq_true_eq]; omega)] at this
        exact this
      · rw [bs_yes (k := t) (by omega) (by simp only [decide_eq_true_eq]; omega)]
        exact ih (t + 1) (by omega)
  exact loop k 0 (by omega)
theorem c_width (hb : isB b) (hn : n ≤ 5) (X : BX n D W br b m) {x y : Int} : CI l G Y_Board_width (d + 1) [.inr (.inr b), .inl x, .inl y] m (fun z m' => z = (if In n x ∧ In n y then W x y else 0) ∧ m = m') := by
  refine e_Board_width x y b hb (fun _ _ _ => ⟨d, _, Nat.lt_succ_self d, c_has hb, fun z m1 hz _ _ => ?_⟩)
  obtain ⟨rfl, rfl⟩ := hz
  rw [X.1]
  by_cases hx : In n x
  · rw [if_pos hx]
    refine ⟨fun c => absurd c (by decide), fun _ => ⟨d, _, Nat.lt_succ_self d, c_has hb, fun z m1 hz _ _ => ?_⟩⟩
    obtain ⟨rfl, rfl⟩ := hz
    rw [X.1]
    by_cases hy : In n y
    · rw [if_pos hy, if_pos ⟨hx, hy⟩]
      exact ⟨fun c => absurd c (by decide), fun _ => ⟨by omega, by omega, by omega, X.2.2.2 x y hx hy, rfl⟩⟩
    · rw [if_neg hy, if_neg (fun q => hy q.2)]
      exact ⟨fun _ => ⟨rfl, rfl⟩, fun c => absurd rfl c⟩
  · rw [if_neg hx, if_neg (fun q => hx q.1)]
    exact ⟨fun _ => ⟨rfl, rfl⟩, fun c => absurd rfl c⟩
theorem c_joinedTo (hb : isB b) (hn : n ≤ 5) (X : BX n D W br b m) {x : Int} (hx : In n x) : CI l G Y_Board_joinedTo (d + 2) [.inr (.inr b), .inl x] m (fun z m' => z = bs n (fun i => decide (0 < W x i)) ∧ m = m') := by
  refine e_Board_joinedTo x b hb (fun _ _ => ?_)
  have loop : ∀ (j k : Nat), k + j = n → Wq l G false Y_Board_joinedTo (d + 2) (QI fun z m' => z = bs n (fun i => decide (0 < W x i)) ∧ m = m') 4 [(0, .inr (.inr b)), (1, .inl x), (2, .inl (bs k (fun i => decide (0 < W x i)))), (3, .inl k)] [] m := by
    intro j
    induction j with
    | zero =>
      intro k hk
      exact s_Board_joinedTo_4 x _ k b hb (fun _ _ _ _ => ⟨fun _ => ⟨by rw [show k = n by omega], rfl⟩, fun c => absurd (show (k : Int) ≥ m b 0 by rw [X.1]; omega) c⟩)
    | succ j ih =>
      intro k hk
      have hi : In n (k : Int) := by omega
      refine s_Board_joinedTo_4 x _ k b hb (fun _ _ _ _ => ⟨fun c => absurd c (by rw [X.1]; omega), fun _ => ⟨d + 1, _, by omega, c_width hb hn X, fun z m1 hz _ _ => ?_⟩⟩)
      obtain ⟨rfl, rfl⟩ := hz
      rw [if_pos ⟨hx, hi⟩]
      refine ⟨fun c => ⟨by omega, ?_⟩, fun c => ⟨by omega, ?_⟩⟩
      · have := ih (k + 1) (by omega)
        rw [← bs_no (k := k) (by simp only [decide_eq_true_eq]; omega)] at this
        exact this
      · rw [bs_yes (k := k) (by omega) (by simp only [decide_eq_true_eq]; omega)]
        exact ih (k + 1) (by omega)
  exact loop n 0 (by omega)
theorem c_overX (B : BW n D W br) (X : CX n D W br b m) : CI l G Y_S_over (d + 1) [.inr (.inr 0)] m (fun z m' => z = bs n (fun i => decide (br i ≤ m 25 i)) ∧ m = m') :=
  e_S_over (fun _ => ⟨b, X.2.1, X.1, d, _, by omega, c_overfull X.1 B.1 X.2.2 (h := 25) (len := 8) rfl (by decide) (by decide), fun z m1 hz _ _ => hz⟩)
end Brd
section Over
variable {l : Launch} {G : GT} {d : Nat} {m : MM} {n : Nat} {D : Int → Int} {W : Int → Int → Int} {br : Int → Int}
end Over
