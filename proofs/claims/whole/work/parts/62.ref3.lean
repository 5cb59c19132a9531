section Ref3
variable {l : Launch} {G : GT} {d : Nat} {m : MM} {n : Nat} {D : Int → Int} {W : Int → Int → Int} {br : Int → Int}
theorem c_isIn {x y z : Int} : CI l G Y_M_isIn d [.inl x, .inl y, .inl z] m (fun r m' => r = (if y ≤ x ∧ x ≤ z then 1 else 0) ∧ m = m') := by
  refine e_M_isIn x y z (fun _ _ _ _ => ⟨fun c => ⟨?_, rfl⟩, fun c => ⟨fun c2 => ⟨?_, rfl⟩, fun c2 => ⟨?_, rfl⟩⟩⟩)
  · rw [if_neg (by omega)]
  · rw [if_neg (by omega)]
  · rw [if_pos (by omega)]
theorem c_isPlate (hn : n ≤ 5) (X : BM n D W br m) {x : Int} : CI l G Y_M_isPlate (d + 1) [.inr (.inr 70), .inl x] m (fun r m' => r = (if In n x then 1 else 0) ∧ m = m') := by
  refine e_M_isPlate x (fun _ _ => ⟨d, _, Nat.lt_succ_self d, c_lots X, fun z m1 hz _ _ => ?_⟩)
  obtain ⟨rfl, rfl⟩ := hz
  refine ⟨by omega, d, _, Nat.lt_succ_self d, c_isIn, fun z m1 hz _ _ => ?_⟩
  obtain ⟨rfl, rfl⟩ := hz
  by_cases h : In n x
  · rw [if_pos (show 0 ≤ x ∧ x ≤ (n : Int) - 1 by omega), if_pos h]
    exact ⟨Or.inr rfl, rfl, rfl⟩
  · rw [if_neg (show ¬ (0 ≤ x ∧ x ≤ (n : Int) - 1) by omega), if_neg h]
    exact ⟨Or.inl rfl, rfl, rfl⟩
theorem c_held {x y z : Int} (hyz : y ≤ z) : CI l G Y_M_held d [.inl x, .inl y, .inl z] m (fun r m' => r = max y (min z x) ∧ m = m') := by
  refine e_M_held x y z (fun _ _ _ _ => ⟨fun c => ⟨fun c2 => ⟨?_, rfl⟩, fun c2 => ⟨?_, rfl⟩⟩, fun c => ⟨?_, rfl⟩⟩) <;> omega
theorem c_keptTo {x y : Int} : CI l G Y_M_keptTo d [.inl x, .inl y] m (fun r m' => r = (if x ≤ 999 then x else if y > 999 then y else 999) ∧ m = m') := by
  refine e_M_keptTo x y (fun _ _ _ => ⟨fun c => ⟨fun c2 => ⟨?_, rfl⟩, fun c2 => ⟨?_, rfl⟩⟩, fun c => ⟨?_, rfl⟩⟩)
  · rw [if_neg (by omega), if_neg (by omega)]
  · rw [if_neg (by omega), if_pos (by omega)]
  · rw [if_pos (by omega)]
/-- a bit of a set -/
def bt (s i : Int) : Int := bAnd (bShr s i) 1
theorem c_bit {s i : Int} : CI l G Y_M_bit d [.inl s, .inl i] m (fun r m' => r = (if bt s i = 1 then 1 else 0) ∧ m = m') := by
  refine e_M_bit s i (fun _ _ _ => ⟨fun c => ⟨?_, rfl⟩, fun c => ⟨?_, rfl⟩⟩)
  · exact (if_neg (show ¬ bt s i = 1 from c)).symm
  · exact (if_pos (show bt s i = 1 from Classical.not_not.mp c)).symm
theorem c_layNow (hn : n ≤ 5) (X : BM n D W br m) : CV l G Y_M_layNow (d + 1) [.inr (.inr 70)] m (fun m' => Fro 70 [93] [] m m' ∧ (∀ i, In n i → m' 93 i = m 90 i) ∧ ∀ i, 0 ≤ i → i < 5 → ¬ In n i → m' 93 i = 0) := by
  refine e_M_layNow (fun _ => ?_)
  have loop : ∀ (j : Nat) (i : Int) (m1 : MM), i + j = 5 → 0 ≤ i → Fro 70 [93] [] m m1 → (∀ t, 0 ≤ t → t < i → m1 93 t = if In n t then m 90 t else 0) →
      Wq l G false Y_M_layNow (d + 1) (QV fun m' => Fro 70 [93] [] m m' ∧ (∀ i, In n i → m' 93 i = m 90 i) ∧ ∀ i, 0 ≤ i → i < 5 → ¬ In n i → m' 93 i = 0) 2 [(0, .inr (.inr 70)), (1, .inl i)] [] m1 := by
    intro j
    induction j with
    | zero =>
      intro i m1 hij h0 hf hr
      refine s_M_layNow_2 i (fun _ _ => ⟨fun _ => ⟨hf, fun t ht => ?_, fun t t0 t5 ht => ?_⟩, fun c => absurd (show i ≥ 5 by omega) c⟩)
      · rw [hr t ht.1 (by omega), if_pos ht]
      · rw [hr t t0 (by omega), if_neg ht]
    | succ j ih =>
      intro i m1 hij h0 hf hr
      have X1 : BM n D W br m1 := X.fro hf (by decide) (by decide) (by decide) (by decide) (by decide)
      refine s_M_layNow_2 i (fun _ _ => ⟨fun c => absurd c (by omega), fun _ => ⟨d, _, Nat.lt_succ_self d, c_lots X1, fun z m2 hz _ _ => ?_⟩⟩)
      obtain ⟨rfl, rfl⟩ := hz
      rw [Int.zero_add]
      refine ⟨fun c => ⟨by omega, ?_⟩, fun c => ⟨by omega, by omega, by omega, ?_⟩⟩
      · rintro m2 rfl
        refine ⟨by omega, ih (i + 1) _ (by omega) (by omega) (Fro_up hf (by simp) (by decide)) (fun t t0 t1 => ?_)⟩
        rw [up_row]
        by_cases e : t = i
        · rw [if_pos e, if_neg (by omega)]
        · rw [if_neg e]; exact hr t t0 (by omega)
      · rintro m2 rfl
        refine ⟨by omega, ih (i + 1) _ (by omega) (by omega) (Fro_up hf (by simp) (by decide)) (fun t t0 t1 => ?_)⟩
        rw [up_row]
        by_cases e : t = i
        · rw [if_pos e, if_pos (by omega), hf.1 90 (by decide) (by decide), e]
        · rw [if_neg e]; exact hr t t0 (by omega)
  exact loop 5 0 m (by omega) (by omega) Fro.rf (fun t t0 t1 => by omega)
theorem sm_part {k n : Nat} {f : Int → Int} (h : ∀ i, In n i → 0 ≤ f i) (hk : k ≤ n) : 0 ≤ sm k f ∧ sm k f ≤ sm n f := by
  have hmono : ∀ j : Nat, k + j ≤ n → sm k f ≤ sm (k + j) f := by
    intro j
    induction j with
    | zero => intro _; exact Int.le_refl _
    | succ j ih =>
      intro hj
      have h1 := ih (by omega)
      have h2 := h ((k + j : Nat) : Int) ⟨by omega, by omega⟩
      show _ ≤ sm (k + j) f + f ((k + j : Nat) : Int)
      omega
  have h1 := hmono (n - k) (by omega)
  rw [show k + (n - k) = n by omega] at h1
  exact ⟨sm_nonneg (fun i hi => h i ⟨hi.1, by omega⟩), h1⟩
theorem c_levelOf (hn : n ≤ 5) (X : BM n D W br m) (hb : ∀ i, In n i → -100000000 ≤ m 93 i ∧ m 93 i ≤ 100000000) : CI l G Y_M_levelOf (d + 1) [.inr (.inr 70)] m (fun z m' => z = sm n (m 93) ∧ m = m') := by
  refine e_M_levelOf (fun _ => ?_)
  have loop : ∀ (j : Nat) (i y : Int), i + j = n → 0 ≤ i → y = sm i.toNat (m 93) → (-100000000 * i ≤ y ∧ y ≤ 100000000 * i) →
      Wq l G false Y_M_levelOf (d + 1) (QI fun z m' => z = sm n (m 93) ∧ m = m') 4 [(0, .inr (.inr 70)), (1, .inl y), (2, .inl i)] [] m := by
    intro j
    induction j with
    | zero =>
      intro i y hij h0 hy hr
      refine s_M_levelOf_4 y i (fun _ _ _ => ⟨d, _, Nat.lt_succ_self d, c_lots X, fun z m2 hz _ _ => ?_⟩)
      obtain ⟨rfl, rfl⟩ := hz
      refine ⟨fun _ => ⟨?_, rfl⟩, fun c => absurd (show i ≥ (n : Int) by omega) c⟩
      rw [hy, show i.toNat = n by omega]
    | succ j ih =>
      intro i y hij h0 hy hr
      have hbi := hb i (by omega)
      refine s_M_levelOf_4 y i (fun _ _ _ => ⟨d, _, Nat.lt_succ_self d, c_lots X, fun z m2 hz _ _ => ?_⟩)
      obtain ⟨rfl, rfl⟩ := hz
      refine ⟨fun c => absurd c (by omega), fun _ => ⟨by omega, by omega, by omega, ih (i + 1) _ (by omega) (by omega) ?_ (by omega)⟩⟩
      rw [show (i + 1).toNat = i.toNat + 1 by omega, hy]
      show _ = sm i.toNat (m 93) + m 93 (i.toNat : Int)
      rw [Int.toNat_of_nonneg h0]
  exact loop n 0 0 (by omega) (by omega) rfl (by omega)
/-- the heap at rest in the reference's rows -/
def RestM (n : Nat) (D : Int → Int) (W : Int → Int → Int) (br : Int → Int) (m m' : MM) : Prop :=
  Fro 70 [93, 94] [41] m m' ∧ ∃ u, Stb n W br (m 90) u ∧ (∀ i, In n i → m' 93 i = m 90 i - Lp n W br u i) ∧ (∀ i, In n i → m' 94 i = u i) ∧ m' 70 41 = sm n (fun i => D i * u i)
theorem c_layRest (B : BW n D W br) (X : BM n D W br m) (hg : ∀ i, In n i → 0 ≤ m 90 i) {N : Int} (hN : sm n (m 90) ≤ N) (hN3 : N ≤ 1000000) : CV l G Y_M_layRest (d + 3) [.inr (.inr 70)] m (RestM n D W br m) := by
  refine e_M_layRest (fun _ => ⟨d + 1, _, by omega, c_layNow B.1 X, fun m1 h1 _ => ?_⟩)
  obtain ⟨f1, g1, -⟩ := h1
  have X1 : BM n D W br m1 := X.fro f1 (by decide) (by decide) (by decide) (by decide) (by decide)
  refine ⟨d + 2, _, by omega, c_settleHeap B X1 (fun i hi => by rw [g1 i hi]; exact hg i hi) (N := N) (by rw [sm_congr g1]; exact hN) hN3, fun z m2 h2 _ _ => ?_⟩
  obtain ⟨u, hu, hc, -⟩ := h2
  refine ⟨(f1.mono (by simp) (by simp)).tr hc.1, u, hu.congr g1, fun i hi => ?_, hc.2.2.2.1, hc.2.2.2.2.2⟩
  rw [hc.2.1 i hi, g1 i hi]
theorem c_restM (B : BW n D W br) (X : BM n D W br m) (hg : ∀ i, In n i → 0 ≤ m 90 i) {N : Int} (hN : sm n (m 90) ≤ N) (hN3 : N ≤ 1000000) {x : Int} : CI l G Y_M_rest (d + 4) [.inr (.inr 70), .inl x] m (fun z m' => Fro 70 [93, 94] [41] m m' ∧ ∃ u, Stb n W br (m 90) u ∧ z = if In n x then m 90 x - Lp n W br u x else -1) := by
  refine e_M_rest x (fun _ _ => ⟨d + 3, _, by omega, c_layRest B X hg hN hN3, fun m1 h1 _ => ?_⟩)
  obtain ⟨f1, u, hu, r1, r2, r3⟩ := h1
  have X1 : BM n D W br m1 := X.fro f1 (by decide) (by decide) (by decide) (by decide) (by decide)
  refine ⟨d + 1, _, by omega, c_isPlate B.1 X1, fun z m2 hz _ _ => ?_⟩
  obtain ⟨rfl, rfl⟩ := hz
  have hn5 := B.1
  by_cases h : In n x
  · rw [if_pos h]
    refine ⟨fun c => absurd c (by decide), fun _ => ⟨by omega, f1, u, hu, ?_⟩⟩
    rw [if_pos h, r1 x h]
  · rw [if_neg h]
    refine ⟨fun _ => ⟨f1, u, hu, ?_⟩, fun c => absurd rfl c⟩
    rw [if_neg h]
theorem c_oftenM (B : BW n D W br) (X : BM n D W br m) (hg : ∀ i, In n i → 0 ≤ m 90 i) {N : Int} (hN : sm n (m 90) ≤ N) (hN3 : N ≤ 1000000) {x : Int} : CI l G Y_M_often (d + 4) [.inr (.inr 70), .inl x] m (fun z m' => Fro 70 [93, 94] [41] m m' ∧ ∃ u, Stb n W br (m 90) u ∧ z = if In n x then u x else -1) := by
  refine e_M_often x (fun _ _ => ⟨d + 3, _, by omega, c_layRest B X hg hN hN3, fun m1 h1 _ => ?_⟩)
  obtain ⟨f1, u, hu, r1, r2, r3⟩ := h1
  have X1 : BM n D W br m1 := X.fro f1 (by decide) (by decide) (by decide) (by decide) (by decide)
  refine ⟨d + 1, _, by omega, c_isPlate B.1 X1, fun z m2 hz _ _ => ?_⟩
  obtain ⟨rfl, rfl⟩ := hz
  have hn5 := B.1
  by_cases h : In n x
  · rw [if_pos h]
    refine ⟨fun c => absurd c (by decide), fun _ => ⟨by omega, f1, u, hu, ?_⟩⟩
    rw [if_pos h, r2 x h]
  · rw [if_neg h]
    refine ⟨fun _ => ⟨f1, u, hu, ?_⟩, fun c => absurd rfl c⟩
    rw [if_neg h]
theorem c_spiltM (B : BW n D W br) (X : BM n D W br m) (hg : ∀ i, In n i → 0 ≤ m 90 i) {N : Int} (hN : sm n (m 90) ≤ N) (hN3 : N ≤ 1000000) : CI l G Y_M_spilt (d + 4) [.inr (.inr 70)] m (fun z m' => Fro 70 [93, 94] [41] m m' ∧ ∃ u, Stb n W br (m 90) u ∧ z = sm n (fun i => D i * u i)) := by
  refine e_M_spilt (fun _ => ⟨d + 3, _, by omega, c_layRest B X hg hN hN3, fun m1 h1 _ => ?_⟩)
  obtain ⟨f1, u, hu, r1, r2, r3⟩ := h1
  exact ⟨f1, u, hu, r3⟩
end Ref3
