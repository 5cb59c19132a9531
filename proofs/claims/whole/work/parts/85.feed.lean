/-! feed of both -/
theorem bAnd_255 (x : Int) : bAnd x 255 = x % 256 := by
  unfold bAnd
  have h1 : (Int32.ofInt x &&& Int32.ofInt 255).toBitVec = BitVec.ofInt 32 x &&& 255#32 := rfl
  have h2 : (Int32.ofInt x &&& Int32.ofInt 255).toInt = (BitVec.ofInt 32 x &&& 255#32).toInt := rfl
  rw [h2, BitVec.toInt_eq_toNat_cond]
  have h3 : (BitVec.ofInt 32 x &&& 255#32).toNat = (x % 4294967296).toNat % 256 := by
    rw [BitVec.toNat_and, BitVec.toNat_ofInt]
    exact Nat.and_two_pow_sub_one_eq_mod _ 8
  rw [h3, if_pos (by omega)]
  omega
theorem bShr_div {x : Int} (hx : inR x) {s : Int} (hs : s = 0 ∨ s = 8 ∨ s = 16 ∨ s = 24) : bShr x s = x / 2 ^ s.toNat := by
  unfold bShr
  have h0 : (BitVec.ofInt 32 x).toInt = x := by
    rw [BitVec.toInt_ofInt]
    exact w32_id hx
  rcases hs with rfl | rfl | rfl | rfl
  · have h2 : (Int32.ofInt x >>> (Int32.ofInt 0 &&& 31)).toInt = ((BitVec.ofInt 32 x).sshiftRight 0).toInt := rfl
    rw [h2, BitVec.toInt_sshiftRight, h0, Int.shiftRight_eq_div_pow]; rfl
  · have h2 : (Int32.ofInt x >>> (Int32.ofInt 8 &&& 31)).toInt = ((BitVec.ofInt 32 x).sshiftRight 8).toInt := rfl
    rw [h2, BitVec.toInt_sshiftRight, h0, Int.shiftRight_eq_div_pow]; rfl
  · have h2 : (Int32.ofInt x >>> (Int32.ofInt 16 &&& 31)).toInt = ((BitVec.ofInt 32 x).sshiftRight 16).toInt := rfl
    rw [h2, BitVec.toInt_sshiftRight, h0, Int.shiftRight_eq_div_pow]; rfl
  · have h2 : (Int32.ofInt x >>> (Int32.ofInt 24 &&& 31)).toInt = ((BitVec.ofInt 32 x).sshiftRight 24).toInt := rfl
    rw [h2, BitVec.toInt_sshiftRight, h0, Int.shiftRight_eq_div_pow]; rfl
theorem bUshr_mod (x : Int) {s : Int} (hs : s = 0 ∨ s = 8 ∨ s = 16 ∨ s = 24) : bUshr x s % 256 = (x % 4294967296) / 2 ^ s.toNat % 256 := by
  unfold bUshr
  have h0 : (BitVec.ofInt 32 x).toNat = (x % 4294967296).toNat := BitVec.toNat_ofInt _
  have key : ∀ k : Nat, ((BitVec.ofInt 32 x) >>> k).toInt % 256 = (x % 4294967296) / 2 ^ k % 256 := fun k => by
    rw [BitVec.toInt_eq_toNat_cond, BitVec.toNat_ushiftRight, h0, Nat.shiftRight_eq_div_pow]
    have e : (((x % 4294967296).toNat / 2 ^ k : Nat) : Int) = (x % 4294967296) / 2 ^ k := by
      rw [Int.natCast_ediv, Int.toNat_of_nonneg (Int.emod_nonneg _ (by decide)), Int.natCast_pow]
      rfl
    rw [e]
    split <;> omega
  rcases hs with rfl | rfl | rfl | rfl
  · exact key 0
  · exact key 8
  · exact key 16
  · exact key 24
theorem bI2b_mod (y : Int) : bI2b y % 256 = y % 256 := by
  unfold bI2b
  rw [Int.bmod_def]
  split <;> omega
theorem bI2b_rng (y : Int) : -128 ≤ bI2b y ∧ bI2b y < 128 := by
  unfold bI2b
  rw [Int.bmod_def]
  split <;> omega
/-- the bytes of a number, the highest first -/
def by4 (x j : Int) : Int := if j = 0 then x / 16777216 % 256 else if j = 1 then x / 65536 % 256 else if j = 2 then x / 256 % 256 else x % 256
theorem by4_X {x j : Int} (hj : 0 ≤ j ∧ j < 4) : bAnd (bUshr x (24 - 8 * j)) 255 = by4 x j := by
  have hj4 : j = 0 ∨ j = 1 ∨ j = 2 ∨ j = 3 := by omega
  rw [bAnd_255, bUshr_mod x (by omega)]
  unfold by4
  rcases hj4 with rfl | rfl | rfl | rfl
  · show x % 4294967296 / 16777216 % 256 = x / 16777216 % 256
    omega
  · show x % 4294967296 / 65536 % 256 = x / 65536 % 256
    omega
  · show x % 4294967296 / 256 % 256 = x / 256 % 256
    omega
  · show x % 4294967296 / 1 % 256 = x % 256
    omega
theorem by4_M {x j : Int} (hx : inR x) (hj : 0 ≤ j ∧ j < 4) : bI2b (bShr x (24 - 8 * j)) % 256 = by4 x j := by
  have hj4 : j = 0 ∨ j = 1 ∨ j = 2 ∨ j = 3 := by omega
  rw [bI2b_mod, bShr_div hx (by omega)]
  unfold by4
  rcases hj4 with rfl | rfl | rfl | rfl
  · rfl
  · rfl
  · rfl
  · show x / 1 % 256 = x % 256
    omega
theorem and3_tab : ∀ k : Fin 20, bAnd (k.val : Int) 3 = (k.val : Int) % 4 := by decide +kernel
/-- the twenty bytes of five numbers -/
def wd5 (x1 x2 x3 x4 x5 j : Int) : Int := if j < 4 then x1 else if j < 8 then x2 else if j < 12 then x3 else if j < 16 then x4 else x5
def fdB (x1 x2 x3 x4 x5 j : Int) : Int := by4 (wd5 x1 x2 x3 x4 x5 j) (j % 4)
section Feed
variable {l : Launch} {G : GT} {d : Nat} {m : MM}
theorem c_putBytes {x : Int} (hL : 0 ≤ m 0 1 ∧ m 0 1 + 4 ≤ 1600) : CV l G Y_S_putBytes d [.inr (.inr 0), .inl x] m (fun m' => Fro 0 [1] [1] m m' ∧ m' 0 1 = m 0 1 + 4 ∧ ∀ t, m' 1 t = if m 0 1 ≤ t ∧ t < m 0 1 + 4 then by4 x (t - m 0 1) else m 1 t) := by
  refine e_S_putBytes x (fun _ _ => ?_)
  have loop : ∀ (k : Nat) (j : Int) (m1 : MM), j + k = 4 → 0 ≤ j → Fro 0 [1] [1] m m1 → m1 0 1 = m 0 1 + j → (∀ t, m1 1 t = if m 0 1 ≤ t ∧ t < m 0 1 + j then by4 x (t - m 0 1) else m 1 t) →
      Wq l G false Y_S_putBytes d (QV fun m' => Fro 0 [1] [1] m m' ∧ m' 0 1 = m 0 1 + 4 ∧ ∀ t, m' 1 t = if m 0 1 ≤ t ∧ t < m 0 1 + 4 then by4 x (t - m 0 1) else m 1 t) 3 [(0, .inr (.inr 0)), (1, .inl x), (2, .inl (24 - 8 * j))] [] m1 := by
    intro k
    induction k with
    | zero =>
      intro j m1 hjk h0 hf h1 ht
      have e : j = 4 := by omega
      rw [e] at h1 ht
      exact s_S_putBytes_3 _ _ (fun _ _ _ => ⟨fun _ => ⟨hf, h1, ht⟩, fun c => absurd (show 24 - 8 * j < 0 by omega) c⟩)
    | succ k ih =>
      intro j m1 hjk h0 hf h1 ht
      refine s_S_putBytes_3 _ _ (fun _ _ _ => ⟨fun c => absurd c (by omega), fun _ => ⟨fun c => absurd c (by omega), fun _ => ⟨by omega, ?_⟩⟩⟩)
      rw [by4_X ⟨h0, by omega⟩]
      rintro m2 rfl
      rw [up_ne (show 0 ≠ 1 by decide)]
      refine ⟨by omega, ?_⟩
      rintro m3 rfl
      refine ⟨by omega, ?_⟩
      rw [show 24 - 8 * j + (-8) = 24 - 8 * (j + 1) by omega]
      refine ih (j + 1) _ (by omega) (by omega) (Fro_upo (Fro_up hf (by simp) (by decide)) (by simp)) ?_ (fun t => ?_)
      · rw [up_at]; omega
      · rw [up_ne (show 1 ≠ 0 by decide), up_row, h1, ht t]
        by_cases e : t = m 0 1 + j
        · rw [if_pos e, if_pos (by omega), show t - m 0 1 = j by omega]
        · rw [if_neg e]
          by_cases e2 : m 0 1 ≤ t ∧ t < m 0 1 + j
          · rw [if_pos e2, if_pos (by omega)]
          · rw [if_neg e2, if_neg (by omega)]
  exact loop 4 0 m (by omega) (by omega) Fro.rf (by omega) (fun t => by rw [if_neg (by omega)])
theorem c_feedX {x1 x2 x3 x4 x5 : Int} (hL : 0 ≤ m 0 1 ∧ m 0 1 ≤ 1600) : CI l G Y_S_feed (d + 1) [.inr (.inr 0), .inl x1, .inl x2, .inl x3, .inl x4, .inl x5] m (fun z m' => (m 0 1 + 20 ≤ 1600 → z = m 0 1 + 20 ∧ Fro 0 [1] [1] m m' ∧ m' 0 1 = m 0 1 + 20 ∧ ∀ t, m' 1 t = if m 0 1 ≤ t ∧ t < m 0 1 + 20 then fdB x1 x2 x3 x4 x5 (t - m 0 1) else m 1 t) ∧ (¬ (m 0 1 + 20 ≤ 1600) → z = -1 ∧ m = m')) := by
  refine e_S_feed x1 x2 x3 x4 x5 (fun _ _ _ _ _ _ => ⟨by omega, fun c => ?_, fun c => ⟨fun q => absurd q c, fun _ => ⟨rfl, rfl⟩⟩⟩)
  refine ⟨d, _, by omega, c_putBytes (by omega), fun a1 h1 _ => ?_⟩
  obtain ⟨f1, l1, t1⟩ := h1
  refine ⟨d, _, by omega, c_putBytes (by omega), fun a2 h2 _ => ?_⟩
  obtain ⟨f2, l2, t2⟩ := h2
  refine ⟨d, _, by omega, c_putBytes (by omega), fun a3 h3 _ => ?_⟩
  obtain ⟨f3, l3, t3⟩ := h3
  refine ⟨d, _, by omega, c_putBytes (by omega), fun a4 h4 _ => ?_⟩
  obtain ⟨f4, l4, t4⟩ := h4
  refine ⟨d, _, by omega, c_putBytes (by omega), fun a5 h5 _ => ?_⟩
  obtain ⟨f5, l5, t5⟩ := h5
  refine ⟨fun _ => ⟨by omega, (((f1.tr f2).tr f3).tr f4).tr f5, by omega, fun t => ?_⟩, fun q => absurd c q⟩
  rw [t5, t4, t3, t2, t1, l4, l3, l2, l1]
  generalize m 0 1 = L at hL c
  unfold fdB wd5
  by_cases h5 : L + 16 ≤ t ∧ t < L + 20
  · rw [if_pos (show L + 4 + 4 + 4 + 4 ≤ t ∧ t < L + 4 + 4 + 4 + 4 + 4 by omega), if_pos (show L ≤ t ∧ t < L + 20 by omega), if_neg (show ¬ t - L < 4 by omega), if_neg (show ¬ t - L < 8 by omega), if_neg (show ¬ t - L < 12 by omega), if_neg (show ¬ t - L < 16 by omega), show t - (L + 4 + 4 + 4 + 4) = (t - L) % 4 by omega]
  · rw [if_neg (show ¬ (L + 4 + 4 + 4 + 4 ≤ t ∧ t < L + 4 + 4 + 4 + 4 + 4) by omega)]
    by_cases h4 : L + 12 ≤ t ∧ t < L + 16
    · rw [if_pos (show L + 4 + 4 + 4 ≤ t ∧ t < L + 4 + 4 + 4 + 4 by omega), if_pos (show L ≤ t ∧ t < L + 20 by omega), if_neg (show ¬ t - L < 4 by omega), if_neg (show ¬ t - L < 8 by omega), if_neg (show ¬ t - L < 12 by omega), if_pos (show t - L < 16 by omega), show t - (L + 4 + 4 + 4) = (t - L) % 4 by omega]
    · rw [if_neg (show ¬ (L + 4 + 4 + 4 ≤ t ∧ t < L + 4 + 4 + 4 + 4) by omega)]
      by_cases h3 : L + 8 ≤ t ∧ t < L + 12
      · rw [if_pos (show L + 4 + 4 ≤ t ∧ t < L + 4 + 4 + 4 by omega), if_pos (show L ≤ t ∧ t < L + 20 by omega), if_neg (show ¬ t - L < 4 by omega), if_neg (show ¬ t - L < 8 by omega), if_pos (show t - L < 12 by omega), show t - (L + 4 + 4) = (t - L) % 4 by omega]
      · rw [if_neg (show ¬ (L + 4 + 4 ≤ t ∧ t < L + 4 + 4 + 4) by omega)]
        by_cases h2 : L + 4 ≤ t ∧ t < L + 8
        · rw [if_pos (show L + 4 ≤ t ∧ t < L + 4 + 4 by omega), if_pos (show L ≤ t ∧ t < L + 20 by omega), if_neg (show ¬ t - L < 4 by omega), if_pos (show t - L < 8 by omega), show t - (L + 4) = (t - L) % 4 by omega]
        · rw [if_neg (show ¬ (L + 4 ≤ t ∧ t < L + 4 + 4) by omega)]
          by_cases h1 : L ≤ t ∧ t < L + 4
          · rw [if_pos (show L ≤ t ∧ t < L + 4 by omega), if_pos (show L ≤ t ∧ t < L + 20 by omega), if_pos (show t - L < 4 by omega), show t - L = (t - L) % 4 by omega, Int.emod_emod_of_dvd _ (Int.dvd_refl 4)]
          · rw [if_neg h1, if_neg (show ¬ (L ≤ t ∧ t < L + 20) by omega)]
theorem c_feedM {x1 x2 x3 x4 x5 : Int} (hL : 0 ≤ m 70 2 ∧ m 70 2 ≤ 1600) : CI l G Y_M_feed d [.inr (.inr 70), .inl x1, .inl x2, .inl x3, .inl x4, .inl x5] m (fun z m' => (m 70 2 + 20 ≤ 1600 → z = m 70 2 + 20 ∧ Fro 70 [71] [2] m m' ∧ m' 70 2 = m 70 2 + 20 ∧ ∀ t, (m 70 2 ≤ t ∧ t < m 70 2 + 20 → m' 71 t % 256 = fdB x1 x2 x3 x4 x5 (t - m 70 2)) ∧ (¬ (m 70 2 ≤ t ∧ t < m 70 2 + 20) → m' 71 t = m 71 t)) ∧ (¬ (m 70 2 + 20 ≤ 1600) → z = -1 ∧ m = m')) := by
  refine e_M_feed x1 x2 x3 x4 x5 (fun _ i1 i2 i3 i4 i5 => ⟨by omega, fun c => ?_, fun c => ⟨fun q => absurd q c, fun _ => ⟨rfl, rfl⟩⟩⟩)
  generalize hQ : (QI fun z m' => (m 70 2 + 20 ≤ 1600 → z = m 70 2 + 20 ∧ Fro 70 [71] [2] m m' ∧ m' 70 2 = m 70 2 + 20 ∧ ∀ t, (m 70 2 ≤ t ∧ t < m 70 2 + 20 → m' 71 t % 256 = fdB x1 x2 x3 x4 x5 (t - m 70 2)) ∧ (¬ (m 70 2 ≤ t ∧ t < m 70 2 + 20) → m' 71 t = m 71 t)) ∧ (¬ (m 70 2 + 20 ≤ 1600) → z = -1 ∧ m = m')) = Q
  have loop : ∀ (k : Nat) (j : Int) (m1 : MM), j + k = 20 → 0 ≤ j → Fro 70 [71] [2] m m1 → m1 70 2 = m 70 2 → (∀ t, (m 70 2 ≤ t ∧ t < m 70 2 + j → m1 71 t % 256 = fdB x1 x2 x3 x4 x5 (t - m 70 2)) ∧ (¬ (m 70 2 ≤ t ∧ t < m 70 2 + j) → m1 71 t = m 71 t)) →
      Wq l G false Y_M_feed d Q 18 [(0, .inr (.inr 70)), (1, .inl x1), (2, .inl x2), (3, .inl x3), (4, .inl x4), (5, .inl x5), (6, .inl j)] [] m1 := by
    intro k
    induction k with
    | zero =>
      intro j m1 hjk h0 hf h2 ht
      have e : j = 20 := by omega
      rw [e] at ht
      subst hQ
      refine s_M_feed_18 _ _ _ _ _ _ (fun _ _ _ _ _ _ _ => ⟨fun _ => ⟨by omega, ?_⟩, fun q => absurd (show j ≥ 20 by omega) q⟩)
      rintro m2 rfl
      refine ⟨fun _ => ⟨by rw [up_at, h2], Fro_upo hf (by simp), by rw [up_at, h2], fun t => ?_⟩, fun q => absurd c q⟩
      rw [up_ne (show 71 ≠ 70 by decide)]
      exact ht t
    | succ k ih =>
      intro j m1 hjk h0 hf h2 ht
      have hb : bAnd j 3 = j % 4 := by
        have := and3_tab ⟨j.toNat, by omega⟩
        rw [show (((⟨j.toNat, by omega⟩ : Fin 20).val : Nat) : Int) = j from Int.toNat_of_nonneg h0] at this
        exact this
      have leaf : ∀ v : Int, v = wd5 x1 x2 x3 x4 x5 j → inR v → (inR ((m1 70 2) + j)) ∧ ((inR (8 * (bAnd j 3))) ∧ ((inR (24 - (8 * (bAnd j 3)))) ∧ ((0 ≤ ((m1 70 2) + j) ∧ ((m1 70 2) + j) < (1620 : Int)) ∧ ((-128 ≤ (bI2b (bShr v (24 - (8 * (bAnd j 3))))) ∧ (bI2b (bShr v (24 - (8 * (bAnd j 3))))) < 128) ∧ (∀ m37, m37 = up m1 71 ((m1 70 2) + j) (bI2b (bShr v (24 - (8 * (bAnd j 3))))) → ((inR (j + 1)) ∧ (Wq l G false Y_M_feed d Q 18 [(0, .inr (.inr 70)), (1, .inl x1), (2, .inl x2), (3, .inl x3), (4, .inl x4), (5, .inl x5), (6, .inl (j + 1))] [] m37))))))) := by
        intro v hv hvR
        rw [hb]
        refine ⟨by omega, by omega, by omega, by omega, bI2b_rng _, ?_⟩
        rintro m2 rfl
        refine ⟨by omega, ih (j + 1) _ (by omega) (by omega) (Fro_up hf (by simp) (by decide)) (by rw [up_ne (by decide)]; exact h2) (fun t => ?_)⟩
        rw [up_row, h2]
        by_cases e : t = m 70 2 + j
        · rw [if_pos e]
          refine ⟨fun _ => ?_, fun q => absurd (by omega) q⟩
          rw [by4_M hvR (by omega), hv, show t - m 70 2 = j by omega]
          rfl
        · rw [if_neg e]
          exact ⟨fun q => (ht t).1 (by omega), fun q => (ht t).2 (by omega)⟩
      have w : ∀ {q : Prop} [Decidable q] {a b : Int}, q → (if q then a else b) = a := fun h => if_pos h
      subst hQ
      refine s_M_feed_18 _ _ _ _ _ _ (fun _ _ _ _ _ _ _ => ⟨fun q => absurd q (by omega), fun _ => ⟨fun c4 => ⟨fun c8 => ⟨fun c12 => ⟨fun c16 => leaf x5 ?_ i5, fun c16 => leaf x4 ?_ i4⟩, fun c12 => leaf x3 ?_ i3⟩, fun c8 => leaf x2 ?_ i2⟩, fun c4 => leaf x1 ?_ i1⟩⟩)
      · unfold wd5; rw [if_neg (by omega), if_neg (by omega), if_neg (by omega), if_neg (by omega)]
      · unfold wd5; rw [if_neg (by omega), if_neg (by omega), if_neg (by omega), if_pos (by omega)]
      · unfold wd5; rw [if_neg (by omega), if_neg (by omega), if_pos (by omega)]
      · unfold wd5; rw [if_neg (by omega), if_pos (by omega)]
      · unfold wd5; rw [if_pos (by omega)]
  subst hQ
  exact loop 20 0 m (by omega) (by omega) Fro.rf rfl (fun t => ⟨fun q => absurd q (by omega), fun _ => rfl⟩)
end Feed
