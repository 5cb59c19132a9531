/-! common divisors, powers, odds of both -/
def gN (a b : Int) : Int := ((Nat.gcd a.natAbs b.natAbs : Nat) : Int)
theorem gcd_go (x y : Nat) : Nat.gcd x y = Nat.gcd y (x % y) := by rw [Nat.gcd_comm x y, Nat.gcd_rec y x, Nat.gcd_comm]
theorem mod_half {y r : Nat} (hr : 0 < r) (h : r ≤ y) : 2 * (y % r) < y := by
  have h1 := Nat.mod_lt y hr
  have h2 := Nat.div_add_mod y r
  have h3 : 1 ≤ y / r := (Nat.le_div_iff_mul_le hr).2 (by omega)
  have h4 : r * 1 ≤ r * (y / r) := Nat.mul_le_mul_left r h3
  omega
theorem tmod_nat (x y : Nat) : Int.tmod (x : Int) (y : Int) = ((x % y : Nat) : Int) := by
  rw [Int.tmod_eq_emod_of_nonneg (Int.natCast_nonneg x)]
  rfl
section Gcd
variable {l : Launch} {G : GT} {d : Nat} {m : MM} {b : Nat} {n : Nat} {D : Int → Int} {W : Int → Int → Int} {br : Int → Int}
theorem c_gcd15 : ∀ (f x y : Nat) (i : Int), y < 2 ^ f → 0 ≤ i → i + 2 * f + 2 ≤ 1000 → Wq l G false Y_S_commonDivisor d (QJ fun z m' => z = ((Nat.gcd x y : Nat) : Int) ∧ m = m') 15 [(4, .inr (.inl (x : Int))), (6, .inr (.inl (y : Int))), (8, .inl i)] [] m
  | 0, x, y, i, hy, hi, hf => by
    have e : y = 0 := by rw [Nat.pow_zero] at hy; omega
    subst e
    exact s_S_commonDivisor_15 _ _ _ (fun _ _ _ _ => ⟨fun c => absurd c (by omega), fun _ => ⟨fun _ => ⟨by rw [Nat.gcd_zero_right], rfl⟩, fun c => absurd rfl c⟩⟩)
  | f + 1, x, y, i, hy, hi, hf => by
    refine s_S_commonDivisor_15 _ _ _ (fun _ _ _ _ => ⟨fun c => absurd c (by omega), fun _ => ⟨fun c => ?_, fun c => ⟨c, by omega, ?_⟩⟩⟩)
    · have e : y = 0 := by omega
      subst e
      exact ⟨by rw [Nat.gcd_zero_right], rfl⟩
    · rw [tmod_nat, gcd_go x y]
      have hy0 : 0 < y := by omega
      have hr := Nat.mod_lt x hy0
      generalize x % y = r at hr
      refine s_S_commonDivisor_15 _ _ _ (fun _ _ _ _ => ⟨fun c => absurd c (by omega), fun _ => ⟨fun c => ?_, fun c => ⟨c, by omega, ?_⟩⟩⟩)
      · have e : r = 0 := by omega
        subst e
        exact ⟨by rw [Nat.gcd_zero_right], rfl⟩
      · rw [tmod_nat, gcd_go y r]
        have hm := mod_half (y := y) (r := r) (by omega) (by omega)
        exact c_gcd15 f r (y % r) (i + 1 + 1) (by rw [Nat.pow_succ] at hy; omega) (by omega) (by omega)
theorem c_commonDivisor {a b : Int} (ha : -9223372036854775808 < a ∧ a < 9223372036854775808) (hb : -9223372036854775808 < b ∧ b < 9223372036854775808) : CJ l G Y_S_commonDivisor (d + 1) [.inr (.inl a), .inr (.inl b)] m (fun z m' => z = gN a b ∧ m = m') := by
  refine e_S_commonDivisor a b (by omega) (fun _ _ _ => ⟨ha.1, hb.1, ?_⟩)
  have e1 : (if a < 0 then -a else a) = (a.natAbs : Int) := by split <;> omega
  have e2 : (if b < 0 then -b else b) = (b.natAbs : Int) := by split <;> omega
  rw [e1, e2]
  exact c_gcd15 63 a.natAbs b.natAbs 0 (by omega) (by omega) (by omega)
theorem c_div22 : ∀ (f x y : Nat), y < f → Wq l G false Y_M_divisor d (QI fun z m' => z = ((Nat.gcd x y : Nat) : Int) ∧ m = m') 22 [(2, .inl (x : Int)), (3, .inl (y : Int))] [] m
  | 0, x, y, hy => absurd hy (Nat.not_lt_zero y)
  | f + 1, x, y, hy => by
    refine s_M_divisor_22 _ _ (fun _ _ _ => ⟨fun c => ?_, fun c => ⟨by omega, ?_⟩⟩)
    · have e : y = 0 := by omega
      subst e
      exact ⟨by rw [Nat.gcd_zero_right], rfl⟩
    · rw [tmod_nat, gcd_go x y]
      have hr := Nat.mod_lt x (show 0 < y by omega)
      exact c_div22 f y (x % y) (by omega)
theorem c_divisor {a b : Int} (ha : -2147483648 < a) (hb : -2147483648 < b) : CI l G Y_M_divisor d [.inl a, .inl b] m (fun z m' => z = gN a b ∧ m = m') := by
  have go : ∀ x y : Int, x = (a.natAbs : Int) → y = (b.natAbs : Int) → Wq l G false Y_M_divisor d (QI fun z m' => z = gN a b ∧ m = m') 22 [(2, .inl x), (3, .inl y)] [] m := fun x y hx hy => by
    rw [hx, hy]
    exact c_div22 (b.natAbs + 1) a.natAbs b.natAbs (by omega)
  exact e_M_divisor a b (fun _ hA hB => ⟨fun c => ⟨fun c2 => go _ _ (by omega) (by omega), fun c2 => ⟨by obtain ⟨p, q⟩ := hB; constructor <;> omega, go _ _ (by omega) (by omega)⟩⟩, fun c => ⟨by obtain ⟨p, q⟩ := hA; constructor <;> omega, fun c2 => go _ _ (by omega) (by omega), fun c2 => ⟨by obtain ⟨p, q⟩ := hB; constructor <;> omega, go _ _ (by omega) (by omega)⟩⟩⟩)
theorem pow_rng {a : Int} (ha : 0 ≤ a ∧ a ≤ 100) : ∀ j : Nat, 0 ≤ a ^ j ∧ a ^ j ≤ 100 ^ j
  | 0 => by rw [Int.pow_zero, Int.pow_zero]; decide
  | j + 1 => by
    have ih := pow_rng ha j
    rw [Int.pow_succ, Int.pow_succ]
    refine ⟨Int.mul_nonneg ih.1 ha.1, ?_⟩
    have h1 := Int.mul_le_mul_of_nonneg_right ih.2 ha.1
    have h2 := Int.mul_le_mul_of_nonneg_left ha.2 (show (0 : Int) ≤ 100 ^ j by omega)
    omega
theorem pow100 {j : Nat} (hj : j ≤ 4) : (0 : Int) < 100 ^ j ∧ (100 : Int) ^ j ≤ 100000000 := by
  have : j = 0 ∨ j = 1 ∨ j = 2 ∨ j = 3 ∨ j = 4 := by omega
  rcases this with rfl | rfl | rfl | rfl | rfl <;> decide
theorem c_power {a k : Int} (ha : 0 ≤ a ∧ a ≤ 100) (hk : 0 ≤ k ∧ k ≤ 4) : CI l G Y_M_power d [.inl a, .inl k] m (fun z m' => z = a ^ k.toNat ∧ m = m') := by
  refine e_M_power a k (fun _ _ _ => ?_)
  have loop : ∀ (j t : Nat), (t : Int) + j = k → Wq l G false Y_M_power d (QI fun z m' => z = a ^ k.toNat ∧ m = m') 4 [(0, .inl a), (1, .inl k), (2, .inl (a ^ t)), (3, .inl (t : Int))] [] m := by
    intro j
    induction j with
    | zero =>
      intro t ht
      have e : k.toNat = t := by omega
      exact s_M_power_4 _ _ _ _ (fun _ _ _ _ _ => ⟨fun _ => ⟨by rw [e], rfl⟩, fun c => absurd (show (t : Int) ≥ k by omega) c⟩)
    | succ j ih =>
      intro t ht
      have h1 := pow_rng ha (t + 1)
      have h2 := pow100 (j := t + 1) (by omega)
      have := ih (t + 1) (by omega)
      rw [Int.pow_succ] at this h1
      exact s_M_power_4 _ _ _ _ (fun _ _ _ _ _ => ⟨fun c => absurd c (by omega), fun _ => ⟨by omega, by omega, this⟩⟩)
  have := loop k.toNat 0 (by omega)
  rw [Int.pow_zero] at this
  exact this
theorem gN_comm (a b : Int) : gN a b = gN b a := by unfold gN; rw [Nat.gcd_comm]
theorem gN_pos {a b : Int} (h : b ≠ 0) : 0 < gN a b := by
  unfold gN
  have := Nat.gcd_pos_of_pos_right a.natAbs (n := b.natAbs) (by omega)
  omega
theorem tdiv_rng {x z M : Int} (hx : -M ≤ x ∧ x ≤ M) (hz : 0 < z) : -M ≤ Int.tdiv x z ∧ Int.tdiv x z ≤ M := by
  rcases Int.lt_or_le x 0 with h | h
  · have e : Int.tdiv x z = -(Int.tdiv (-x) z) := by rw [Int.neg_tdiv, Int.neg_neg]
    have f := tdiv_facts (x := -x) (y := z) (by omega) hz
    have g : Int.tdiv (-x) z * 1 ≤ Int.tdiv (-x) z * z := Int.mul_le_mul_of_nonneg_left (by omega) f.1
    omega
  · have f := tdiv_facts h hz
    have g : Int.tdiv x z * 1 ≤ Int.tdiv x z * z := Int.mul_le_mul_of_nonneg_left (by omega) f.1
    omega
/-- the class's part: lower is not 0 -/
theorem c_part {u w p : Int} (hu : -1000000000 ≤ u ∧ u ≤ 1000000000) (hw : -1000000000 ≤ w ∧ w ≤ 1000000000) (hw0 : w ≠ 0) : CI l G Y_S_part (d + 2) [.inr (.inl u), .inr (.inl w), .inl p] m (fun z m' => z = Int.tdiv (if p = 0 then u else w) (gN u w) ∧ m = m') := by
  refine e_S_part u w p (fun _ _ _ _ => ⟨d + 1, _, by omega, c_commonDivisor (by omega) (by omega), fun z m1 hz _ _ => ?_⟩)
  obtain ⟨rfl, rfl⟩ := hz
  have hp := gN_pos (a := u) hw0
  have h1 := tdiv_rng hu hp
  have h2 := tdiv_rng hw hp
  refine ⟨fun _ => ⟨fun c => ⟨⟨by omega, by omega⟩, by omega, ?_, rfl⟩, fun c => ⟨⟨by omega, by omega⟩, by omega, ?_, rfl⟩⟩, fun c => absurd hp c⟩
  · rw [if_neg c]
  · rw [if_pos (Classical.not_not.mp c)]
def odV (lk k p : Int) : Int := if (0 ≤ k ∧ k ≤ 4) ∧ 0 ≤ p ∧ p ≤ 1 then Int.tdiv (if p = 0 then (100 - lk) ^ k.toNat else 100 ^ k.toNat) (gN ((100 - lk) ^ k.toNat) (100 ^ k.toNat)) else -1
theorem c_oddsX (X : CX n D W br b m) {lk k p : Int} (hlk : m b 2 = lk) (hl : 0 ≤ lk ∧ lk ≤ 100) : CI l G Y_S_odds (d + 3) [.inr (.inr 0), .inl k, .inl p] m (fun z m' => z = odV lk k p ∧ m = m') := by
  unfold odV
  refine e_S_odds k p (fun _ _ _ => ⟨fun c => ⟨by rw [if_neg (by omega)], rfl⟩, fun c => ⟨fun c2 => ⟨by rw [if_neg (by omega)], rfl⟩, fun c2 => ⟨fun c3 => ⟨by rw [if_neg (by omega)], rfl⟩, fun c3 => ⟨fun c4 => ?_, fun c4 => ⟨by rw [if_neg (by omega)], rfl⟩⟩⟩⟩⟩)
  rw [if_pos (show (0 ≤ k ∧ k ≤ 4) ∧ 0 ≤ p ∧ p ≤ 1 by omega)]
  have loop : ∀ (j t : Nat), (t : Int) + j = k → Wq l G false Y_S_odds (d + 3) (QI fun z m' => z = Int.tdiv (if p = 0 then (100 - lk) ^ k.toNat else 100 ^ k.toNat) (gN ((100 - lk) ^ k.toNat) (100 ^ k.toNat)) ∧ m = m') 28 [(0, .inr (.inr 0)), (1, .inl k), (2, .inl p), (3, .inr (.inl ((100 - lk) ^ t))), (5, .inr (.inl (100 ^ t))), (7, .inl (t : Int))] [] m := by
    intro j
    induction j with
    | zero =>
      intro t ht
      have e : k.toNat = t := by omega
      have h1 := pow_rng (a := 100 - lk) (by omega) t
      have h2 := pow100 (j := t) (by omega)
      refine s_S_odds_28 _ _ _ _ _ (fun _ _ _ _ _ _ => ⟨fun _ => ⟨d + 2, _, by omega, c_part (by omega) (by omega) (by omega), fun z m1 hz _ _ => ?_⟩, fun c => absurd (show (t : Int) ≥ k by omega) c⟩)
      rw [e]
      exact hz
    | succ j ih =>
      intro t ht
      have h1 := pow_rng (a := 100 - lk) (by omega) (t + 1)
      have h2 := pow100 (j := t + 1) (by omega)
      have := ih (t + 1) (by omega)
      rw [Int.pow_succ, Int.pow_succ] at this
      rw [Int.pow_succ] at h1 h2
      rw [Int.pow_succ] at h1
      refine s_S_odds_28 _ _ _ _ _ (fun _ _ _ _ _ _ => ⟨fun c => absurd c (by omega), fun _ => ⟨b, X.2.1, X.1, ?_⟩⟩)
      rw [hlk]
      exact ⟨by omega, by omega, by omega, by omega, this⟩
  have := loop k.toNat 0 (by omega)
  rw [Int.pow_zero, Int.pow_zero] at this
  exact this
theorem c_oddsM (X : BM n D W br m) {lk k p : Int} (hlk : m 76 (m 70 28) = lk) (hl : 0 ≤ lk ∧ lk ≤ 100) : CI l G Y_M_odds (d + 1) [.inr (.inr 70), .inl k, .inl p] m (fun z m' => z = odV lk k p ∧ m = m') := by
  unfold odV
  have hb := X.1
  refine e_M_odds k p (fun _ _ _ => ⟨d, _, by omega, c_isIn, fun z m1 hz _ _ => ?_⟩)
  obtain ⟨rfl, rfl⟩ := hz
  by_cases hk : 0 ≤ k ∧ k ≤ 4
  · rw [if_pos hk]
    refine ⟨fun c => absurd c (by decide), fun _ => ⟨d, _, by omega, c_isIn, fun z m1 hz _ _ => ?_⟩⟩
    obtain ⟨rfl, rfl⟩ := hz
    by_cases hp : 0 ≤ p ∧ p ≤ 1
    · rw [if_pos hp, if_pos ⟨hk, hp⟩]
      refine ⟨fun _ => ⟨by omega, ?_⟩, fun c => absurd (by decide) c⟩
      rw [hlk]
      have h1 := pow_rng (a := 100 - lk) (by omega) k.toNat
      have h2 := pow100 (j := k.toNat) (by omega)
      refine ⟨by omega, d, _, by omega, c_power (by omega) hk, fun z m1 hz _ _ => ?_⟩
      obtain ⟨rfl, rfl⟩ := hz
      refine ⟨d, _, by omega, c_power (by decide) hk, fun z m1 hz _ _ => ?_⟩
      obtain ⟨rfl, rfl⟩ := hz
      have hg := gN_pos (a := (100 - lk) ^ k.toNat) (b := 100 ^ k.toNat) (by omega)
      refine ⟨fun c => ⟨d, _, by omega, c_divisor (by omega) (by omega), fun z m1 hz _ _ => ?_⟩, fun c => ⟨d, _, by omega, c_divisor (by omega) (by omega), fun z m1 hz _ _ => ?_⟩⟩
      · obtain ⟨rfl, rfl⟩ := hz
        rw [gN_comm, if_neg c]
        exact ⟨hg, rfl, rfl⟩
      · obtain ⟨rfl, rfl⟩ := hz
        rw [gN_comm, if_pos (Classical.not_not.mp c)]
        exact ⟨hg, rfl, rfl⟩
    · rw [if_neg hp]
      exact ⟨fun c => absurd rfl c, fun _ => ⟨by rw [if_neg (fun q => hp q.2)], rfl⟩⟩
  · rw [if_neg hk]
    exact ⟨fun _ => ⟨by rw [if_neg (fun q => hk q.1)], rfl⟩, fun c => absurd rfl c⟩
end Gcd
