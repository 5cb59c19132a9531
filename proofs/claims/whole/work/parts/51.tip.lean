section Con2
variable {l : Launch} {G : GT} {d : Nat} {m : MM} {a b : Nat} {n : Nat} {D : Int → Int} {W : Int → Int → Int} {br : Int → Int}
theorem mul_rng {x k M : Int} (hx : 0 ≤ x ∧ x ≤ 12) (hk : 0 ≤ k ∧ k ≤ M) : 0 ≤ x * k ∧ x * k ≤ 12 * M := by
  have h1 := Int.mul_nonneg hx.1 hk.1
  have h2 := Int.mul_le_mul_of_nonneg_right hx.2 hk.1
  omega
/-- what is said behind tip -/
def TipQ (n : Nat) (D : Int → Int) (W : Int → Int → Int) (br : Int → Int) (a : Nat) (p k : Int) (m m' : MM) : Prop :=
  Fr [a, a + 1, a + 2] m m' ∧ (∀ i, In n i → m' (a + 1) i = m (a + 1) i - (if i = p then br p * k else 0) + W p i * k) ∧ (∀ i, ¬ In n i → m' (a + 1) i = m (a + 1) i) ∧ (∀ i, m' (a + 2) i = m (a + 2) i + (if i = p then k else 0)) ∧ m' a 2 = m a 2 + k ∧ m' a 3 = m a 3 + D p * k
theorem c_tip (ha : isS a) (hb : isB b) (B : BW n D W br) (X : BX n D W br b m) {p k : Int} (hp : In n p) (hk : 0 ≤ k ∧ k ≤ 10000000) (hg : ∀ i, In n i → -1000000000 ≤ m (a + 1) i ∧ m (a + 1) i ≤ 1000000000) (ho : -1000000000 ≤ m (a + 2) p ∧ m (a + 2) p ≤ 1000000000) (ht : -1000000000 ≤ m a 2 ∧ m a 2 ≤ 1000000000) (hdr : -1000000000 ≤ m a 3 ∧ m a 3 ≤ 1000000000) :
    CV l G Y_Sand_tip (d + 1) [.inr (.inr a), .inr (.inr b), .inl p, .inl k] m (TipQ n D W br a p k m) := by
  have hn5 := B.1
  have hbr := B.br hp
  have hbk := mul_rng (x := br p) ⟨by omega, hbr.2⟩ hk
  have hDk := mul_rng (x := D p) ⟨(B.2.1 p hp).1, by have := (B.2.1 p hp).2; omega⟩ hk
  have hWk : ∀ i, In n i → 0 ≤ W p i * k ∧ W p i * k ≤ 12 * 10000000 := fun i hi => mul_rng ⟨(B.2.2.1 p i hp hi).1, by have := (B.2.2.1 p i hp hi).2.1; omega⟩ hk
  have hgp := hg p hp
  refine e_Sand_tip p k a b ha hb (fun _ _ _ => ⟨d, _, Nat.lt_succ_self d, c_has hb, fun z m1 hz _ _ => ?_⟩)
  obtain ⟨rfl, rfl⟩ := hz
  rw [if_pos (by rw [X.1]; exact hp)]
  refine ⟨fun _ => ?_, fun c => absurd (by decide) c⟩
  rw [X.2.2.1 p hp]
  refine ⟨by omega, by omega, by omega, by omega, by omega, ?_⟩
  rintro m2 rfl
  have loop : ∀ (j : Nat) (i : Int) (m1 : MM), i + j = n → 0 ≤ i → Fr [a + 1] m m1 → (∀ t, m1 (a + 1) t = m (a + 1) t - (if t = p then br p * k else 0) + (if 0 ≤ t ∧ t < i then W p t * k else 0)) →
      Wq l G false Y_Sand_tip (d + 1) (QV (TipQ n D W br a p k m)) 29 [(0, .inr (.inr a)), (1, .inr (.inr b)), (2, .inl p), (3, .inl k), (4, .inl i)] [] m1 := by
    intro j
    induction j with
    | zero =>
      intro i m1 hij h0 hf hr
      have X1 : BX n D W br b m1 := X.sand ha hb (hf.mono (by simp))
      have ea : m1 a = m a := hf a (by simp)
      have ea2 : m1 (a + 2) = m (a + 2) := hf (a + 2) (by simp)
      refine s_Sand_tip_29 p k i a b ha hb (fun _ _ _ _ => ⟨fun _ => ?_, fun c => absurd (show i ≥ m1 b 0 by rw [X1.1]; omega) c⟩)
      rw [X1.2.1 p hp, ea]
      refine ⟨by omega, by omega, by omega, ?_⟩
      rintro m2 rfl
      rw [up_ne (show a + 2 ≠ a by omega), ea2]
      refine ⟨by omega, by omega, by omega, ?_⟩
      rintro m3 rfl
      rw [up_ne (show a ≠ a + 2 by omega), up_off (show (2 : Int) ≠ 3 by decide), ea]
      refine ⟨by omega, ?_⟩
      rintro m4 rfl
      refine ⟨Fr_up (Fr_up (Fr_up (hf.mono (by simp)) (by simp)) (by simp)) (by simp), fun t ht => ?_, fun t ht => ?_, fun t => ?_, ?_, ?_⟩
      · rw [up_ne (by omega), up_ne (by omega), up_ne (by omega), hr t, if_pos (by omega : 0 ≤ t ∧ t < i)]
      · rw [up_ne (by omega), up_ne (by omega), up_ne (by omega), hr t, if_neg (show ¬ (t = p) from fun e => ht (by rw [e]; exact hp)), if_neg (by omega)]; omega
      · rw [up_ne (by omega), up_row, up_ne (by omega), ea2]
        split
        · rename_i e; rw [e]
        · omega
      · exact up_at
      · rw [up_off (by decide), up_ne (by omega), up_at]
    | succ j ih =>
      intro i m1 hij h0 hf hr
      have X1 : BX n D W br b m1 := X.sand ha hb (hf.mono (by simp))
      have hi : In n i := by omega
      have hw := hWk i hi
      have hgi := hg i hi
      refine s_Sand_tip_29 p k i a b ha hb (fun _ _ _ _ => ⟨fun c => absurd c (by rw [X1.1]; omega), fun _ => ?_⟩)
      rw [X1.2.2.2 p i hp hi]
      have hri := hr i
      rw [if_neg (show ¬ (0 ≤ i ∧ i < i) by omega)] at hri
      have hb2 : -1200000000 ≤ m1 (a + 1) i ∧ m1 (a + 1) i ≤ 1200000000 := by
        rw [hri]
        split <;> omega
      refine ⟨by omega, by omega, by omega, by omega, by omega, by omega, by omega, ?_⟩
      rintro m2 rfl
      refine ⟨by omega, ih (i + 1) _ (by omega) (by omega) (Fr_up hf (by simp)) (fun t => ?_)⟩
      rw [up_row]
      by_cases e : t = i
      · subst e
        rw [if_pos rfl, hri, if_pos (show 0 ≤ t ∧ t < t + 1 by omega)]
        omega
      · rw [if_neg e, hr t]
        by_cases e2 : 0 ≤ t ∧ t < i
        · rw [if_pos e2, if_pos (show 0 ≤ t ∧ t < i + 1 by omega)]
        · rw [if_neg e2, if_neg (show ¬ (0 ≤ t ∧ t < i + 1) by omega)]
  refine loop n 0 _ (by omega) (by omega) (Fr_up Fr.rf (by simp)) (fun t => ?_)
  rw [up_row, if_neg (show ¬ (0 ≤ t ∧ t < 0) by omega)]
  split
  · rename_i e; rw [e]; omega
  · omega
end Con2
