/-! the determinant of a table is above 0 -/
def nsm : Nat → (Nat → Int) → Int
  | 0, _ => 0
  | k + 1, f => nsm k f + f k
theorem nsm_congr : ∀ {k : Nat} {f g : Nat → Int}, (∀ j, j < k → f j = g j) → nsm k f = nsm k g
  | 0, _, _, _ => rfl
  | k + 1, f, g, h => by
    show nsm k f + f k = nsm k g + g k
    rw [nsm_congr (fun j hj => h j (by omega)), h k (by omega)]
theorem nsm_lin : ∀ {k : Nat} {f g h : Nat → Int} {x y : Int}, (∀ j, j < k → f j = x * g j + y * h j) → nsm k f = x * nsm k g + y * nsm k h
  | 0, _, _, _, x, y, _ => by show (0 : Int) = x * 0 + y * 0; omega
  | k + 1, f, g, h, x, y, e => by
    show nsm k f + f k = x * (nsm k g + g k) + y * (nsm k h + h k)
    rw [nsm_lin (fun j hj => e j (by omega)), e k (by omega), Int.mul_add, Int.mul_add]
    omega
theorem nsm_shift : ∀ (k : Nat) (f : Nat → Int), nsm (k + 1) f = f 0 + nsm k (fun j => f (j + 1))
  | 0, f => by show 0 + f 0 = f 0 + 0; omega
  | k + 1, f => by
    show nsm (k + 1) f + f (k + 1) = f 0 + (nsm k (fun j => f (j + 1)) + f (k + 1))
    rw [nsm_shift k f]
    omega
theorem nsm_npos : ∀ {k : Nat} {f : Nat → Int}, (∀ j, j < k → f j ≤ 0) → nsm k f ≤ 0
  | 0, _, _ => Int.le_refl 0
  | k + 1, f, h => by
    have h1 := nsm_npos (k := k) (fun j hj => h j (by omega))
    have h2 := h k (by omega)
    show nsm k f + f k ≤ 0
    omega
theorem nsm_term : ∀ {k : Nat} {f : Nat → Int}, (∀ j, j < k → f j ≤ 0) → ∀ t, t < k → nsm k f ≤ f t
  | 0, _, _, t, ht => absurd ht (by omega)
  | k + 1, f, h, t, ht => by
    have h1 := nsm_npos (k := k) (fun j hj => h j (by omega))
    have h2 := h k (by omega)
    show nsm k f + f k ≤ f t
    by_cases e : t = k
    · rw [e]; omega
    · have := nsm_term (k := k) (fun j hj => h j (by omega)) t (by omega)
      omega
/-- off the diagonal not above 0, rows that come to 0 or more, a way to one that comes to more -/
def LG (k : Nat) (a : Nat → Nat → Int) : Prop :=
  (∀ i j, i < k → j < k → i ≠ j → a i j ≤ 0) ∧ (∀ i, i < k → 0 ≤ nsm k (a i)) ∧ ∃ ds : Nat → Nat, ∀ i, i < k → 0 < nsm k (a i) ∨ ∃ j, j < k ∧ j ≠ i ∧ a i j < 0 ∧ ds j < ds i
theorem LG.first {k : Nat} {a : Nat → Nat → Int} (h : LG (k + 1) a) : 0 < a 0 0 := by
  obtain ⟨h1, h2, ds, h3⟩ := h
  have e := nsm_shift k (a 0)
  have hn : ∀ j, j < k → a 0 (j + 1) ≤ 0 := fun j hj => h1 0 (j + 1) (by omega) (by omega) (by omega)
  have h4 := nsm_npos hn
  have h5 := h2 0 (by omega)
  rcases h3 0 (by omega) with h6 | ⟨j, hj, hj0, h7, -⟩
  · omega
  · have h8 := nsm_term hn (j - 1) (by omega)
    have h9 : a 0 (j - 1 + 1) = a 0 j := by rw [show j - 1 + 1 = j by omega]
    omega
theorem LG.less {k : Nat} {a : Nat → Nat → Int} (h : LG (k + 1) a) : LG k (chi a) := by
  have hp := h.first
  obtain ⟨h1, h2, ds, h3⟩ := h
  have hneg : ∀ i, i < k → a (i + 1) 0 ≤ 0 := fun i hi => h1 (i + 1) 0 (by omega) (by omega) (by omega)
  have hneg0 : ∀ j, j < k → a 0 (j + 1) ≤ 0 := fun j hj => h1 0 (j + 1) (by omega) (by omega) (by omega)
  have hprod : ∀ i j, i < k → j < k → 0 ≤ a (i + 1) 0 * a 0 (j + 1) := fun i j hi hj => Int.mul_nonneg_of_nonpos_of_nonpos (hneg i hi) (hneg0 j hj)
  have hoff : ∀ i j, i < k → j < k → i ≠ j → a 0 0 * a (i + 1) (j + 1) ≤ 0 := fun i j hi hj hij => Int.mul_nonpos_of_nonneg_of_nonpos (Int.le_of_lt hp) (h1 (i + 1) (j + 1) (by omega) (by omega) (by omega))
  have hrow : ∀ i, i < k → nsm k (chi a i) = a 0 0 * nsm (k + 1) (a (i + 1)) - a (i + 1) 0 * nsm (k + 1) (a 0) := fun i hi => by
    have e := nsm_lin (k := k) (f := chi a i) (g := fun j => a (i + 1) (j + 1)) (h := fun j => a 0 (j + 1)) (x := a 0 0) (y := - a (i + 1) 0) (fun j hj => by
      show a 0 0 * a (i + 1) (j + 1) - a (i + 1) 0 * a 0 (j + 1) = _
      rw [Int.neg_mul]; omega)
    rw [e, nsm_shift k (a (i + 1)), nsm_shift k (a 0), Int.mul_add, Int.mul_add, Int.neg_mul, Int.mul_comm (a (i + 1) 0) (a 0 0)]
    omega
  have hrpos : ∀ i, i < k → 0 ≤ a 0 0 * nsm (k + 1) (a (i + 1)) ∧ a (i + 1) 0 * nsm (k + 1) (a 0) ≤ 0 := fun i hi =>
    ⟨Int.mul_nonneg (Int.le_of_lt hp) (h2 (i + 1) (by omega)), Int.mul_nonpos_of_nonpos_of_nonneg (hneg i hi) (h2 0 (by omega))⟩
  refine ⟨fun i j hi hj hij => ?_, fun i hi => ?_, fun i => ds (i + 1), fun i hi => ?_⟩
  · show a 0 0 * a (i + 1) (j + 1) - a (i + 1) 0 * a 0 (j + 1) ≤ 0
    have := hprod i j hi hj
    have := hoff i j hi hj hij
    omega
  · rw [hrow i hi]
    have := hrpos i hi
    omega
  · rw [hrow i hi]
    have hr := hrpos i hi
    rcases h3 (i + 1) (by omega) with h6 | ⟨j, hj, hji, h7, h8⟩
    · have := Int.mul_pos hp h6
      exact Or.inl (by omega)
    · by_cases e : j = 0
      · rw [e] at h7 h8
        rcases h3 0 (by omega) with h9 | ⟨t, ht, ht0, h10, h11⟩
        · have := Int.mul_neg_of_neg_of_pos h7 h9
          exact Or.inl (by omega)
        · refine Or.inr ⟨t - 1, by omega, ?_, ?_, ?_⟩
          · intro q
            rw [show i + 1 = t by omega] at h8
            omega
          · show a 0 0 * a (i + 1) (t - 1 + 1) - a (i + 1) 0 * a 0 (t - 1 + 1) < 0
            rw [show t - 1 + 1 = t by omega]
            have hne : i + 1 ≠ t := fun q => by rw [q] at h8; omega
            have q1 : a 0 0 * a (i + 1) t ≤ 0 := Int.mul_nonpos_of_nonneg_of_nonpos (Int.le_of_lt hp) (h1 (i + 1) t (by omega) ht hne)
            have q2 := Int.mul_pos_of_neg_of_neg h7 h10
            omega
          · show ds (t - 1 + 1) < ds (i + 1)
            rw [show t - 1 + 1 = t by omega]
            omega
      · refine Or.inr ⟨j - 1, by omega, by omega, ?_, ?_⟩
        · have q1 := hprod i (j - 1) hi (by omega)
          show a 0 0 * a (i + 1) (j - 1 + 1) - a (i + 1) 0 * a 0 (j - 1 + 1) < 0
          rw [show j - 1 + 1 = j by omega] at q1 ⊢
          have q2 := Int.mul_neg_of_pos_of_neg hp h7
          omega
        · show ds (j - 1 + 1) < ds (i + 1)
          rw [show j - 1 + 1 = j by omega]
          exact h8
theorem pow_pos' {p : Int} (hp : 0 < p) : ∀ k : Nat, 0 < p ^ k
  | 0 => by rw [Int.pow_zero]; decide
  | k + 1 => by rw [Int.pow_succ]; exact Int.mul_pos (pow_pos' hp k) hp
theorem LG.pos : ∀ {k : Nat} {a : Nat → Nat → Int}, k ≤ 5 → LG k a → 0 < dtm k a
  | 0, _, _, _ => by show (0 : Int) < 1; decide
  | 1, a, _, h => by
    have := h.first
    show 0 < 0 + a 0 0 * 1
    omega
  | k + 2, a, hk, h => by
    have hp := h.first
    have ih := LG.pos (k := k + 1) (by omega) h.less
    have e : a 0 0 ^ (k + 1) * dtm (k + 2) a = a 0 0 * dtm (k + 1) (chi a) := chio (k := k + 1) hk (by omega) a
    have h1 := Int.mul_pos hp ih
    have h2 := pow_pos' hp (k + 1)
    rcases Int.lt_or_le 0 (dtm (k + 2) a) with q | q
    · exact q
    · have := Int.mul_nonpos_of_nonneg_of_nonpos (Int.le_of_lt h2) q
      omega
/-- the square of brims and widths -/
def enN (W : Int → Int → Int) (br : Int → Int) : Nat → Nat → Int := fun i j => if i = j then br i else - W i j
theorem nsm_sm : ∀ (k : Nat) (f : Int → Int), nsm k (fun j => f j) = sm k f
  | 0, _ => rfl
  | k + 1, f => by
    show nsm k (fun j => f j) + f k = sm k f + f k
    rw [nsm_sm k f]
theorem BW.LG {n : Nat} {D : Int → Int} {W : Int → Int → Int} {br : Int → Int} (B : BW n D W br) : LG n (enN W br) := by
  obtain ⟨hn, hD, hW, hd0, hb, ds, hds⟩ := B
  have hrow : ∀ i : Nat, i < n → nsm n (enN W br i) = D i := fun i hi => by
    have hi2 : In n (i : Int) := ⟨by omega, by omega⟩
    have e1 : nsm n (enN W br i) = nsm n (fun j => (fun x : Int => (if x = (i : Int) then br i else 0) - W i x) j) := nsm_congr (fun j hj => by
      show (if i = j then br i else - W i j) = (if (j : Int) = (i : Int) then br i else 0) - W i j
      by_cases e : i = j
      · rw [if_pos e, if_pos (by omega), ← e, hd0 i hi2]; omega
      · rw [if_neg e, if_neg (by omega)]; omega)
    have e2 := nsm_sm n (fun x : Int => (if x = (i : Int) then br i else 0) - W i x)
    refine e1.trans (e2.trans ?_)
    rw [sm_sub, sm_one, if_pos hi2, hb i hi2]
    have : sm n (fun x => W i x) = sm n (W i) := rfl
    omega
  refine ⟨fun i j hi hj hij => ?_, fun i hi => ?_, fun i => ds i, fun i hi => ?_⟩
  · show (if i = j then br i else - W i j) ≤ 0
    rw [if_neg hij]
    have := (hW i j ⟨by omega, by omega⟩ ⟨by omega, by omega⟩).1
    omega
  · rw [hrow i hi]
    exact (hD i ⟨by omega, by omega⟩).1
  · rw [hrow i hi]
    rcases (hds i ⟨by omega, by omega⟩).2 with h | ⟨j, hj, h1, h2⟩
    · exact Or.inl h
    · obtain ⟨t, rfl⟩ : ∃ t : Nat, j = (t : Int) := ⟨j.toNat, by have := hj.1; omega⟩
      refine Or.inr ⟨t, by have := hj.2; omega, ?_, ?_, h2⟩
      · intro q
        rw [q] at h2
        omega
      · show (if i = t then br i else - W i t) < 0
        rw [if_neg (fun q => by rw [q] at h2; omega)]
        omega
theorem BW.det {n : Nat} {D : Int → Int} {W : Int → Int → Int} {br : Int → Int} (B : BW n D W br) : 0 < dtm n (enN W br) := B.LG.pos B.1
