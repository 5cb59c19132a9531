/-! widths to a set, like, far -/
def wT (n : Nat) (W : Int → Int → Int) (i : Int) (p : Int → Bool) : Int := sm n (fun j => if p j = true then W i j else 0)
def exk (W : Int → Int → Int) (p o : Int) : Nat → Bool
  | 0 => true
  | k + 1 => exk W p o k && (decide ((k : Int) = p) || decide ((k : Int) = o) || decide (W p k = W o k))
def exB (n : Nat) (D : Int → Int) (W : Int → Int → Int) (p o : Int) : Bool := decide (D p = D o) && exk W p o n
def liV (n : Nat) (D : Int → Int) (W : Int → Int → Int) (p : Int) : Int := if In n p then bs n (fun o => !decide (o = p) && exB n D W p o) else -1
theorem exk_no {W : Int → Int → Int} {p o : Int} {k : Nat} (h : exk W p o k = false) : ∀ t, exk W p o (k + t) = false
  | 0 => h
  | t + 1 => by
    show (exk W p o (k + t) && _) = false
    rw [exk_no h t]; rfl
section Like
variable {l : Launch} {G : GT} {d : Nat} {m : MM} {b : Nat} {n : Nat} {D : Int → Int} {W : Int → Int → Int} {br : Int → Int}
theorem wT_rng (B : BW n D W br) {i : Int} (hi : In n i) (p : Int → Bool) (k : Nat) (hk : k ≤ n) : 0 ≤ wT k W i p ∧ wT k W i p ≤ 2 * k := by
  have h1 : ∀ j, In k j → 0 ≤ (if p j = true then W i j else 0) ∧ (if p j = true then W i j else 0) ≤ 2 := fun j hj => by
    have := B.2.2.1 i j hi ⟨hj.1, by have := hj.2; omega⟩
    split <;> omega
  refine ⟨sm_nonneg (fun j hj => (h1 j hj).1), ?_⟩
  have h2 := sm_le (n := k) (f := fun j => if p j = true then W i j else 0) (g := fun _ => 2) (fun j hj => (h1 j hj).2)
  have h3 : ∀ t : Nat, sm t (fun _ => (2 : Int)) = 2 * t := by
    intro t
    induction t with
    | zero => rfl
    | succ t ih => show sm t _ + 2 = _; rw [ih]; omega
  rw [h3] at h2
  exact h2
theorem c_widthTo (B : BW n D W br) (hb : isB b) (X : BX n D W br b m) {i : Int} (hi : In n i) (p : Int → Bool) : CI l G Y_Board_widthTo (d + 1) [.inr (.inr b), .inl i, .inl (bs n p)] m (fun z m' => z = wT n W i p ∧ m = m') := by
  have hn5 := B.1
  refine e_Board_widthTo i (bs n p) b hb (fun _ _ _ => ?_)
  have loop : ∀ (j k : Nat), k + j = n → Wq l G false Y_Board_widthTo (d + 1) (QI fun z m' => z = wT n W i p ∧ m = m') 5 [(0, .inr (.inr b)), (1, .inl i), (2, .inl (bs n p)), (3, .inl (wT k W i p)), (4, .inl (k : Int))] [] m := by
    intro j
    induction j with
    | zero =>
      intro k hk
      have e : k = n := by omega
      rw [e]
      exact s_Board_widthTo_5 _ _ _ _ b hb (fun _ _ _ _ _ => ⟨fun _ => ⟨rfl, rfl⟩, fun c => absurd (show (n : Int) ≥ m b 0 by rw [X.1]; exact Int.le_refl _) c⟩)
    | succ j ih =>
      intro k hk
      have hk2 : In n (k : Int) := by omega
      have hr := wT_rng B hi p k (by omega)
      have hw := B.2.2.1 i k hi hk2
      have hbit := bit_bs hn5 p hk2
      have nx : wT (k + 1) W i p = wT k W i p + (if p k = true then W i k else 0) := rfl
      have := ih (k + 1) (by omega)
      rw [nx] at this
      refine s_Board_widthTo_5 _ _ _ _ b hb (fun _ _ _ _ _ => ⟨fun c => absurd c (by rw [X.1]; omega), fun _ => ⟨d, _, by omega, c_has hb, fun z m1 hz _ _ => ?_⟩⟩)
      obtain ⟨rfl, rfl⟩ := hz
      rw [has_if X, if_pos hi, X.2.2.2 i k hi hk2]
      refine ⟨fun c => absurd c (by decide), fun _ => ⟨fun c => ⟨by omega, ?_⟩, fun c => ⟨by omega, by omega, by omega, by omega, by omega, ?_⟩⟩⟩
      · rw [hbit.1.mp c, if_neg (by decide), Int.add_zero] at this
        exact this
      · cases hp : p k with
        | false => exact absurd (hbit.1.mpr hp) c
        | true =>
          rw [hp, if_pos rfl] at this
          exact this
  exact loop n 0 (by omega)
theorem c_widthToBurnt (B : BW n D W br) (hb : isB b) (X : BX n D W br b m) {i : Int} (hi : In n i) (p : Int → Bool) : CI l G Y_Board_widthToBurnt (d + 2) [.inr (.inr b), .inl i, .inl (bs n p)] m (fun z m' => z = D i + wT n W i p ∧ m = m') := by
  have hn5 := B.1
  have hr := wT_rng B hi p n (Nat.le_refl _)
  have hD := B.2.1 i hi
  refine e_Board_widthToBurnt i (bs n p) b hb (fun _ _ _ => ⟨d, _, by omega, c_has hb, fun z m1 hz _ _ => ?_⟩)
  obtain ⟨rfl, rfl⟩ := hz
  rw [has_if X, if_pos hi, X.2.1 i hi]
  refine ⟨fun c => absurd c (by decide), fun _ => ⟨by omega, d + 1, _, by omega, c_widthTo B hb X hi p, fun z m1 hz _ _ => ?_⟩⟩
  obtain ⟨rfl, rfl⟩ := hz
  exact ⟨by omega, rfl, rfl⟩
theorem c_exchangeable (B : BW n D W br) (hb : isB b) (X : BX n D W br b m) {p o : Int} (hp : In n p) (ho : In n o) : CI l G Y_Board_exchangeable (d + 2) [.inr (.inr b), .inl p, .inl o] m (fun z m' => z = (if exB n D W p o = true then 1 else 0) ∧ m = m') := by
  have hn5 := B.1
  unfold exB
  refine e_Board_exchangeable p o b hb (fun _ _ _ => ⟨d, _, by omega, c_has hb, fun z m1 hz _ _ => ?_⟩)
  obtain ⟨rfl, rfl⟩ := hz
  rw [has_if X, if_pos hp]
  refine ⟨fun c => absurd c (by decide), fun _ => ⟨d, _, by omega, c_has hb, fun z m1 hz _ _ => ?_⟩⟩
  obtain ⟨rfl, rfl⟩ := hz
  rw [has_if X, if_pos ho, X.2.1 p hp, X.2.1 o ho]
  refine ⟨fun c => absurd c (by decide), fun _ => ⟨by omega, by omega, fun c => ?_, fun c => ⟨by rw [decide_eq_false c]; rfl, rfl⟩⟩⟩
  rw [decide_eq_true c]
  have loop : ∀ (j k : Nat), k + j = n → exk W p o k = true → Wq l G false Y_Board_exchangeable (d + 2) (QI fun z m' => z = (if (true && exk W p o n) = true then 1 else 0) ∧ m = m') 35 [(0, .inr (.inr b)), (1, .inl p), (2, .inl o), (3, .inl (k : Int))] [] m := by
    intro j
    induction j with
    | zero =>
      intro k hk he
      have e : k = n := by omega
      rw [e] at he
      exact s_Board_exchangeable_35 _ _ _ b hb (fun _ _ _ _ => ⟨fun _ => ⟨by rw [he]; rfl, rfl⟩, fun c => absurd (show (k : Int) ≥ m b 0 by rw [X.1]; omega) c⟩)
    | succ j ih =>
      intro k hk he
      have hk2 : In n (k : Int) := by omega
      have nx : exk W p o (k + 1) = (decide ((k : Int) = p) || decide ((k : Int) = o) || decide (W p k = W o k)) := by
        show (exk W p o k && _) = _
        rw [he, Bool.true_and]
      refine s_Board_exchangeable_35 _ _ _ b hb (fun _ _ _ _ => ⟨fun c => absurd c (by rw [X.1]; omega), fun _ => ⟨fun c => ⟨by omega, ih (k + 1) (by omega) ?_⟩, fun c => ⟨fun c2 => ⟨by omega, ih (k + 1) (by omega) ?_⟩, fun c2 => ⟨d + 1, _, by omega, c_width hb hn5 X, fun z m1 hz _ _ => ?_⟩⟩⟩⟩)
      · rw [nx, decide_eq_true c]; rfl
      · rw [nx, decide_eq_true c2, Bool.or_true]; rfl
      · obtain ⟨rfl, rfl⟩ := hz
        rw [if_pos ⟨hp, hk2⟩]
        refine ⟨d + 1, _, by omega, c_width hb hn5 X, fun z m1 hz _ _ => ?_⟩
        obtain ⟨rfl, rfl⟩ := hz
        rw [if_pos ⟨ho, hk2⟩]
        refine ⟨fun c3 => ⟨by omega, ih (k + 1) (by omega) ?_⟩, fun c3 => ⟨?_, rfl⟩⟩
        · rw [nx, decide_eq_true c3, Bool.or_true]
        · have h1 : exk W p o (k + 1) = false := by rw [nx, decide_eq_false c, decide_eq_false c2, decide_eq_false c3]; rfl
          have h2 := exk_no h1 (n - (k + 1))
          rw [show k + 1 + (n - (k + 1)) = n by omega] at h2
          rw [h2]; rfl
  exact loop n 0 (by omega) rfl
theorem c_likeX (B : BW n D W br) (X : CX n D W br b m) {p : Int} : CI l G Y_S_like (d + 3) [.inr (.inr 0), .inl p] m (fun z m' => z = liV n D W p ∧ m = m') := by
  have hn5 := B.1
  unfold liV
  refine e_S_like p (fun _ _ => ⟨b, X.2.1, X.1, d, _, by omega, c_has X.1, fun z m1 hz _ _ => ?_⟩)
  obtain ⟨rfl, rfl⟩ := hz
  rw [has_if X.2.2]
  by_cases hp : In n p
  · rw [if_pos hp, if_pos hp]
    refine ⟨fun _ => ?_, fun c => absurd (by decide) c⟩
    have loop : ∀ (j k : Nat), k + j = n → Wq l G false Y_S_like (d + 3) (QI fun z m' => z = bs n (fun o => !decide (o = p) && exB n D W p o) ∧ m = m') 17 [(0, .inr (.inr 0)), (1, .inl p), (2, .inl (bs k (fun o => !decide (o = p) && exB n D W p o))), (3, .inl (k : Int))] [] m := by
      intro j
      induction j with
      | zero =>
        intro k hk
        have e : k = n := by omega
        rw [e]
        exact s_S_like_17 _ _ _ (fun _ _ _ _ => ⟨b, X.2.1, X.1, fun _ => ⟨rfl, rfl⟩, fun c => absurd (show (n : Int) ≥ m b 0 by rw [X.2.2.1]; exact Int.le_refl _) c⟩)
      | succ j ih =>
        intro k hk
        have hk2 : In n (k : Int) := by omega
        have go0 : (!decide ((k : Int) = p) && exB n D W p k) = false → (inR ((k : Int) + 1)) ∧ (Wq l G false Y_S_like (d + 3) (QI fun z m' => z = bs n (fun o => !decide (o = p) && exB n D W p o) ∧ m = m') 17 [(0, .inr (.inr 0)), (1, .inl p), (2, .inl (bs k (fun o => !decide (o = p) && exB n D W p o))), (3, .inl ((k : Int) + 1))] [] m) := fun q => by
          have := ih (k + 1) (by omega)
          rw [← bs_no (k := k) (by rw [q]; decide)] at this
          exact ⟨by omega, this⟩
        refine s_S_like_17 _ _ _ (fun _ _ _ _ => ⟨b, X.2.1, X.1, fun c => absurd c (by rw [X.2.2.1]; omega), fun _ => ⟨fun c => go0 (by rw [decide_eq_true c]; rfl), fun c => ⟨b, X.2.1, X.1, d + 2, _, by omega, c_exchangeable B X.1 X.2.2 hp hk2, fun z m1 hz _ _ => ?_⟩⟩⟩)
        obtain ⟨rfl, rfl⟩ := hz
        cases he : exB n D W p k with
        | false => exact ⟨fun _ => go0 (by rw [he, Bool.and_false]), fun q => absurd rfl q⟩
        | true =>
          refine ⟨fun q => absurd q (by decide), fun _ => ⟨by omega, ?_⟩⟩
          rw [bs_yes (k := k) (by omega) (by rw [he, decide_eq_false c]; rfl)]
          exact ih (k + 1) (by omega)
    exact loop n 0 (by omega)
  · rw [if_neg hp, if_neg hp]
    exact ⟨fun c => absurd rfl c, fun _ => ⟨rfl, rfl⟩⟩
theorem c_likeM (B : BW n D W br) (X : BM n D W br m) {p : Int} : CI l G Y_M_like (d + 2) [.inr (.inr 70), .inl p] m (fun z m' => z = liV n D W p ∧ m = m') := by
  have hn5 := B.1
  unfold liV
  refine e_M_like p (fun _ _ => ⟨d + 1, _, by omega, c_isPlate hn5 X, fun z m1 hz _ _ => ?_⟩)
  obtain ⟨rfl, rfl⟩ := hz
  by_cases hp : In n p
  · rw [if_pos hp, if_pos hp]
    refine ⟨fun _ => ?_, fun c => absurd (by decide) c⟩
    generalize hQ : (QI fun z m' => z = bs n (fun o => !decide (o = p) && exB n D W p o) ∧ m = m') = Q
    have loop : ∀ (j k : Nat), k + j = n → Wq l G false Y_M_like (d + 2) Q 14 [(0, .inr (.inr 70)), (1, .inl p), (2, .inl (bs k (fun o => !decide (o = p) && exB n D W p o))), (3, .inl (k : Int))] [] m := by
      intro j
      induction j with
      | zero =>
        intro k hk
        have e : k = n := by omega
        rw [e]
        subst hQ
        refine s_M_like_14 _ _ _ (fun _ _ _ _ => ⟨d, _, by omega, c_lots X, fun z m1 hz _ _ => ?_⟩)
        obtain ⟨rfl, rfl⟩ := hz
        exact ⟨fun _ => ⟨rfl, rfl⟩, fun c => absurd (Int.le_refl _) c⟩
      | succ j ih =>
        intro k hk
        have hk2 : In n (k : Int) := by omega
        have go0 : (!decide ((k : Int) = p) && exB n D W p k) = false → (inR ((k : Int) + 1)) ∧ (Wq l G false Y_M_like (d + 2) Q 14 [(0, .inr (.inr 70)), (1, .inl p), (2, .inl (bs k (fun o => !decide (o = p) && exB n D W p o))), (3, .inl ((k : Int) + 1))] [] m) := fun q => by
          have := ih (k + 1) (by omega)
          rw [← bs_no (k := k) (by rw [q]; decide)] at this
          exact ⟨by omega, this⟩
        have go1 : (!decide ((k : Int) = p) && exB n D W p k) = true → (inR ((k : Int) + 1)) ∧ (Wq l G false Y_M_like (d + 2) Q 14 [(0, .inr (.inr 70)), (1, .inl p), (2, .inl (bOr (bs k (fun o => !decide (o = p) && exB n D W p o)) (bShl 1 (k : Int)))), (3, .inl ((k : Int) + 1))] [] m) := fun q => by
          rw [bs_yes (k := k) (by omega) q]
          exact ⟨by omega, ih (k + 1) (by omega)⟩
        have dead : (!decide ((k : Int) = p) && exB n D W p k) = false → ∀ t : Int, 0 ≤ t → Wq l G false Y_M_like (d + 2) Q 50 [(0, .inr (.inr 70)), (1, .inl p), (2, .inl (bs k (fun o => !decide (o = p) && exB n D W p o))), (3, .inl (k : Int)), (4, .inl 0), (5, .inl t)] [] m := fun q t t0 => by
          subst hQ
          refine s_M_like_50 _ _ _ _ _ (fun _ _ _ _ _ _ => ⟨d, _, by omega, c_lots X, fun z m1 hz _ _ => ?_⟩)
          obtain ⟨rfl, rfl⟩ := hz
          exact ⟨fun _ => ⟨fun _ => go0 q, fun c => absurd rfl c⟩, fun _ => ⟨fun _ => ⟨fun _ => go0 q, fun c => absurd rfl c⟩, fun c => absurd rfl c⟩⟩
        have inner : D p = D k → ¬ ((k : Int) = p) → ∀ (s t : Nat), t + s = n → exk W p k t = true → Wq l G false Y_M_like (d + 2) Q 50 [(0, .inr (.inr 70)), (1, .inl p), (2, .inl (bs k (fun o => !decide (o = p) && exB n D W p o))), (3, .inl (k : Int)), (4, .inl 1), (5, .inl (t : Int))] [] m := by
          intro hD hkp s
          induction s with
          | zero =>
            intro t ht he
            have e : t = n := by omega
            rw [e] at he
            have hg := go1 (by unfold exB; rw [decide_eq_false hkp, decide_eq_true hD, he]; rfl)
            subst hQ
            refine s_M_like_50 _ _ _ _ _ (fun _ _ _ _ _ _ => ⟨d, _, by omega, c_lots X, fun z m1 hz _ _ => ?_⟩)
            obtain ⟨rfl, rfl⟩ := hz
            exact ⟨fun _ => ⟨fun c => absurd c (by decide), fun _ => hg⟩, fun c => absurd (show (t : Int) ≥ n by omega) c⟩
          | succ s ihs =>
            intro t ht he
            have ht2 : In n (t : Int) := by omega
            have nx : exk W p k (t + 1) = (decide ((t : Int) = p) || decide ((t : Int) = k) || decide (W p t = W k t)) := by
              show (exk W p k t && _) = _
              rw [he, Bool.true_and]
            subst hQ
            refine s_M_like_50 _ _ _ _ _ (fun _ _ _ _ _ _ => ⟨d, _, by omega, c_lots X, fun z m1 hz _ _ => ?_⟩)
            obtain ⟨rfl, rfl⟩ := hz
            refine ⟨fun c => absurd c (by omega), fun _ => ⟨fun c => absurd c (by decide), fun _ => ⟨fun c => ⟨by omega, ihs (t + 1) (by omega) ?_⟩, fun c => ⟨fun c2 => ⟨by omega, ihs (t + 1) (by omega) ?_⟩, fun c2 => ⟨d, _, by omega, c_wideOf hn5 X hp ht2, fun z m1 hz _ _ => ?_⟩⟩⟩⟩⟩
            · rw [nx, decide_eq_true c]; rfl
            · rw [nx, decide_eq_true c2, Bool.or_true]; rfl
            · obtain ⟨rfl, rfl⟩ := hz
              refine ⟨d, _, by omega, c_wideOf hn5 X hk2 ht2, fun z m1 hz _ _ => ?_⟩
              obtain ⟨rfl, rfl⟩ := hz
              refine ⟨fun c3 => ⟨by omega, dead ?_ _ (by omega)⟩, fun c3 => ⟨by omega, ihs (t + 1) (by omega) ?_⟩⟩
              · have h1 : exk W p k (t + 1) = false := by rw [nx, decide_eq_false c, decide_eq_false c2, decide_eq_false c3]; rfl
                have h2 := exk_no h1 (n - (t + 1))
                rw [show t + 1 + (n - (t + 1)) = n by omega] at h2
                unfold exB
                rw [h2, Bool.and_false, Bool.and_false]
              · rw [nx, decide_eq_true (Classical.not_not.mp c3), Bool.or_true]
        subst hQ
        refine s_M_like_14 _ _ _ (fun _ _ _ _ => ⟨d, _, by omega, c_lots X, fun z m1 hz _ _ => ?_⟩)
        obtain ⟨rfl, rfl⟩ := hz
        refine ⟨fun c => absurd c (by omega), fun _ => ⟨fun c => dead (by rw [decide_eq_true c]; rfl) 0 (by omega), fun c => ⟨d, _, by omega, c_drainOf hn5 X hp, fun z m1 hz _ _ => ?_⟩⟩⟩
        obtain ⟨rfl, rfl⟩ := hz
        refine ⟨d, _, by omega, c_drainOf hn5 X hk2, fun z m1 hz _ _ => ?_⟩
        obtain ⟨rfl, rfl⟩ := hz
        exact ⟨fun c2 => dead (by unfold exB; rw [decide_eq_false c2, Bool.false_and, Bool.and_false]) 0 (by omega), fun c2 => inner (Classical.not_not.mp c2) c n 0 (by omega) rfl⟩
    exact loop n 0 (by omega)
  · rw [if_neg hp, if_neg hp]
    exact ⟨fun c => absurd rfl c, fun _ => ⟨rfl, rfl⟩⟩
end Like
