/-! the class makes a board empty, and finishes it -/
section FinX
variable {l : Launch} {G : GT} {d : Nat} {m m' m1 : MM} {b n : Nat} {D : Int → Int} {W : Int → Int → Int}
theorem c_widthTo2 (B : BV n D W) (hb : isB b) (h0 : m b 0 = n) (hW : ∀ i j, In n i → In n j → m (b + 2) (i * 5 + j) = W i j) {i : Int} (hi : In n i) (p : Int → Bool) : CI l G Y_Board_widthTo (d + 1) [.inr (.inr b), .inl i, .inl (bs n p)] m (fun z m' => z = wT n W i p ∧ m = m') := by
  have hn5 := B.1
  have B1 := B.one
  refine e_Board_widthTo i (bs n p) b hb (fun _ _ _ => ?_)
  have loop : ∀ (j k : Nat), k + j = n → Wq l G false Y_Board_widthTo (d + 1) (QI fun z m' => z = wT n W i p ∧ m = m') 5 [(0, .inr (.inr b)), (1, .inl i), (2, .inl (bs n p)), (3, .inl (wT k W i p)), (4, .inl (k : Int))] [] m := by
    intro j
    induction j with
    | zero =>
      intro k hk
      have e : k = n := by omega
      rw [e]
      exact s_Board_widthTo_5 _ _ _ _ b hb (fun _ _ _ _ _ => ⟨fun _ => ⟨rfl, rfl⟩, fun c => absurd (show (n : Int) ≥ m b 0 by rw [h0]; exact Int.le_refl _) c⟩)
    | succ j ih =>
      intro k hk
      have hk2 : In n (k : Int) := by omega
      have hr := wT_rng B1 hi p k (by omega)
      have hw := B.2.2.1 i k hi hk2
      have hbit := bit_bs hn5 p hk2
      have nx : wT (k + 1) W i p = wT k W i p + (if p k = true then W i k else 0) := rfl
      have := ih (k + 1) (by omega)
      rw [nx] at this
      have hi5 := hi.2
      have hi0 := hi.1
      refine s_Board_widthTo_5 _ _ _ _ b hb (fun _ _ _ _ _ => ⟨fun c => absurd c (by rw [h0]; omega), fun _ => ⟨d, _, by omega, c_has hb, fun z m1 hz _ _ => ?_⟩⟩)
      obtain ⟨rfl, rfl⟩ := hz
      rw [h0, if_pos hi, hW i k hi hk2]
      refine ⟨fun c => absurd c (by decide), fun _ => ⟨fun c => ⟨by unfold inR; omega, ?_⟩, fun c => ⟨by unfold inR; omega, by unfold inR; omega, by omega, by unfold inR; omega, by unfold inR; omega, ?_⟩⟩⟩
      · rw [hbit.1.mp c, if_neg (by decide), Int.add_zero] at this
        exact this
      · cases hp : p k with
        | false => exact absurd (hbit.1.mpr hp) c
        | true =>
          rw [hp, if_pos rfl] at this
          exact this
  exact loop n 0 (by omega)
theorem c_burnt2 (B : BV n D W) (hb : isB b) (h0 : m b 0 = n) (hD : ∀ i, In n i → m (b + 3) i = D i) (hW : ∀ i j, In n i → In n j → m (b + 2) (i * 5 + j) = W i j) {i : Int} (hi : In n i) (p : Int → Bool) : CI l G Y_Board_widthToBurnt (d + 2) [.inr (.inr b), .inl i, .inl (bs n p)] m (fun z m' => z = D i + wT n W i p ∧ m = m') := by
  have hr := wT_rng B.one hi p n (Nat.le_refl n)
  have hd := B.2.1 i hi
  have hn5 := B.1
  have hi0 := hi.1
  have hi1 := hi.2
  refine e_Board_widthToBurnt i (bs n p) b hb (fun _ _ _ => ⟨d, _, by omega, c_has hb, fun z m1 hz _ _ => ?_⟩)
  obtain ⟨rfl, rfl⟩ := hz
  rw [h0, if_pos hi]
  refine ⟨fun c => absurd c (by decide), fun _ => ⟨by omega, d + 1, _, by omega, c_widthTo2 B hb h0 hW hi p, fun z m1 hz _ _ => ?_⟩⟩
  obtain ⟨rfl, rfl⟩ := hz
  rw [hD i hi]
  exact ⟨by unfold inR; omega, rfl, rfl⟩
theorem c_finishX (B : BV n D W) (hb : isB b) (h0 : m b 0 = n) (hD : ∀ i, In n i → m (b + 3) i = D i) (hW : ∀ i j, In n i → In n j → m (b + 2) (i * 5 + j) = W i j) : CI l G Y_Board_finish (d + 3) [.inr (.inr b)] m (fun z m' => Fr [b + 4, b + 5] m m' ∧ (z = 0 ↔ ¬ ∀ i, In n i → rcb n D W 5 i = true) ∧ (z = 0 ∨ z = 1) ∧ (∀ i, In n i → m' (b + 4) i = D i + sm n (W i)) ∧ ∀ i, In n i → rcb n D W 5 i = true → FaR n D W i (m' (b + 5) i)) := by
  have hn5 := B.1
  have nb := isB_ne hb
  have bf := bs_full hn5
  generalize hQ : (fun (z : Int) (m' : MM) => Fr [b + 4, b + 5] m m' ∧ (z = 0 ↔ ¬ ∀ i, In n i → rcb n D W 5 i = true) ∧ (z = 0 ∨ z = 1) ∧ (∀ i, In n i → m' (b + 4) i = D i + sm n (W i)) ∧ ∀ i, In n i → rcb n D W 5 i = true → FaR n D W i (m' (b + 5) i)) = Q
  have keep : ∀ m1, Fr [b + 4, b + 5] m m1 → m1 b 0 = n ∧ (∀ i, In n i → m1 (b + 3) i = D i) ∧ (∀ i j, In n i → In n j → m1 (b + 2) (i * 5 + j) = W i j) := fun m1 f => by
    have k : ∀ a, a ≠ b + 4 → a ≠ b + 5 → m1 a = m a := fun a a1 a2 => f a (by simp only [List.mem_cons, List.not_mem_nil, or_false]; omega)
    rw [k b (by omega) (by omega), k (b + 3) (by omega) (by omega), k (b + 2) (by omega) (by omega)]
    exact ⟨h0, hD, hW⟩
  -- the rounds
  have rounds : ∀ (s k : Nat) (m1 : MM), k + s = 5 → Fr [b + 4, b + 5] m m1 → (∀ i, In n i → m1 (b + 4) i = D i + sm n (W i)) → (∀ i, In n i → rcb n D W k i = true → FaR n D W i (m1 (b + 5) i)) → Wq l G false Y_Board_finish (d + 3) (QI Q) 41 [(0, .inr (.inr b)), (1, .inl (bs n (fun _ => true))), (2, .inl (bs n (rcb n D W k))), (3, .inl ((k : Int) + 1))] [] m1 := by
    intro s
    induction s with
    | zero =>
      intro k m1 hk f1 h4 h5
      have : k = 5 := by omega
      subst this
      refine s_Board_finish_41 _ _ _ b hb (fun _ _ _ _ => ⟨fun _ => ⟨fun c => ?_, fun c => ?_⟩, fun c => absurd (by decide) c⟩)
      · rw [← hQ]
        exact ⟨f1, ⟨fun _ g => c (bs_congr (fun i hi => by rw [g i hi])), fun _ => rfl⟩, Or.inl rfl, h4, h5⟩
      · rw [← hQ]
        exact ⟨f1, ⟨fun g => absurd g (by decide), fun g => absurd (fun i hi => bs_eq hn5 (Classical.not_not.mp c) i hi) g⟩, Or.inr rfl, h4, h5⟩
    | succ s ih =>
      intro k m1 hk f1 h4 h5
      refine s_Board_finish_41 _ _ _ b hb (fun _ _ _ _ => ⟨fun c => by omega, fun _ => ?_⟩)
      have inner : ∀ (t : Nat) (i : Int) (m2 : MM), i + t = n → 0 ≤ i → Fr [b + 4, b + 5] m m2 → (∀ i, In n i → m2 (b + 4) i = D i + sm n (W i)) → (∀ j, In n j → (if j < i then rcb n D W (k + 1) j else rcb n D W k j) = true → FaR n D W j (m2 (b + 5) j)) → Wq l G false Y_Board_finish (d + 3) (QI Q) 52 [(0, .inr (.inr b)), (1, .inl (bs n (fun _ => true))), (2, .inl (bs n (rcb n D W k))), (3, .inl ((k : Int) + 1)), (4, .inl (bs n (fun j => if j < i then rcb n D W (k + 1) j else rcb n D W k j))), (5, .inl i)] [] m2 := by
        intro t
        induction t with
        | zero =>
          intro i m2 hi i0 f2 g4 g5
          obtain ⟨q0, -, -⟩ := keep m2 f2
          have e : bs n (fun j => if j < i then rcb n D W (k + 1) j else rcb n D W k j) = bs n (rcb n D W (k + 1)) := bs_congr (fun j hj => by
            show (if j < i then rcb n D W (k + 1) j else rcb n D W k j) = _
            rw [if_pos (by have := hj.2; omega)])
          rw [e]
          have nx := ih (k + 1) m2 (by omega) f2 g4 (fun j hj hr => g5 j hj (by rw [if_pos (by have := hj.2; omega)]; exact hr))
          refine s_Board_finish_52 _ _ _ _ _ b hb (fun _ _ _ _ _ _ => ⟨fun _ => ⟨by unfold inR; omega, nx⟩, fun c => absurd (by rw [q0]; omega) c⟩)
        | succ t iht =>
          intro i m2 hi i0 f2 g4 g5
          obtain ⟨q0, q3, q2⟩ := keep m2 f2
          have hin : In n i := ⟨i0, by omega⟩
          have hbit := bit_bs hn5 (rcb n D W k) hin
          have rs : rcb n D W (k + 1) i = (rcb n D W k i || decide (0 < D i + wT n W i (rcb n D W k))) := rfl
          -- nothing new
          have same : rcb n D W (k + 1) i = rcb n D W k i → Wq l G false Y_Board_finish (d + 3) (QI Q) 52 [(0, .inr (.inr b)), (1, .inl (bs n (fun _ => true))), (2, .inl (bs n (rcb n D W k))), (3, .inl ((k : Int) + 1)), (4, .inl (bs n (fun j => if j < i then rcb n D W (k + 1) j else rcb n D W k j))), (5, .inl (i + 1))] [] m2 := fun he => by
            have e : bs n (fun j => if j < i then rcb n D W (k + 1) j else rcb n D W k j) = bs n (fun j => if j < i + 1 then rcb n D W (k + 1) j else rcb n D W k j) := bs_congr (fun j hj => by
              show (if j < i then rcb n D W (k + 1) j else rcb n D W k j) = if j < i + 1 then rcb n D W (k + 1) j else rcb n D W k j
              by_cases c : j = i
              · rw [c, if_neg (by omega), if_pos (by omega), he]
              · by_cases c2 : j < i
                · rw [if_pos c2, if_pos (by omega)]
                · rw [if_neg c2, if_neg (by omega)])
            rw [e]
            refine iht (i + 1) m2 (by omega) (by omega) f2 g4 (fun j hj hr => g5 j hj ?_)
            by_cases c : j = i
            · rw [c, if_neg (by omega), ← he]
              rw [c, if_pos (by omega)] at hr
              exact hr
            · by_cases c2 : j < i
              · rw [if_pos c2]; rw [if_pos (by omega)] at hr; exact hr
              · rw [if_neg c2]; rw [if_neg (by omega)] at hr; exact hr
          refine s_Board_finish_52 _ _ _ _ _ b hb (fun _ _ _ _ _ _ => ⟨fun c => absurd c (by rw [q0]; omega), fun _ => ⟨fun c => ⟨by unfold inR; omega, same ?_⟩, fun c => ⟨d + 2, _, by omega, c_burnt2 B hb q0 q3 q2 hin (rcb n D W k), fun z m3 hz _ _ => ?_⟩⟩⟩)
          · have hk1 : rcb n D W k i = true := by
              cases e : rcb n D W k i with
              | true => rfl
              | false => exact absurd (hbit.1.mpr e) c
            rw [rs, hk1]; rfl
          · obtain ⟨rfl, rfl⟩ := hz
            have hk0 : rcb n D W k i = false := hbit.1.mp (Classical.not_not.mp c)
            refine ⟨fun c2 => ⟨by unfold inR; omega, same ?_⟩, fun c2 => ⟨⟨i0, by omega⟩, fun m3 e3 => ⟨by unfold inR; omega, ?_⟩⟩⟩
            · rw [rs, hk0, decide_eq_false (by omega)]; rfl
            · have hk1 : rcb n D W (k + 1) i = true := by rw [rs, hk0, decide_eq_true (by omega)]; rfl
              have e : bOr (bs n (fun j => if j < i then rcb n D W (k + 1) j else rcb n D W k j)) (bShl 1 i) = bs n (fun j => if j < i + 1 then rcb n D W (k + 1) j else rcb n D W k j) := by
                rw [bs_or1 hn5 _ hin]
                refine bs_congr (fun j hj => ?_)
                show ((if j < i then rcb n D W (k + 1) j else rcb n D W k j) || decide (j = i)) = if j < i + 1 then rcb n D W (k + 1) j else rcb n D W k j
                by_cases c3 : j = i
                · rw [c3, if_neg (by omega), if_pos (by omega), hk1, decide_eq_true rfl, Bool.or_true]
                · rw [decide_eq_false c3, Bool.or_false]
                  by_cases c4 : j < i
                  · rw [if_pos c4, if_pos (by omega)]
                  · rw [if_neg c4, if_neg (by omega)]
              rw [e]
              refine iht (i + 1) m3 (by omega) (by omega) (fun a ha => by
                rw [e3, up_ne (fun q => ha (by rw [q]; simp))]; exact f2 a ha) (fun j hj => by rw [e3, up_ne (by omega)]; exact g4 j hj) (fun j hj hr => ?_)
              rw [e3]
              by_cases c3 : j = i
              · rw [c3, up_at]
                exact ⟨k + 1, by omega, by omega, by omega, hk1, hk0⟩
              · rw [up_off c3]
                refine g5 j hj ?_
                by_cases c4 : j < i
                · rw [if_pos c4]; rw [if_pos (by omega)] at hr; exact hr
                · rw [if_neg c4]; rw [if_neg (by omega)] at hr; exact hr
      have e0 : bs n (rcb n D W k) = bs n (fun j => if j < 0 then rcb n D W (k + 1) j else rcb n D W k j) := bs_congr (fun j hj => by
        show _ = if j < 0 then rcb n D W (k + 1) j else rcb n D W k j
        rw [if_neg (by have := hj.1; omega)])
      have st := inner n 0 m1 (by omega) (Int.le_refl 0) f1 h4 (fun j hj hr => h5 j hj (by rw [if_neg (by have := hj.1; omega)] at hr; exact hr))
      rw [← e0] at st
      exact st
  -- the brims
  have brims : ∀ (t : Nat) (i : Int) (m1 : MM), i + t = n → 0 ≤ i → Fr [b + 4, b + 5] m m1 → (∀ j, In n j → j < i → m1 (b + 4) j = D j + sm n (W j)) → Wq l G false Y_Board_finish (d + 3) (QI Q) 11 [(0, .inr (.inr b)), (1, .inl (bs n (fun _ => true))), (2, .inl i)] [] m1 := by
    intro t
    induction t with
    | zero =>
      intro i m1 hi i0 f1 h4
      obtain ⟨q0, -, -⟩ := keep m1 f1
      have st := rounds 5 0 m1 (by omega) f1 (fun j hj => h4 j hj (by have := hj.2; omega)) (fun j _ hr => by cases hr)
      have e0 : bs n (rcb n D W 0) = 0 := bs_none
      rw [e0] at st
      exact s_Board_finish_11 _ _ b hb (fun _ _ _ => ⟨fun _ => st, fun c => absurd (by rw [q0]; omega) c⟩)
    | succ t ih =>
      intro i m1 hi i0 f1 h4
      obtain ⟨q0, q3, q2⟩ := keep m1 f1
      have hin : In n i := ⟨i0, by omega⟩
      refine s_Board_finish_11 _ _ b hb (fun _ _ _ => ⟨fun c => absurd c (by rw [q0]; omega), fun _ => ⟨d + 2, _, by omega, c_burnt2 B hb q0 q3 q2 hin (fun _ => true), fun z m2 hz _ _ => ?_⟩⟩)
      obtain ⟨rfl, rfl⟩ := hz
      refine ⟨⟨i0, by omega⟩, fun m2 e2 => ⟨by unfold inR; omega, ih (i + 1) m2 (by omega) (by omega) (fun a ha => by
        rw [e2, up_ne (fun q => ha (by rw [q]; simp))]; exact f1 a ha) (fun j hj jl => ?_)⟩⟩
      by_cases c : j = i
      · rw [c, e2, up_at]
        have : wT n W i (fun _ => true) = sm n (W i) := sm_congr (fun t _ => if_pos rfl)
        rw [this]
      · rw [e2, up_off c]; exact h4 j hj (by omega)
  refine e_Board_finish b hb (fun _ => ?_)
  rw [h0, bf]
  have hin : inR (bs n (fun _ => true)) := by
    have h6 : n = 0 ∨ n = 1 ∨ n = 2 ∨ n = 3 ∨ n = 4 ∨ n = 5 := by omega
    have br := bs_range (fun _ => true)
    unfold inR
    rcases h6 with e | e | e | e | e | e <;> rw [e] <;> omega
  exact ⟨hin, brims n 0 m (by omega) (Int.le_refl 0) (fun _ _ => rfl) (fun j hj j0 => by have := hj.1; omega)⟩
end FinX
