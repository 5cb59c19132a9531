/-! cycle, wheel, one of the class -/
section TurnX
variable {l : Launch} {G : GT} {d : Nat} {m : MM} {b : Nat} {n : Nat} {D : Int → Int} {W : Int → Int → Int} {br : Int → Int}
/-- what the class knows of the group -/
def GL (n : Nat) (W : Int → Int → Int) (br : Int → Int) (m : MM) : Prop := MnQ n W br (m 38 1) (m 39) ∧ m 38 6 = dtm n (enN W br)
theorem sm_bound {k : Nat} {f : Int → Int} {M : Int} (h : ∀ i, In k i → -M ≤ f i ∧ f i ≤ M) : -((k : Int) * M) ≤ sm k f ∧ sm k f ≤ (k : Int) * M := by
  have h3 : ∀ (t : Nat) (c : Int), sm t (fun _ => c) = (t : Int) * c := by
    intro t c
    induction t with
    | zero => show (0 : Int) = ((0 : Nat) : Int) * c; rw [show ((0 : Nat) : Int) = 0 from rfl, Int.zero_mul]
    | succ t ih => show sm t _ + c = ((t + 1 : Nat) : Int) * c; rw [ih, Int.natCast_add, Int.add_mul]; omega
  have h1 := sm_le (n := k) (f := f) (g := fun _ => M) (fun i hi => (h i hi).2)
  have h2 := sm_le (n := k) (f := fun _ => -M) (g := f) (fun i hi => (h i hi).1)
  rw [h3] at h1 h2
  rw [Int.mul_neg] at h2
  exact ⟨h2, h1⟩
theorem c_turns (B : BW n D W br) (hb : isB b) (X : BX n D W br b m) (K : GL n W br m) {h : Nat} (hl : q_lay h = .inr (0, 8)) (hg : ∀ i, In n i → -1000000 ≤ m h i ∧ m h i ≤ 1000000) : CJ l G Y_Group_turns (d + 2) [.inr (.inr 38), .inr (.inr b), .inr (.inr h)] m (fun z m' => OrR n W br (m h) z ∧ z ≤ 100000 ∧ m = m') := by
  have hn5 := B.1
  have hd := B.det
  have hdl := B.det_le
  obtain ⟨q, hq, hO⟩ := ord_of B (m h)
  have hpos : ∀ k, 0 < gdF (dtm n (enN W br)) (enX n W br (m h)) k := fun k => gdF_pos hd k
  have hle : ∀ k, gdF (dtm n (enN W br)) (enX n W br (m h)) k ≤ 100000 := fun k => Int.le_trans (Int.le_of_dvd hd (gdF_dvd k).1) hdl
  have hqle : q ≤ 100000 := by
    have h1 := hpos n
    have h2 := Int.mul_le_mul_of_nonneg_right (show 1 ≤ gdF (dtm n (enN W br)) (enX n W br (m h)) n by omega) (show 0 ≤ q by have := hO.1; omega)
    omega
  have hterm : ∀ i j, In n i → In n j → -240000000000 ≤ cof n W br i j * m h j ∧ cof n W br i j * m h j ≤ 240000000000 := fun i j hi hj => by
    have := prod_bound (cof_rng B hi hj) (hg j hj) (by decide) (by decide)
    omega
  have hpart : ∀ (i : Int) (t : Nat), In n i → t ≤ n → -1200000000000 ≤ sm t (fun j => cof n W br i j * m h j) ∧ sm t (fun j => cof n W br i j * m h j) ≤ 1200000000000 := fun i t hi ht => by
    have h1 := sm_bound (k := t) (f := fun j => cof n W br i j * m h j) (M := 240000000000) (fun j hj => hterm i j hi ⟨hj.1, by have := hj.2; omega⟩)
    have h2 : (t : Int) * 240000000000 ≤ 1200000000000 := by omega
    omega
  refine e_Group_turns b h 8 hb hl (by decide) (fun _ => ?_)
  rw [K.2]
  have outer : ∀ (s k : Nat), k + s = n → Wq l G false Y_Group_turns (d + 2) (QJ fun z m' => OrR n W br (m h) z ∧ z ≤ 100000 ∧ m = m') 8 [(0, .inr (.inr 38)), (1, .inr (.inr b)), (2, .inr (.inr h)), (3, .inr (.inl (gdF (dtm n (enN W br)) (enX n W br (m h)) k))), (5, .inl (k : Int))] [] m := by
    intro s
    induction s with
    | zero =>
      intro k hk
      have e : k = n := by omega
      rw [e]
      have h1 := hpos n
      refine s_Group_turns_8 _ _ b h 8 hb hl (by decide) (fun _ _ _ => ⟨fun _ => ⟨fun c => absurd c (by omega), fun _ => ?_⟩, fun c => absurd (show (n : Int) ≥ m b 0 by rw [X.1]; exact Int.le_refl _) c⟩)
      have e2 : Int.tdiv (dtm n (enN W br)) (gdF (dtm n (enN W br)) (enX n W br (m h)) n) = q := by
        have e3 : Int.tdiv (gdF (dtm n (enN W br)) (enX n W br (m h)) n * q) (gdF (dtm n (enN W br)) (enX n W br (m h)) n) = q := Int.mul_tdiv_cancel_left q (by omega)
        rw [← hq] at e3
        exact e3
      rw [K.2, e2]
      have := hO.1
      exact ⟨⟨by omega, by constructor <;> omega⟩, hO, hqle, rfl⟩
    | succ s ih =>
      intro k hk
      have hk2 : In n (k : Int) := ⟨by omega, by omega⟩
      refine s_Group_turns_8 _ _ b h 8 hb hl (by decide) (fun _ _ _ => ⟨fun c => absurd c (by rw [X.1]; omega), fun _ => ?_⟩)
      have inner : ∀ (r t : Nat), t + r = n → Wq l G false Y_Group_turns (d + 2) (QJ fun z m' => OrR n W br (m h) z ∧ z ≤ 100000 ∧ m = m') 23 [(0, .inr (.inr 38)), (1, .inr (.inr b)), (2, .inr (.inr h)), (3, .inr (.inl (gdF (dtm n (enN W br)) (enX n W br (m h)) k))), (5, .inl (k : Int)), (6, .inr (.inl (sm t (fun j => cof n W br k j * m h j)))), (8, .inl (t : Int))] [] m := by
        intro r
        induction r with
        | zero =>
          intro t ht
          have e : t = n := by omega
          have h1 := hpos k
          have h2 := hle k
          have h3 := hpart k t hk2 (by omega)
          refine s_Group_turns_23 _ _ _ _ b h 8 hb hl (by decide) (fun _ _ _ _ _ => ⟨fun _ => ⟨d + 1, _, by omega, c_commonDivisor (by omega) (by omega), fun z m1 hz _ _ => ⟨by omega, ?_⟩⟩, fun c => absurd (show (t : Int) ≥ m b 0 by rw [X.1]; omega) c⟩)
          obtain ⟨rfl, rfl⟩ := hz
          have := ih (k + 1) (by omega)
          rw [e]
          exact this
        | succ r ihr =>
          intro t ht
          have ht2 : In n (t : Int) := ⟨by omega, by omega⟩
          have h3 := hpart k t hk2 (by omega)
          have h4 := hterm k t hk2 ht2
          refine s_Group_turns_23 _ _ _ _ b h 8 hb hl (by decide) (fun _ _ _ _ _ => ⟨fun c => absurd c (by rw [X.1]; omega), fun _ => ⟨d + 1, _, by omega, c_cofactor B K.1 hk2 ht2, fun z m1 hz _ _ => ?_⟩⟩)
          obtain ⟨rfl, rfl⟩ := hz
          exact ⟨by omega, by constructor <;> omega, by constructor <;> omega, by omega, ihr (t + 1) (by omega)⟩
      exact inner n 0 (by omega)
  exact outer n 0 (by omega)
/-- what cycle and wheel answer -/
def tuR (n : Nat) (W : Int → Int → Int) (br X : Int → Int) (z : Int) : Prop := ∃ o, OrR n W br X o ∧ z = if o ≤ 2000 then o else -1
theorem tuR.uniq {X Y : Int → Int} {z z' : Int} (e : ∀ i, In n i → X i = Y i) (h : tuR n W br X z) (h' : tuR n W br Y z') : z = z' := by
  obtain ⟨o, h1, h2⟩ := h
  obtain ⟨o', h1', h2'⟩ := h'
  rw [h2, h2', h1.uniq e h1']
theorem c_turnsOrNone (B : BW n D W br) (X : CX n D W br b m) (K : GL n W br m) {h : Nat} (hl : q_lay h = .inr (0, 8)) (hg : ∀ i, In n i → -1000000 ≤ m h i ∧ m h i ≤ 1000000) : CI l G Y_S_turnsOrNone (d + 3) [.inr (.inr 0), .inr (.inr h)] m (fun z m' => tuR n W br (m h) z ∧ m = m') := by
  refine e_S_turnsOrNone h 8 hl (by decide) (fun _ => ⟨b, X.2.1, X.1, d + 2, _, by omega, c_turns B X.1 X.2.2 K hl hg, fun z m1 hz _ _ => ?_⟩)
  obtain ⟨hO, hz, rfl⟩ := hz
  have := hO.1
  exact ⟨fun c => ⟨by omega, ⟨z, hO, by rw [if_pos c]⟩, rfl⟩, fun c => ⟨⟨z, hO, by rw [if_neg c]⟩, rfl⟩⟩
theorem c_cycleX (B : BW n D W br) (X : CX n D W br b m) (K : GL n W br m) (hg : ∀ i, In n i → -1000000 ≤ m 25 i ∧ m 25 i ≤ 1000000) : CI l G Y_S_cycle (d + 4) [.inr (.inr 0)] m (fun z m' => tuR n W br (m 25) z ∧ m = m') :=
  e_S_cycle (fun _ => ⟨d + 3, _, by omega, c_turnsOrNone B X K rfl hg, fun z m1 hz _ _ => hz⟩)
theorem c_wheelX (B : BW n D W br) (X : CX n D W br b m) (K : GL n W br m) {x : Int} : CI l G Y_S_wheel (d + 4) [.inr (.inr 0), .inl x] m (fun z m' => Fr [27] m m' ∧ (In n x → tuR n W br (fun i => if i = x then 1 else 0) z) ∧ (¬ In n x → z = -1)) := by
  have hn5 := B.1
  refine e_S_wheel x (fun _ _ => ⟨b, X.2.1, X.1, d, _, by omega, c_has X.1, fun z m1 hz _ _ => ?_⟩)
  obtain ⟨rfl, rfl⟩ := hz
  rw [has_if X.2.2]
  by_cases hx : In n x
  · rw [if_pos hx]
    refine ⟨fun _ => ⟨d, _, by omega, c_fill (h := 27) (len := 8) rfl (by decide) (by decide), fun m1 h1 _ => ⟨by omega, ?_⟩⟩, fun c => absurd (by decide) c⟩
    obtain ⟨f1, z1⟩ := h1
    rintro m2 rfl
    have f2 : Fr [27] m (up m1 27 x 1) := Fr_up f1 (by simp)
    have v2 : ∀ i, In n i → up m1 27 x 1 27 i = if i = x then 1 else 0 := fun i hi => by rw [up_row, z1 i hi.1 (by have := hi.2; omega)]
    generalize up m1 27 x 1 = m2 at f2 v2
    have X2 := X.fr f2 (by decide) (by decide)
    have K2 : GL n W br m2 := by unfold GL at K ⊢; rw [f2 38 (by decide), f2 39 (by decide)]; exact K
    refine ⟨d + 3, _, by omega, c_turnsOrNone B X2 K2 rfl (fun i hi => by rw [v2 i hi]; split <;> omega), fun z m3 hz _ _ => ?_⟩
    obtain ⟨⟨o, ho, hz⟩, rfl⟩ := hz
    refine ⟨f2, fun _ => ⟨o, ⟨ho.1, ho.2.1.congr (fun i hi => by show o * m2 27 i = o * (if i = x then 1 else 0); rw [v2 i hi]), fun t h1 h2 => ho.2.2 t h1 (h2.congr (fun i hi => by show t * (if i = x then 1 else 0) = t * m2 27 i; rw [v2 i hi]))⟩, hz⟩, fun q => absurd hx q⟩
  · rw [if_neg hx]
    exact ⟨fun c => absurd rfl c, fun _ => ⟨Fr.rf, fun q => absurd q hx, fun _ => rfl⟩⟩
/-- what one answers -/
def onR (n : Nat) (W : Int → Int → Int) (br X Y : Int → Int) (f : Prop) (z : Int) : Prop := (f → (z = 1 ∧ Img n W br (fun i => X i - Y i)) ∨ (z = 0 ∧ ¬ Img n W br (fun i => X i - Y i))) ∧ (¬ f → z = -1)
theorem onR.uniq {X Y X' Y' : Int → Int} {f f' : Prop} {z z' : Int} (hf : f ↔ f') (e1 : ∀ i, In n i → X i = X' i) (e2 : f → ∀ i, In n i → Y i = Y' i) (h : onR n W br X Y f z) (h' : onR n W br X' Y' f' z') : z = z' := by
  by_cases q : f
  · have e3 := e2 q
    rcases h.1 q with ⟨a, b⟩ | ⟨a, b⟩
    · rcases h'.1 (hf.mp q) with ⟨c, d⟩ | ⟨c, d⟩
      · rw [a, c]
      · exact absurd (b.congr (fun i hi => by rw [e1 i hi, e3 i hi])) d
    · rcases h'.1 (hf.mp q) with ⟨c, d⟩ | ⟨c, d⟩
      · exact absurd (d.congr (fun i hi => by rw [e1 i hi, e3 i hi])) b
      · rw [a, c]
  · rw [h.2 q, h'.2 (fun r => q (hf.mpr r))]
theorem c_oneX (B : BW n D W br) (X : CX n D W br b m) (K : GL n W br m) (hg : ∀ i, 0 ≤ i → i < 5 → -100000 ≤ m 25 i ∧ m 25 i ≤ 100000) {x : Int} (hx : (0 ≤ x ∧ x < 3) ∧ m 31 x ≠ 0 → ∀ i, 0 ≤ i → i < 5 → -100000 ≤ m 30 (8 * x + i) ∧ m 30 (8 * x + i) ≤ 100000) : CI l G Y_S_one (d + 3) [.inr (.inr 0), .inl x] m (fun z m' => Fr [27] m m' ∧ onR n W br (m 25) (fun i => m 30 (8 * x + i)) ((0 ≤ x ∧ x < 3) ∧ m 31 x ≠ 0) z) := by
  have hn5 := B.1
  refine e_S_one x (fun _ _ => ⟨d, _, by omega, c_isFilled, fun z m1 hz _ _ => ?_⟩)
  obtain ⟨rfl, rfl⟩ := hz
  by_cases h : (0 ≤ x ∧ x < 3) ∧ m 31 x ≠ 0
  · rw [if_pos h]
    have hx1 := hx h
    refine ⟨fun _ => ?_, fun c => absurd (by decide) c⟩
    have loop : ∀ (s : Nat) (i : Int) (m1 : MM), i + s = 5 → 0 ≤ i → Fr [27] m m1 → (∀ t, 0 ≤ t → t < i → m1 27 t = m 25 t - m 30 (8 * x + t)) → Wq l G false Y_S_one (d + 3) (QI fun z m' => Fr [27] m m' ∧ onR n W br (m 25) (fun i => m 30 (8 * x + i)) ((0 ≤ x ∧ x < 3) ∧ m 31 x ≠ 0) z) 12 [(0, .inr (.inr 0)), (1, .inl x), (2, .inl i)] [] m1 := by
      intro s
      induction s with
      | zero =>
        intro i m1 his i0 f hv
        have X1 := X.fr f (by decide) (by decide)
        have K1 : GL n W br m1 := by unfold GL at K ⊢; rw [f 38 (by decide), f 39 (by decide)]; exact K
        have hin : ∀ t, In n t → m1 27 t = m 25 t - m 30 (8 * x + t) := fun t ht => hv t ht.1 (by have := ht.2; omega)
        refine s_S_one_12 _ _ (fun _ _ _ => ⟨fun _ => ⟨b, X1.2.1, X1.1, d + 2, _, by omega, c_turns B X1.1 X1.2.2 K1 (h := 27) rfl (fun t ht => ?_), fun z m2 hz _ _ => ?_⟩, fun c => absurd (show i ≥ 5 by omega) c⟩)
        · rw [hin t ht]
          have := hg t ht.1 (by have := ht.2; omega)
          have := hx1 t ht.1 (by have := ht.2; omega)
          omega
        · obtain ⟨hO, -, rfl⟩ := hz
          have hiff : z = 1 ↔ Img n W br (fun i => m 25 i - m 30 (8 * x + i)) := by
            constructor
            · intro e
              have := hO.2.1
              rw [e] at this
              exact this.congr (fun t ht => by show 1 * m1 27 t = m 25 t - m 30 (8 * x + t); rw [hin t ht]; omega)
            · intro him
              have := hO.2.2 1 (by decide) (him.congr (fun t ht => by show m 25 t - m 30 (8 * x + t) = 1 * m1 27 t; rw [hin t ht]; omega))
              have := hO.1
              omega
          exact ⟨fun c => ⟨f, fun _ => Or.inr ⟨rfl, fun q => c (hiff.mpr q)⟩, fun q => absurd h q⟩, fun c => ⟨f, fun _ => Or.inl ⟨rfl, hiff.mp (Classical.not_not.mp c)⟩, fun q => absurd h q⟩⟩
      | succ s ih =>
        intro i m1 his i0 f hv
        have h1 := hg i i0 (by omega)
        have h2 := hx1 i i0 (by omega)
        refine s_S_one_12 _ _ (fun _ _ _ => ⟨fun c => absurd c (by omega), fun _ => ⟨by omega, by omega, by omega, by omega, ?_⟩⟩)
        rw [f 25 (by decide), f 30 (by decide), Int.mul_comm x 8]
        refine ⟨by omega, by omega, ?_⟩
        rintro m2 rfl
        refine ⟨by omega, ih (i + 1) _ (by omega) (by omega) (Fr_up f (by simp)) (fun t q0 q1 => ?_)⟩
        rw [up_row]
        by_cases e : t = i
        · rw [if_pos e, e]
        · rw [if_neg e]; exact hv t q0 (by omega)
    exact loop 5 0 m (by omega) (by omega) Fr.rf (fun t q0 q1 => by omega)
  · rw [if_neg h]
    exact ⟨fun c => absurd rfl c, fun _ => ⟨Fr.rf, fun q => absurd q h, fun _ => rfl⟩⟩
end TurnX
