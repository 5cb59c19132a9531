/-! cycle, wheel, one, mean, many of the reference -/
section TurnM
variable {l : Launch} {G : GT} {d : Nat} {m : MM} {b : Nat} {n : Nat} {D : Int → Int} {W : Int → Int → Int} {br : Int → Int}
theorem OwR.add {X X' Z e w u : Int → Int} (h : OwR n W br X Z) (he : ∀ i, In n i → 0 ≤ e i) (hw : ∀ i, In n i → e i = X' i - Lp n W br w i) (hu : Stb n W br (fun i => Z i + e i) u) : OwR n W br (fun i => X i + X' i) (fun i => Z i + e i - Lp n W br u i) := by
  obtain ⟨Y, z, v, h1, h2, h3, h4⟩ := h
  have hc := Stb.comp he h3 (w := u) (hu.congr (fun i hi => by show Z i + e i = Y i - Lp n W br v i + e i; rw [h4 i hi]))
  refine ⟨fun i => Y i + e i, fun i => z i + w i, _, fun i hi => ?_, fun i hi => ?_, hc, fun i hi => ?_⟩
  · have := h1 i hi
    have := he i hi
    show br i - 1 ≤ Y i + e i
    omega
  · show Y i + e i = X i + X' i - Lp n W br (fun j => z j + w j) i
    rw [Lp_add, h2 i hi, hw i hi]; omega
  · show Z i + e i - Lp n W br u i = Y i + e i - Lp n W br (fun j => v j + u j) i
    rw [Lp_add, h4 i hi]; omega
theorem OwR.congrZ {X Z Z' : Int → Int} (h : OwR n W br X Z) (e : ∀ i, In n i → Z i = Z' i) : OwR n W br X Z' := by
  obtain ⟨Y, z, v, h1, h2, h3, h4⟩ := h
  exact ⟨Y, z, v, h1, h2, h3, fun i hi => by rw [← e i hi]; exact h4 i hi⟩
/-- two heaps have one own when they are one by lending -/
theorem own_iff (B : BW n D W br) {X Y O P : Int → Int} (hX : OwR n W br X O) (hY : OwR n W br Y P) : (∀ i, In n i → O i = P i) ↔ Img n W br (fun i => X i - Y i) := by
  constructor
  · intro h
    obtain ⟨a, ha⟩ := hX.one
    obtain ⟨c, hc⟩ := hY.one
    refine ⟨fun i => a i - c i, fun i hi => ?_⟩
    rw [Lp_sub]
    have h1 := h i hi
    have h2 := ha i hi
    have h3 := hc i hi
    show X i - Y i = _
    omega
  · rintro ⟨w, hw⟩
    have h1 : OwR n W br Y O := hX.shift (w := fun i => 0 - w i) (fun i hi => by
      have := hw i hi
      rw [Lp_sub (u := fun _ => 0), Lp_zero]
      have h2 : X i - Y i = Lp n W br w i := this
      omega)
    exact h1.uniq B hY
theorem c_isNought (B : BW n D W br) (X : BM n D W br m) : CI l G Y_M_isNought (d + 1) [.inr (.inr 70)] m (fun z m' => m = m' ∧ ((z = 1 ∧ ∀ i, In n i → m 93 i = m 95 i) ∨ (z = 0 ∧ ¬ ∀ i, In n i → m 93 i = m 95 i))) := by
  have hn5 := B.1
  refine e_M_isNought (fun _ => ?_)
  have loop : ∀ (s k : Nat), k + s = n → (∀ i, In k i → m 93 i = m 95 i) → Wq l G false Y_M_isNought (d + 1) (QI fun z m' => m = m' ∧ ((z = 1 ∧ ∀ i, In n i → m 93 i = m 95 i) ∨ (z = 0 ∧ ¬ ∀ i, In n i → m 93 i = m 95 i))) 2 [(0, .inr (.inr 70)), (1, .inl (k : Int))] [] m := by
    intro s
    induction s with
    | zero =>
      intro k hk hv
      have e : k = n := by omega
      rw [e] at hv
      refine s_M_isNought_2 _ (fun _ _ => ⟨d, _, by omega, c_lots X, fun z m1 hz _ _ => ?_⟩)
      obtain ⟨rfl, rfl⟩ := hz
      exact ⟨fun _ => ⟨rfl, Or.inl ⟨rfl, hv⟩⟩, fun c => absurd (show (k : Int) ≥ n by omega) c⟩
    | succ s ih =>
      intro k hk hv
      refine s_M_isNought_2 _ (fun _ _ => ⟨d, _, by omega, c_lots X, fun z m1 hz _ _ => ?_⟩)
      obtain ⟨rfl, rfl⟩ := hz
      refine ⟨fun c => absurd c (by omega), fun _ => ⟨by omega, by omega, fun c => ⟨by omega, ih (k + 1) (by omega) (fun i hi => ?_)⟩, fun c => ⟨rfl, Or.inr ⟨rfl, fun q => c (q k ⟨by omega, by omega⟩)⟩⟩⟩⟩
      by_cases e : i = (k : Int)
      · rw [e]; exact c
      · exact hv i ⟨hi.1, by have := hi.2; omega⟩
  exact loop n 0 (by omega) (fun i hi => absurd hi (by intro r; have := r.1; have := r.2; omega))
theorem c_turnsOf (B : BW n D W br) (X : BM n D W br m) (H : GM n W br m) (hg : ∀ i, In n i → -1000000 ≤ m 93 i ∧ m 93 i ≤ 30000) : CI l G Y_M_turnsOf (d + 4) [.inr (.inr 70)] m (fun z m' => Fro 70 [93, 94, 98] [41] m m' ∧ tuR n W br (m 93) z) := by
  have hn5 := B.1
  refine e_M_turnsOf (fun _ => ⟨d + 3, _, by omega, c_makeOwn B X H hg, fun m1 h1 _ => ?_⟩)
  obtain ⟨f1, o1⟩ := h1
  have r1 : ∀ i, In n i → 0 ≤ m1 93 i ∧ m1 93 i < br i := fun i hi => o1.rng B hi
  have f1' : Fro 70 [93, 94, 98] [41] m m1 := f1.mono (by simp) (by simp)
  have hnil : OwR n W br (fun _ => 0) (m 95) := H.2.own
  obtain ⟨w1, hw1⟩ := o1.one
  -- the turns
  have turns : ∀ (s : Nat) (t : Int) (m2 : MM), t + s = 2001 → 1 ≤ t → Fro 70 [93, 94, 98] [41] m m2 → (∀ i, In n i → m2 98 i = m1 93 i) → OwR n W br (fun i => t * m 93 i) (m2 93) → (∀ u, 1 ≤ u → u < t → ¬ Img n W br (fun i => u * m 93 i)) → Wq l G false Y_M_turnsOf (d + 4) (QI fun z m' => Fro 70 [93, 94, 98] [41] m m' ∧ tuR n W br (m 93) z) 34 [(0, .inr (.inr 70)), (1, .inl t)] [] m2 := by
    intro s
    induction s with
    | zero =>
      intro t m2 hts t1 f2 h98 hO hno
      refine s_M_turnsOf_34 _ (fun _ _ => ⟨fun _ => ⟨f2, ?_⟩, fun c => absurd (show t > 2000 by omega) c⟩)
      obtain ⟨q, -, hq⟩ := ord_of B (m 93)
      refine ⟨q, hq, ?_⟩
      rw [if_neg (fun r => hno q hq.1 (by omega) hq.2.1)]
    | succ s ih =>
      intro t m2 hts t1 f2 h98 hO hno
      have X2 := X.fro f2 (by decide) (by decide) (by decide) (by decide) (by decide)
      have e95 : m2 95 = m 95 := f2.1 95 (by decide) (by decide)
      have hiff := own_iff B hO hnil
      have r2 : ∀ i, In n i → 0 ≤ m2 93 i ∧ m2 93 i < br i := fun i hi => hO.rng B hi
      refine s_M_turnsOf_34 _ (fun _ _ => ⟨fun c => absurd c (by omega), fun _ => ⟨d + 1, _, by omega, c_isNought B X2, fun z m3 hz _ _ => ?_⟩⟩)
      obtain ⟨rfl, hz⟩ := hz
      rw [e95] at hz
      refine ⟨fun c => ?_, fun c => ⟨f2, t, ⟨t1, ?_, fun u h1 h2 => ?_⟩, by rw [if_pos (by omega)]⟩⟩
      · have hnot : ¬ Img n W br (fun i => t * m 93 i) := fun him => by
          rcases hz with ⟨h1, -⟩ | ⟨-, h2⟩
          · omega
          · exact h2 (hiff.mpr (him.congr (fun i _ => by show t * m 93 i = t * m 93 i - 0; omega)))
        have inner : ∀ (q : Nat) (x : Int) (m3 : MM), x + q = n → 0 ≤ x → Fro 70 [93] [] m2 m3 → (∀ i, In n i → m3 93 i = m2 93 i + (if i < x then m1 93 i else 0)) → Wq l G false Y_M_turnsOf (d + 4) (QI fun z m' => Fro 70 [93, 94, 98] [41] m m' ∧ tuR n W br (m 93) z) 52 [(0, .inr (.inr 70)), (1, .inl t), (2, .inl x)] [] m3 := by
          intro q
          induction q with
          | zero =>
            intro x m3 hxq x0 f3 hv
            have f3' : Fro 70 [93, 94, 98] [41] m m3 := f2.tr (f3.mono (by simp) (by simp))
            have X3 := X.fro f3' (by decide) (by decide) (by decide) (by decide) (by decide)
            have hin : ∀ i, In n i → m3 93 i = m2 93 i + m1 93 i := fun i hi => by rw [hv i hi, if_pos (by have := hi.2; omega)]
            have hnn : ∀ i, In n i → 0 ≤ m3 93 i := fun i hi => by rw [hin i hi]; have := r1 i hi; have := r2 i hi; omega
            have hss : sm n (m3 93) ≤ 100 := by
              rw [sm_congr hin, sm_add]
              have h1 := sm_br B r1
              have h2 := sm_br B r2
              have e1 : sm n (fun i => m2 93 i) = sm n (m2 93) := rfl
              have e2 : sm n (fun i => m1 93 i) = sm n (m1 93) := rfl
              omega
            refine s_M_turnsOf_52 _ _ (fun _ _ _ => ⟨d, _, by omega, c_lots X3, fun z2 m4 hz2 _ _ => ?_⟩)
            obtain ⟨rfl, rfl⟩ := hz2
            refine ⟨fun _ => ⟨d + 2, _, by omega, c_settleHeap B X3 hnn hss (by decide), fun z2 m4 h4 _ _ => ⟨by omega, ?_⟩⟩, fun c2 => absurd (show x ≥ (n : Int) by omega) c2⟩
            obtain ⟨u, hu, ⟨f4, g4, -, -, -, -⟩, -⟩ := h4
            have hadd := hO.add (e := m1 93) (X' := m 93) (w := w1) (u := u) (fun i hi => (r1 i hi).1) hw1 (hu.congr hin)
            refine ih (t + 1) m4 (by omega) (by omega) (f3'.tr (f4.mono (by simp) (by simp))) (fun i hi => by rw [f4.1 98 (by decide) (by decide), f3.1 98 (by decide) (by decide)]; exact h98 i hi) ?_ (fun u2 h1 h2 => ?_)
            · have h5 := hadd.congr (X' := fun i => (t + 1) * m 93 i) (fun i _ => by show t * m 93 i + m 93 i = (t + 1) * m 93 i; rw [Int.add_mul, Int.one_mul])
              exact h5.congrZ (fun i hi => by rw [g4 i hi, hin i hi])
            · by_cases e : u2 = t
              · rw [e]; exact hnot
              · exact hno u2 h1 (by omega)
          | succ q ihq =>
            intro x m3 hxq x0 f3 hv
            have f3' : Fro 70 [93, 94, 98] [41] m m3 := f2.tr (f3.mono (by simp) (by simp))
            have X3 := X.fro f3' (by decide) (by decide) (by decide) (by decide) (by decide)
            have hx : In n x := by omega
            have hvx : m3 93 x = m2 93 x := by rw [hv x hx, if_neg (by omega)]; omega
            have e98 : m3 98 x = m1 93 x := by rw [f3.1 98 (by decide) (by decide)]; exact h98 x hx
            have h1 := r1 x hx
            have h2 := r2 x hx
            have h3 := B.br10 hx
            refine s_M_turnsOf_52 _ _ (fun _ _ _ => ⟨d, _, by omega, c_lots X3, fun z2 m4 hz2 _ _ => ?_⟩)
            obtain ⟨rfl, rfl⟩ := hz2
            rw [hvx, e98]
            refine ⟨fun c2 => absurd c2 (by omega), fun _ => ⟨by omega, by omega, by omega, by omega, ?_⟩⟩
            rintro m4 rfl
            refine ⟨by omega, ihq (x + 1) _ (by omega) (by omega) (Fro_up f3 (by simp) (by decide)) (fun i hi => ?_)⟩
            rw [up_row]
            by_cases e : i = x
            · rw [if_pos e, if_pos (by omega), e]
            · rw [if_neg e, hv i hi]
              by_cases e2 : i < x
              · rw [if_pos e2, if_pos (by omega)]
              · rw [if_neg e2, if_neg (by omega)]
        exact inner n 0 m2 (by omega) (by omega) Fro.rf (fun i hi => by rw [if_neg (by have := hi.1; omega)]; omega)
      · rcases hz with ⟨-, h2⟩ | ⟨h1, -⟩
        · exact (hiff.mp h2).congr (fun i _ => by show t * m 93 i - 0 = t * m 93 i; omega)
        · exact absurd h1 c
      · rcases Int.lt_or_le u t with r | r
        · exact absurd h2 (hno u h1 r)
        · exact r
  have copy : ∀ (s : Nat) (x : Int) (m2 : MM), x + s = n → 0 ≤ x → Fr [98] m1 m2 → (∀ i, In n i → i < x → m2 98 i = m1 93 i) → Wq l G false Y_M_turnsOf (d + 4) (QI fun z m' => Fro 70 [93, 94, 98] [41] m m' ∧ tuR n W br (m 93) z) 6 [(0, .inr (.inr 70)), (1, .inl x)] [] m2 := by
    intro s
    induction s with
    | zero =>
      intro x m2 hxs x0 f2 hv
      have f2' : Fro 70 [93, 94, 98] [41] m m2 := f1'.tr ⟨fun c hc _ => f2 c (by simp only [List.mem_cons, List.not_mem_nil, or_false] at hc ⊢; omega), fun i _ => by rw [f2 70 (by decide)]⟩
      have X2 := X.fro f2' (by decide) (by decide) (by decide) (by decide) (by decide)
      refine s_M_turnsOf_6 _ (fun _ _ => ⟨d, _, by omega, c_lots X2, fun z m3 hz _ _ => ?_⟩)
      obtain ⟨rfl, rfl⟩ := hz
      refine ⟨fun _ => turns 2000 1 m2 (by omega) (by omega) f2' (fun i hi => hv i hi (by have := hi.2; omega)) ?_ (fun u h1 h2 => by omega), fun c => absurd (show x ≥ (n : Int) by omega) c⟩
      rw [f2 93 (by decide)]
      exact o1.congr (fun i _ => by show m 93 i = 1 * m 93 i; omega)
    | succ s ih =>
      intro x m2 hxs x0 f2 hv
      have f2' : Fro 70 [93, 94, 98] [41] m m2 := f1'.tr ⟨fun c hc _ => f2 c (by simp only [List.mem_cons, List.not_mem_nil, or_false] at hc ⊢; omega), fun i _ => by rw [f2 70 (by decide)]⟩
      have X2 := X.fro f2' (by decide) (by decide) (by decide) (by decide) (by decide)
      refine s_M_turnsOf_6 _ (fun _ _ => ⟨d, _, by omega, c_lots X2, fun z m3 hz _ _ => ?_⟩)
      obtain ⟨rfl, rfl⟩ := hz
      refine ⟨fun c => absurd c (by omega), fun _ => ⟨by omega, by omega, ?_⟩⟩
      rintro m3 rfl
      refine ⟨by omega, ih (x + 1) _ (by omega) (by omega) (Fr_up f2 (by simp)) (fun i hi q => ?_)⟩
      rw [up_row, f2 93 (by decide)]
      by_cases e : i = x
      · rw [if_pos e, e]
      · rw [if_neg e]; exact hv i hi (by omega)
  exact copy n 0 m1 (by omega) (by omega) Fr.rf (fun i hi q => absurd q (by have := hi.1; omega))
theorem tuR.congr {X Y : Int → Int} {z : Int} (h : tuR n W br X z) (e : ∀ i, In n i → X i = Y i) : tuR n W br Y z := by
  obtain ⟨o, ho, hz⟩ := h
  exact ⟨o, ⟨ho.1, ho.2.1.congr (fun i hi => by rw [e i hi]), fun t h1 h2 => ho.2.2 t h1 (h2.congr (fun i hi => by rw [e i hi]))⟩, hz⟩
theorem c_cycleM (B : BW n D W br) (X : BM n D W br m) (H : GM n W br m) (hg : ∀ i, In n i → 0 ≤ m 90 i ∧ m 90 i ≤ 20000) : CI l G Y_M_cycle (d + 5) [.inr (.inr 70)] m (fun z m' => Fro 70 [93, 94, 98] [41] m m' ∧ tuR n W br (m 90) z) := by
  refine e_M_cycle (fun _ => ⟨d + 1, _, by omega, c_layNow B.1 X, fun m1 h1 _ => ?_⟩)
  obtain ⟨f1, g1, -⟩ := h1
  have X1 := X.fro f1 (by decide) (by decide) (by decide) (by decide) (by decide)
  have H1 := H.fro f1 (by decide) (by decide)
  refine ⟨d + 4, _, by omega, c_turnsOf B X1 H1 (fun i hi => by rw [g1 i hi]; have := hg i hi; omega), fun z m2 h2 _ _ => ?_⟩
  exact ⟨(f1.mono (by simp) (by simp)).tr h2.1, h2.2.congr g1⟩
theorem c_wheelM (B : BW n D W br) (X : BM n D W br m) (H : GM n W br m) {x : Int} : CI l G Y_M_wheel (d + 5) [.inr (.inr 70), .inl x] m (fun z m' => Fro 70 [93, 94, 98] [41] m m' ∧ (In n x → tuR n W br (fun i => if i = x then 1 else 0) z) ∧ (¬ In n x → z = -1)) := by
  have hn5 := B.1
  refine e_M_wheel x (fun _ _ => ⟨d + 1, _, by omega, c_isPlate hn5 X, fun z m1 hz _ _ => ?_⟩)
  obtain ⟨rfl, rfl⟩ := hz
  by_cases hx : In n x
  · rw [if_pos hx]
    refine ⟨fun _ => ?_, fun c => absurd (by decide) c⟩
    have loop : ∀ (s : Nat) (i : Int) (m1 : MM), i + s = n → 0 ≤ i → Fro 70 [93] [] m m1 → (∀ t, In n t → t < i → m1 93 t = if t = x then 1 else 0) → Wq l G false Y_M_wheel (d + 5) (QI fun z m' => Fro 70 [93, 94, 98] [41] m m' ∧ (In n x → tuR n W br (fun i => if i = x then 1 else 0) z) ∧ (¬ In n x → z = -1)) 12 [(0, .inr (.inr 70)), (1, .inl x), (2, .inl i)] [] m1 := by
      intro s
      induction s with
      | zero =>
        intro i m1 his i0 f hv
        have X1 := X.fro f (by decide) (by decide) (by decide) (by decide) (by decide)
        have H1 := H.fro f (by decide) (by decide)
        have hin : ∀ t, In n t → m1 93 t = if t = x then 1 else 0 := fun t ht => hv t ht (by have := ht.2; omega)
        refine s_M_wheel_12 _ _ (fun _ _ _ => ⟨d, _, by omega, c_lots X1, fun z m2 hz _ _ => ?_⟩)
        obtain ⟨rfl, rfl⟩ := hz
        refine ⟨fun _ => ⟨d + 4, _, by omega, c_turnsOf B X1 H1 (fun t ht => by rw [hin t ht]; split <;> omega), fun z m2 h2 _ _ => ?_⟩, fun c => absurd (show i ≥ (n : Int) by omega) c⟩
        exact ⟨(f.mono (by simp) (by simp)).tr h2.1, fun _ => h2.2.congr hin, fun q => absurd hx q⟩
      | succ s ih =>
        intro i m1 his i0 f hv
        have X1 := X.fro f (by decide) (by decide) (by decide) (by decide) (by decide)
        refine s_M_wheel_12 _ _ (fun _ _ _ => ⟨d, _, by omega, c_lots X1, fun z m2 hz _ _ => ?_⟩)
        obtain ⟨rfl, rfl⟩ := hz
        have go : ∀ y : Int, y = (if i = x then 1 else 0) → ∀ m2, m2 = up m1 93 i y → (inR (i + 1)) ∧ (Wq l G false Y_M_wheel (d + 5) (QI fun z m' => Fro 70 [93, 94, 98] [41] m m' ∧ (In n x → tuR n W br (fun i => if i = x then 1 else 0) z) ∧ (¬ In n x → z = -1)) 12 [(0, .inr (.inr 70)), (1, .inl x), (2, .inl (i + 1))] [] m2) := by
          rintro y hy m2 rfl
          refine ⟨by omega, ih (i + 1) _ (by omega) (by omega) (Fro_up f (by simp) (by decide)) (fun t ht q => ?_)⟩
          rw [up_row]
          by_cases e : t = i
          · rw [if_pos e, e, hy]
          · rw [if_neg e]; exact hv t ht (by omega)
        exact ⟨fun c => absurd c (by omega), fun _ => ⟨fun c => ⟨by omega, go 0 (by rw [if_neg c])⟩, fun c => ⟨by omega, go 1 (by rw [if_pos (Classical.not_not.mp c)])⟩⟩⟩
    exact loop n 0 m (by omega) (by omega) Fro.rf (fun t ht q => absurd q (by have := ht.1; omega))
  · rw [if_neg hx]
    exact ⟨fun c => absurd rfl c, fun _ => ⟨Fro.rf, fun q => absurd q hx, fun _ => rfl⟩⟩
theorem c_oneM (B : BW n D W br) (X : BM n D W br m) (H : GM n W br m) (hg : ∀ i, In n i → 0 ≤ m 90 i ∧ m 90 i ≤ 20000) {x : Int} (hx : (0 ≤ x ∧ x < 3) ∧ m 110 x ≠ 0 → ∀ i, In n i → 0 ≤ m 109 (8 * x + i) ∧ m 109 (8 * x + i) ≤ 20000) : CI l G Y_M_one (d + 4) [.inr (.inr 70), .inl x] m (fun z m' => Fro 70 [93, 94, 98] [41] m m' ∧ onR n W br (m 90) (fun i => m 109 (8 * x + i)) ((0 ≤ x ∧ x < 3) ∧ m 110 x ≠ 0) z) := by
  have hn5 := B.1
  refine e_M_one x (fun _ _ => ⟨d + 1, _, by omega, c_isBox, fun z m1 hz _ _ => ?_⟩)
  obtain ⟨rfl, rfl⟩ := hz
  by_cases h : (0 ≤ x ∧ x < 3) ∧ m 110 x ≠ 0
  · rw [if_pos h]
    have hx1 := hx h
    refine ⟨fun _ => ⟨d + 1, _, by omega, c_layNow hn5 X, fun m1 h1 _ => ?_⟩, fun c => absurd (by decide) c⟩
    obtain ⟨f1, g1, -⟩ := h1
    have X1 := X.fro f1 (by decide) (by decide) (by decide) (by decide) (by decide)
    have H1 := H.fro f1 (by decide) (by decide)
    refine ⟨d + 3, _, by omega, c_makeOwn B X1 H1 (fun i hi => by rw [g1 i hi]; have := hg i hi; omega), fun m2 h2 _ => ?_⟩
    obtain ⟨f2, o2⟩ := h2
    have o2' := o2.congr g1
    have f2' : Fro 70 [93, 94, 98] [41] m m2 := (f1.mono (by simp) (by simp)).tr (f2.mono (by simp) (by simp))
    have cmp : ∀ (mc : MM) (P : Int → Int), Fro 70 [93, 94, 98] [41] m mc → (∀ i, In n i → mc 98 i = m2 93 i) → OwR n W br (fun i => m 109 (8 * x + i)) (mc 93) → ∀ (s k : Nat) (y : Int), k + s = n → ((y = 1 ∧ ∀ i, In k i → mc 93 i = m2 93 i) ∨ (y = 0 ∧ ¬ ∀ i, In n i → mc 93 i = m2 93 i)) → Wq l G false Y_M_one (d + 4) (QI fun z m' => Fro 70 [93, 94, 98] [41] m m' ∧ onR n W br (m 90) (fun i => m 109 (8 * x + i)) ((0 ≤ x ∧ x < 3) ∧ m 110 x ≠ 0) z) 87 [(0, .inr (.inr 70)), (2, .inl y), (3, .inl (k : Int))] [] mc := by
      intro mc P fc h98 hO s
      have Xc := X.fro fc (by decide) (by decide) (by decide) (by decide) (by decide)
      have hiff := own_iff B o2' hO
      induction s with
      | zero =>
        intro k y hk hy
        have e : k = n := by omega
        rw [e] at hy
        refine s_M_one_87 _ _ (fun _ _ _ => ⟨d, _, by omega, c_lots Xc, fun z m3 hz _ _ => ?_⟩)
        obtain ⟨rfl, rfl⟩ := hz
        refine ⟨fun _ => ⟨fc, fun _ => ?_, fun q => absurd h q⟩, fun c => absurd (show (k : Int) ≥ n by omega) c⟩
        rcases hy with ⟨h1, h2⟩ | ⟨h1, h2⟩
        · exact Or.inl ⟨h1, hiff.mp (fun i hi => (h2 i hi).symm)⟩
        · exact Or.inr ⟨h1, fun q => h2 (fun i hi => (hiff.mpr q i hi).symm)⟩
      | succ s ih =>
        intro k y hk hy
        have hk2 : In n (k : Int) := ⟨by omega, by omega⟩
        refine s_M_one_87 _ _ (fun _ _ _ => ⟨d, _, by omega, c_lots Xc, fun z m3 hz _ _ => ?_⟩)
        obtain ⟨rfl, rfl⟩ := hz
        rw [h98 k hk2]
        refine ⟨fun c => absurd c (by omega), fun _ => ⟨by omega, by omega, fun c => ⟨by omega, ih (k + 1) y (by omega) ?_⟩, fun c => ⟨by omega, ih (k + 1) 0 (by omega) (Or.inr ⟨rfl, fun q => c (q k hk2)⟩)⟩⟩⟩
        rcases hy with ⟨h1, h2⟩ | ⟨h1, h2⟩
        · refine Or.inl ⟨h1, fun i hi => ?_⟩
          by_cases e : i = (k : Int)
          · rw [e]; exact c
          · exact h2 i ⟨hi.1, by have := hi.2; omega⟩
        · exact Or.inr ⟨h1, h2⟩
    have box : ∀ (mc : MM), Fro 70 [93, 94, 98] [41] m mc → (∀ i, In n i → mc 98 i = m2 93 i) → ∀ (s : Nat) (i : Int) (m3 : MM), i + s = n → 0 ≤ i → Fro 70 [93] [] mc m3 → (∀ t, In n t → t < i → m3 93 t = m 109 (8 * x + t)) → Wq l G false Y_M_one (d + 4) (QI fun z m' => Fro 70 [93, 94, 98] [41] m m' ∧ onR n W br (m 90) (fun i => m 109 (8 * x + i)) ((0 ≤ x ∧ x < 3) ∧ m 110 x ≠ 0) z) 48 [(0, .inr (.inr 70)), (1, .inl x), (2, .inl i)] [] m3 := by
      intro mc fc h98 s
      induction s with
      | zero =>
        intro i m3 his i0 f3 hv
        have f3' : Fro 70 [93, 94, 98] [41] m m3 := fc.tr (f3.mono (by simp) (by simp))
        have X3 := X.fro f3' (by decide) (by decide) (by decide) (by decide) (by decide)
        have H3 := H.fro f3' (by decide) (by decide)
        have hin : ∀ t, In n t → m3 93 t = m 109 (8 * x + t) := fun t ht => hv t ht (by have := ht.2; omega)
        refine s_M_one_48 _ _ (fun _ _ _ => ⟨d, _, by omega, c_lots X3, fun z m4 hz _ _ => ?_⟩)
        obtain ⟨rfl, rfl⟩ := hz
        refine ⟨fun _ => ⟨d + 3, _, by omega, c_makeOwn B X3 H3 (fun t ht => by rw [hin t ht]; have := hx1 t ht; omega), fun m4 h4 _ => ?_⟩, fun c => absurd (show i ≥ (n : Int) by omega) c⟩
        obtain ⟨f4, o4⟩ := h4
        exact cmp m4 (m4 93) (f3'.tr (f4.mono (by simp) (by simp))) (fun t ht => by rw [f4.1 98 (by decide) (by decide), f3.1 98 (by decide) (by decide)]; exact h98 t ht) (o4.congr hin) n 0 1 (by omega) (Or.inl ⟨rfl, fun t ht => absurd ht (by intro r; have := r.1; have := r.2; omega)⟩)
      | succ s ih =>
        intro i m3 his i0 f3 hv
        have f3' : Fro 70 [93, 94, 98] [41] m m3 := fc.tr (f3.mono (by simp) (by simp))
        have X3 := X.fro f3' (by decide) (by decide) (by decide) (by decide) (by decide)
        refine s_M_one_48 _ _ (fun _ _ _ => ⟨d, _, by omega, c_lots X3, fun z m4 hz _ _ => ?_⟩)
        obtain ⟨rfl, rfl⟩ := hz
        refine ⟨fun c => absurd c (by omega), fun _ => ⟨by omega, by omega, by omega, by omega, ?_⟩⟩
        rintro m4 rfl
        refine ⟨by omega, ih (i + 1) _ (by omega) (by omega) (Fro_up f3 (by simp) (by decide)) (fun t ht q => ?_)⟩
        rw [up_row, f3'.1 109 (by decide) (by decide)]
        by_cases e : t = i
        · rw [if_pos e, e]
        · rw [if_neg e]; exact hv t ht (by omega)
    have copy : ∀ (s : Nat) (i : Int) (m3 : MM), i + s = n → 0 ≤ i → Fr [98] m2 m3 → (∀ t, In n t → t < i → m3 98 t = m2 93 t) → Wq l G false Y_M_one (d + 4) (QI fun z m' => Fro 70 [93, 94, 98] [41] m m' ∧ onR n W br (m 90) (fun i => m 109 (8 * x + i)) ((0 ≤ x ∧ x < 3) ∧ m 110 x ≠ 0) z) 20 [(0, .inr (.inr 70)), (1, .inl x), (2, .inl i)] [] m3 := by
      intro s
      induction s with
      | zero =>
        intro i m3 his i0 f3 hv
        have f3' : Fro 70 [93, 94, 98] [41] m m3 := f2'.tr ⟨fun c hc _ => f3 c (by simp only [List.mem_cons, List.not_mem_nil, or_false] at hc ⊢; omega), fun i _ => by rw [f3 70 (by decide)]⟩
        have X3 := X.fro f3' (by decide) (by decide) (by decide) (by decide) (by decide)
        refine s_M_one_20 _ _ (fun _ _ _ => ⟨d, _, by omega, c_lots X3, fun z m4 hz _ _ => ?_⟩)
        obtain ⟨rfl, rfl⟩ := hz
        exact ⟨fun _ => box m3 f3' (fun t ht => hv t ht (by have := ht.2; omega)) n 0 m3 (by omega) (by omega) Fro.rf (fun t ht q => absurd q (by have := ht.1; omega)), fun c => absurd (show i ≥ (n : Int) by omega) c⟩
      | succ s ih =>
        intro i m3 his i0 f3 hv
        have f3' : Fro 70 [93, 94, 98] [41] m m3 := f2'.tr ⟨fun c hc _ => f3 c (by simp only [List.mem_cons, List.not_mem_nil, or_false] at hc ⊢; omega), fun i _ => by rw [f3 70 (by decide)]⟩
        have X3 := X.fro f3' (by decide) (by decide) (by decide) (by decide) (by decide)
        refine s_M_one_20 _ _ (fun _ _ _ => ⟨d, _, by omega, c_lots X3, fun z m4 hz _ _ => ?_⟩)
        obtain ⟨rfl, rfl⟩ := hz
        refine ⟨fun c => absurd c (by omega), fun _ => ⟨by omega, by omega, ?_⟩⟩
        rintro m4 rfl
        refine ⟨by omega, ih (i + 1) _ (by omega) (by omega) (Fr_up f3 (by simp)) (fun t ht q => ?_)⟩
        rw [up_row, f3 93 (by decide)]
        by_cases e : t = i
        · rw [if_pos e, e]
        · rw [if_neg e]; exact hv t ht (by omega)
    exact copy n 0 m2 (by omega) (by omega) Fr.rf (fun t ht q => absurd q (by have := ht.1; omega))
  · rw [if_neg h]
    exact ⟨fun c => absurd rfl c, fun _ => ⟨Fro.rf, fun q => absurd q h, fun _ => rfl⟩⟩
theorem c_manyM (H : GM n W br m) : CI l G Y_M_many d [.inr (.inr 70)] m (fun z m' => z = dtm n (enN W br) ∧ m = m') := e_M_many (fun _ => ⟨H.1, rfl⟩)
theorem c_meanM (B : BW n D W br) (X : BM n D W br m) (H : GM n W br m) {p o k : Int} : CI l G Y_M_mean (d + 3) [.inr (.inr 70), .inl p, .inl o, .inl k] m (fun z m' => z = meV n W br p o k ∧ Fr [99] m m') := by
  have hn5 := B.1
  unfold meV
  refine e_M_mean p o k (fun _ _ _ _ => ⟨d + 1, _, by omega, c_isPlate hn5 X, fun z m1 hz _ _ => ?_⟩)
  obtain ⟨rfl, rfl⟩ := hz
  by_cases hp : In n p
  · rw [if_pos hp]
    refine ⟨fun c => absurd c (by decide), fun _ => ⟨d + 1, _, by omega, c_isPlate hn5 X, fun z m1 hz _ _ => ?_⟩⟩
    obtain ⟨rfl, rfl⟩ := hz
    by_cases ho : In n o
    · rw [if_pos ho]
      refine ⟨fun c => absurd c (by decide), fun _ => ⟨d, _, by omega, c_isIn, fun z m1 hz _ _ => ?_⟩⟩
      obtain ⟨rfl, rfl⟩ := hz
      by_cases hk : 0 ≤ k ∧ k ≤ 1
      · rw [if_pos hk, if_pos ⟨hp, ho, hk⟩]
        refine ⟨fun _ => ⟨d, _, by omega, c_lots X, fun z m1 hz _ _ => ?_⟩, fun c => absurd (by decide) c⟩
        obtain ⟨rfl, rfl⟩ := hz
        have hf := full_1 hn5
        have hs := full_sub (n := n)
        have hfr := bs5_range hn5 (fun _ => true)
        obtain ⟨p', rfl⟩ : ∃ t : Nat, p = (t : Int) := ⟨p.toNat, by have := hp.1; omega⟩
        obtain ⟨o', rfl⟩ : ∃ t : Nat, o = (t : Int) := ⟨o.toNat, by have := ho.1; omega⟩
        have hp' : p' < n := by have := hp.2; omega
        have ho' : o' < n := by have := ho.2; omega
        have h1 := hs.rmv hn5 (j := p') (by omega)
        have h2 := hs.rmv hn5 (j := o') (by omega)
        have ep : bAnd (bs n (fun _ => true)) (bXor (bShl 1 (p' : Int)) (-1)) = rmv (bs n (fun _ => true)) p' := by unfold rmv; rw [hf.2.1 p' hp']
        have eo : bAnd (bs n (fun _ => true)) (bXor (bShl 1 (o' : Int)) (-1)) = rmv (bs n (fun _ => true)) o' := by unfold rmv; rw [hf.2.1 o' ho']
        rw [bs_full hn5, ep, eo]
        refine ⟨by omega, d + 2, _, by omega, c_squareOf B X h1.1 h2.1 (by omega), fun z m1 hz _ _ => ?_⟩
        obtain ⟨f1, hz⟩ := hz
        rw [MnV_cof B hp' ho'] at hz
        have hcr := cof_rng B hp ho
        have hd := B.det
        have hdl := B.det_le
        have e42 : m1 70 42 = dtm n (enN W br) := by rw [f1 70 (by decide)]; exact H.1
        have ecof : cof n W br (p' : Int) (o' : Int) = if ((p' : Int) + o') % 2 = 0 then z else - z := by
          unfold cof
          rw [Int.toNat_natCast, Int.toNat_natCast, ← hz]
        rw [e42, Int.tmod_eq_emod_of_nonneg (show 0 ≤ (p' : Int) + (o' : Int) by omega)]
        refine ⟨by omega, fun c => ?_, fun c => ?_⟩
        · have ez : cof n W br (p' : Int) (o' : Int) = z := by rw [ecof, if_pos (by omega)]
          rw [ez] at hcr ⊢
          have hgp := gN_pos (a := z) (b := dtm n (enN W br)) (by omega)
          refine ⟨d, _, by omega, c_divisor (by omega) (by omega), fun z2 m2 hz2 _ _ => ?_⟩
          obtain ⟨rfl, rfl⟩ := hz2
          rw [gN_comm, e42]
          exact ⟨fun c2 => ⟨hgp, by rw [if_neg c2], f1⟩, fun c2 => ⟨hgp, by rw [if_pos (Classical.not_not.mp c2)], f1⟩⟩
        · have ez : cof n W br (p' : Int) (o' : Int) = -z := by rw [ecof, if_neg (by have := Classical.not_not.mp c; omega)]
          rw [ez] at hcr ⊢
          have hgp := gN_pos (a := -z) (b := dtm n (enN W br)) (by omega)
          refine ⟨by omega, d, _, by omega, c_divisor (by omega) (by omega), fun z2 m2 hz2 _ _ => ?_⟩
          obtain ⟨rfl, rfl⟩ := hz2
          rw [gN_comm, e42]
          exact ⟨fun c2 => ⟨hgp, by rw [if_neg c2], f1⟩, fun c2 => ⟨hgp, by rw [if_pos (Classical.not_not.mp c2)], f1⟩⟩
      · rw [if_neg hk]
        exact ⟨fun c => absurd rfl c, fun _ => ⟨by rw [if_neg (fun q => hk q.2.2)], Fr.rf⟩⟩
    · rw [if_neg ho]
      exact ⟨fun _ => ⟨by rw [if_neg (fun q => ho q.2.1)], Fr.rf⟩, fun c => absurd rfl c⟩
  · rw [if_neg hp]
    exact ⟨fun _ => ⟨by rw [if_neg (fun q => hp q.1)], Fr.rf⟩, fun c => absurd rfl c⟩
end TurnM
