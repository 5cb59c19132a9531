/-! seen, fits, sure, ask of the class -/
def tal (F : Int → Bool) (e : Int → Int) : Nat → Int → Int
  | 0 => fun _ => 0
  | v + 1 => fun x => tal F e v x + (if F v = true ∧ e v = x then 1 else 0)
def mst (F : Int → Bool) (e : Int → Int) : Nat → Int
  | 0 => 0
  | v + 1 => if F v = true then max (mst F e v) (tal F e (v + 1) (e v)) else mst F e v
def am (f : Int → Int) : Nat → Int
  | 0 => 0
  | k + 1 => if f k < f (am f k) then k else am f k
def fiV (n : Nat) (F : Int → Bool) : Int := if n = 0 then 0 else cntF F 31
def suR (n : Nat) (F : Int → Bool) (x z : Int) : Prop := ((0 ≤ x ∧ x ≤ 1) ∧ n ≠ 0 ∧ cntF F 31 ≠ 0 → ∃ lo hi, LgR F 31 lo hi ∧ z = if x = 0 then lo else hi) ∧ (¬ ((0 ≤ x ∧ x ≤ 1) ∧ n ≠ 0 ∧ cntF F 31 ≠ 0) → z = -1)
def mF (F : Int → Bool) (E : Int → Int → Int) (p : Int) : Int := mst F (fun v => E v p) 31
def asV (n : Nat) (F : Int → Bool) (E : Int → Int → Int) (x : Int) : Int := if (0 ≤ x ∧ x ≤ 1) ∧ n ≠ 0 ∧ cntF F 31 ≠ 0 then (if x = 0 then am (mF F E) n else mF F E (am (mF F E) n)) else -1
theorem tal_rng (F : Int → Bool) (e : Int → Int) : ∀ (v : Nat) (x : Int), 0 ≤ tal F e v x ∧ tal F e v x ≤ v
  | 0, x => ⟨Int.le_refl 0, Int.le_refl 0⟩
  | v + 1, x => by
    have h := tal_rng F e v x
    show 0 ≤ tal F e v x + (if F v = true ∧ e v = x then 1 else 0) ∧ tal F e v x + (if F v = true ∧ e v = x then 1 else 0) ≤ ((v + 1 : Nat) : Int)
    split <;> omega
theorem mst_rng (F : Int → Bool) (e : Int → Int) : ∀ v : Nat, 0 ≤ mst F e v ∧ mst F e v ≤ v
  | 0 => ⟨Int.le_refl 0, Int.le_refl 0⟩
  | v + 1 => by
    have h := mst_rng F e v
    have h2 := tal_rng F e (v + 1) (e v)
    show 0 ≤ (if F v = true then max (mst F e v) (tal F e (v + 1) (e v)) else mst F e v) ∧ (if F v = true then max (mst F e v) (tal F e (v + 1) (e v)) else mst F e v) ≤ ((v + 1 : Nat) : Int)
    split <;> omega
theorem tal_congr {F F' : Int → Bool} {e e' : Int → Int} : ∀ {v : Nat}, (∀ i, In v i → F i = F' i ∧ e i = e' i) → tal F e v = tal F' e' v
  | 0, _ => rfl
  | v + 1, h => by
    funext x
    show tal F e v x + (if F v = true ∧ e v = x then 1 else 0) = tal F' e' v x + (if F' v = true ∧ e' v = x then 1 else 0)
    have hv := h (v : Int) ⟨by omega, by omega⟩
    rw [tal_congr (v := v) (fun i hi => h i ⟨hi.1, by omega⟩), hv.1, hv.2]
theorem mst_congr {F F' : Int → Bool} {e e' : Int → Int} : ∀ {v : Nat}, (∀ i, In v i → F i = F' i ∧ e i = e' i) → mst F e v = mst F' e' v
  | 0, _ => rfl
  | v + 1, h => by
    show (if F v = true then max (mst F e v) (tal F e (v + 1) (e v)) else mst F e v) = (if F' v = true then max (mst F' e' v) (tal F' e' (v + 1) (e' v)) else mst F' e' v)
    have hv := h (v : Int) ⟨by omega, by omega⟩
    rw [tal_congr h, mst_congr (v := v) (fun i hi => h i ⟨hi.1, by omega⟩), hv.1, hv.2]
theorem am_in {f : Int → Int} : ∀ {k : Nat}, 1 ≤ k → In k (am f k)
  | 0, h => absurd h (by omega)
  | 1, _ => by
    show In 1 (if f 0 < f 0 then (0 : Int) else 0)
    rw [if_neg (Int.lt_irrefl _)]
    exact ⟨by decide, by decide⟩
  | k + 2, _ => by
    have ih := am_in (f := f) (k := k + 1) (by omega)
    show In (k + 2) (if f ((k + 1 : Nat) : Int) < f (am f (k + 1)) then ((k + 1 : Nat) : Int) else am f (k + 1))
    split
    · exact ⟨by omega, by omega⟩
    · exact ⟨ih.1, by omega⟩
theorem am_congr {f g : Int → Int} : ∀ {k : Nat}, (∀ i, In k i → f i = g i) → am f k = am g k
  | 0, _ => rfl
  | k + 1, h => by
    have ih := am_congr (k := k) (fun i hi => h i ⟨hi.1, by omega⟩)
    show (if f k < f (am f k) then (k : Int) else am f k) = (if g k < g (am g k) then (k : Int) else am g k)
    by_cases hk : k = 0
    · subst hk
      show (if f 0 < f 0 then (0 : Int) else 0) = (if g 0 < g 0 then (0 : Int) else 0)
      rw [if_neg (Int.lt_irrefl _), if_neg (Int.lt_irrefl _)]
    · have h1 := am_in (f := g) (k := k) (by omega)
      rw [ih, h (am g k) ⟨h1.1, by omega⟩, h (k : Int) ⟨by omega, by omega⟩]
theorem cntF_congr {F F' : Int → Bool} {k : Nat} (h : ∀ i, In k i → F i = F' i) : cntF F k = cntF F' k := sm_congr (fun i hi => by rw [h i hi])
theorem LgR.uniq {F F' : Int → Bool} {k : Nat} {lo hi lo' hi' : Int} (e : ∀ i, In k i → F i = F' i) (h : LgR F k lo hi) (h' : LgR F' k lo' hi') : lo = lo' ∧ hi = hi' := by
  obtain ⟨⟨a1, a2, a3, a4⟩, b1, b2, b3, b4⟩ := h
  obtain ⟨⟨c1, c2, c3, c4⟩, d1, d2, d3, d4⟩ := h'
  rw [e lo ⟨a1, a2⟩] at a3
  rw [e hi ⟨b1, b2⟩] at b3
  refine ⟨?_, ?_⟩
  · rcases Int.lt_trichotomy lo lo' with q | q | q
    · rw [c4 lo a1 q] at a3; cases a3
    · exact q
    · have := a4 lo' c1 q
      rw [e lo' ⟨c1, c2⟩, c3] at this; cases this
  · rcases Int.lt_trichotomy hi hi' with q | q | q
    · have := b4 hi' q d2
      rw [e hi' ⟨d1, d2⟩, d3] at this; cases this
    · exact q
    · rw [d4 hi q b2] at b3; cases b3
theorem suR.uniq {n : Nat} {F F' : Int → Bool} {x z z' : Int} (e : ∀ i, In 31 i → F i = F' i) (h : suR n F x z) (h' : suR n F' x z') : z = z' := by
  by_cases q : (0 ≤ x ∧ x ≤ 1) ∧ n ≠ 0 ∧ cntF F 31 ≠ 0
  · obtain ⟨lo, hi, h1, h2⟩ := h.1 q
    obtain ⟨lo', hi', h1', h2'⟩ := h'.1 (by rw [← cntF_congr e]; exact q)
    have := h1.uniq e h1'
    rw [h2, h2', this.1, this.2]
  · rw [h.2 q, h'.2 (by rw [← cntF_congr e]; exact q)]
theorem asV_congr {n : Nat} {F F' : Int → Bool} {E E' : Int → Int → Int} {x : Int} (e : ∀ i, In 31 i → F i = F' i) (e2 : ∀ v p, In 31 v → In n p → E v p = E' v p) : asV n F E x = asV n F' E' x := by
  unfold asV
  rw [cntF_congr e]
  by_cases q : (0 ≤ x ∧ x ≤ 1) ∧ n ≠ 0 ∧ cntF F' 31 ≠ 0
  · rw [if_pos q, if_pos q]
    have hm : ∀ p, In n p → mF F E p = mF F' E' p := fun p hp => mst_congr (fun i hi => ⟨e i hi, e2 i p hi hp⟩)
    rw [am_congr hm, hm _ (am_in (by omega))]
  · rw [if_neg q, if_neg q]
section Sight2
variable {l : Launch} {G : GT} {d : Nat} {m : MM} {b : Nat} {n : Nat} {D : Int → Int} {W : Int → Int → Int} {br hd : Int → Int}
theorem BW.br10 (B : BW n D W br) {i : Int} (hi : In n i) : br i ≤ 10 := by
  obtain ⟨hn, hD, hW, hd0, hb, -⟩ := B
  have h1 := hD i hi
  have h2 := sm_le (n := n) (f := W i) (g := fun j => 2 + (if j = i then -2 else 0)) (fun j hj => by
    have := hW i j hi hj
    by_cases e : j = i
    · rw [if_pos e, e, hd0 i hi]; decide
    · rw [if_neg e]; omega)
  rw [sm_add, sm_one, if_pos hi] at h2
  have h3 : sm n (fun _ => (2 : Int)) ≤ 10 := by
    have hn2 : n = 0 ∨ n = 1 ∨ n = 2 ∨ n = 3 ∨ n = 4 ∨ n = 5 := by omega
    rcases hn2 with rfl | rfl | rfl | rfl | rfl | rfl <;> decide
  rw [hb i hi]
  omega
theorem EnR.rng (B : BW n D W br) (hh : ∀ i, In n i → 0 ≤ hd i ∧ hd i ≤ 99) {E : Int → Int → Int} (h : EnR n W br hd E) {v p : Int} (hv : 0 ≤ v ∧ v ≤ 30) (hp : In n p) : 0 ≤ E v p ∧ E v p < 10 := by
  obtain ⟨u, hu, e⟩ := h v hv.1 hv.2
  have h1 := hvv_rng B.1 hh (v := v) (by omega)
  rw [e p hp]
  have := hu.nonneg B h1.1 p hp
  have := hu.2.1 p hp
  have := B.br10 hp
  omega
theorem c_fill {h len : Nat} (hl : q_lay h = .inr (0, len)) (hlt : len < 2147483648) (h0 : 0 < len) {x : Int} : CV l G Y_Arrays_fill d [.inr (.inr h), .inl x] m (fun m' => Fr [h] m m' ∧ ∀ i, 0 ≤ i → i < (len : Int) → m' h i = x) := by
  refine e_Arrays_fill x h len hl hlt (fun _ _ => ⟨⟨h0, hlt⟩, ?_⟩)
  have loop : ∀ (j : Nat) (i : Int) (m1 : MM), i + j = len → 0 ≤ i → Fr [h] m m1 → (∀ t, 0 ≤ t → t < i → m1 h t = x) → Wq l G false Y_Arrays_fill d (QV fun m' => Fr [h] m m' ∧ ∀ i, 0 ≤ i → i < (len : Int) → m' h i = x) 5 [(0, .inr (.inr h)), (1, .inl x), (2, .inl i), (3, .inl (len : Int))] [] m1 := by
    intro j
    induction j with
    | zero =>
      intro i m1 hij i0 f hv
      exact s_Arrays_fill_5 _ _ _ h len hl hlt (fun _ _ _ _ => ⟨fun _ => ⟨f, fun t t0 t1 => hv t t0 (by omega)⟩, fun c => absurd (show i ≥ (len : Int) by omega) c⟩)
    | succ j ih =>
      intro i m1 hij i0 f hv
      refine s_Arrays_fill_5 _ _ _ h len hl hlt (fun _ _ _ _ => ⟨fun c => absurd c (by omega), fun _ => ⟨by omega, ?_⟩⟩)
      rintro m2 rfl
      refine ⟨by omega, ih (i + 1) _ (by omega) (by omega) (Fr_up f (by simp)) (fun t t0 t1 => ?_)⟩
      rw [up_row]
      by_cases e : t = i
      · rw [if_pos e]
      · rw [if_neg e]; exact hv t t0 (by omega)
  exact loop len 0 m (by omega) (by omega) Fr.rf (fun t t0 t1 => by omega)
theorem c_leftAtMost {F : Int → Bool} (h62 : ∀ v, 0 ≤ v → v < 31 → m 62 v = if F v = true then 1 else 0) {p : Int} (hp : 0 ≤ p ∧ p < 5) (hE : ∀ v, 0 ≤ v → v < 31 → 0 ≤ m 61 (v * 5 + p) ∧ m 61 (v * 5 + p) < 10) : CI l G Y_Sights_leftAtMost (d + 1) [.inr (.inr 55), .inl p] m (fun z m' => Fr [63] m m' ∧ z = mF F (fun v p => m 61 (v * 5 + p)) p) := by
  refine e_Sights_leftAtMost p (fun _ _ => ⟨d, _, by omega, c_fill (h := 63) (len := 10) rfl (by decide) (by decide), fun m0 h0 _ => ?_⟩)
  obtain ⟨f0, z0⟩ := h0
  have loop : ∀ (j t : Nat) (m1 : MM), t + j = 31 → Fr [63] m m1 → (∀ x, 0 ≤ x → x < 10 → m1 63 x = tal F (fun v => m 61 (v * 5 + p)) t x) →
      Wq l G false Y_Sights_leftAtMost (d + 1) (QI fun z m' => Fr [63] m m' ∧ z = mF F (fun v p => m 61 (v * 5 + p)) p) 12 [(0, .inr (.inr 55)), (1, .inl p), (2, .inl (mst F (fun v => m 61 (v * 5 + p)) t)), (3, .inl (t : Int))] [] m1 := by
    intro j
    induction j with
    | zero =>
      intro t m1 htj f hv
      have e : t = 31 := by omega
      subst e
      exact s_Sights_leftAtMost_12 _ _ _ (by omega) (fun _ _ _ _ => ⟨fun _ => ⟨f, rfl⟩, fun c => absurd (by decide) c⟩)
    | succ j ih =>
      intro t m1 htj f hv
      have hEt := hE t (by omega) (by omega)
      have h62t := h62 t (by omega) (by omega)
      refine s_Sights_leftAtMost_12 _ _ _ (by omega) (fun _ _ _ _ => ⟨fun c => absurd c (by omega), fun _ => ⟨by omega, by omega, by omega, by omega, ?_⟩⟩)
      rw [f 62 (by decide), f 61 (by decide), h62t]
      cases hF : F (t : Int) with
      | false =>
        have em : mst F (fun v => m 61 (v * 5 + p)) (t + 1) = mst F (fun v => m 61 (v * 5 + p)) t := by
          show (if F t = true then _ else _) = _
          rw [hF, if_neg (by decide)]
        have et : ∀ x, tal F (fun v => m 61 (v * 5 + p)) (t + 1) x = tal F (fun v => m 61 (v * 5 + p)) t x := fun x => by
          show tal F _ t x + (if F t = true ∧ _ then 1 else 0) = _
          rw [hF, if_neg (fun q => by cases q.1), Int.add_zero]
        refine ⟨fun _ => ⟨by omega, ?_⟩, fun c => absurd rfl c⟩
        rw [← em]
        exact ih (t + 1) m1 (by omega) f (fun x x0 x1 => by rw [et x]; exact hv x x0 x1)
      | true =>
        refine ⟨fun c => absurd c (by decide), fun _ => ⟨fun c => absurd c (by omega), fun _ => ⟨fun c => absurd c (by omega), fun _ => ⟨hEt, ?_⟩⟩⟩⟩
        have hv1 := hv _ hEt.1 hEt.2
        have hr1 := tal_rng F (fun v => m 61 (v * 5 + p)) t (m 61 ((t : Int) * 5 + p))
        have et : ∀ x, tal F (fun v => m 61 (v * 5 + p)) (t + 1) x = tal F (fun v => m 61 (v * 5 + p)) t x + (if m 61 ((t : Int) * 5 + p) = x then 1 else 0) := fun x => by
          show tal F _ t x + (if F t = true ∧ m 61 ((t : Int) * 5 + p) = x then 1 else 0) = _
          rw [hF]
          by_cases q : m 61 ((t : Int) * 5 + p) = x
          · rw [if_pos ⟨rfl, q⟩, if_pos q]
          · rw [if_neg (fun r => q r.2), if_neg q]
        have em : mst F (fun v => m 61 (v * 5 + p)) (t + 1) = max (mst F (fun v => m 61 (v * 5 + p)) t) (tal F (fun v => m 61 (v * 5 + p)) t (m 61 ((t : Int) * 5 + p)) + 1) := by
          show (if F t = true then max _ (tal F _ (t + 1) (m 61 ((t : Int) * 5 + p))) else _) = _
          rw [hF, if_pos rfl, et, if_pos rfl]
        rw [hv1]
        refine ⟨by omega, hEt, ?_⟩
        rintro m2 rfl
        refine ⟨hEt, by omega, ?_⟩
        rw [up_at, ← em]
        refine ih (t + 1) _ (by omega) (Fr_up f (by simp)) (fun x x0 x1 => ?_)
        rw [up_row, et x]
        by_cases q : x = m 61 ((t : Int) * 5 + p)
        · rw [if_pos q, if_pos q.symm, q]
        · rw [if_neg q, if_neg (fun r => q r.symm), Int.add_zero]
          exact hv x x0 x1
  exact loop 31 0 m0 (by omega) f0 (fun x x0 x1 => z0 x x0 x1)
/-- what fits, sure and ask of the class ask for and leave -/
def SgX (n : Nat) (D : Int → Int) (W : Int → Int → Int) (br hd : Int → Int) (b : Nat) (m : MM) : Prop :=
  (∀ i, In n i → m (b + 1) i = hd i) ∧ (∀ i, In n i → 0 ≤ hd i ∧ hd i ≤ 99) ∧ (m 55 9 ≠ 0 → EnR n W br hd (fun v p => m 61 (v * 5 + p))) ∧ SgW n (m 55 10) (m 56) (m 58) (m 60)
theorem c_weighX (B : BW n D W br) (X : CX n D W br b m) (S : SgX n D W br hd b m) {k : Int} : CI l G Y_Sights_weigh (d + 4) [.inr (.inr 55), .inr (.inr b), .inl k] m (fun z m' => (n = 0 → z = 0 ∧ m = m') ∧ (1 ≤ n → ∃ F : Int → Bool, F = (fun v => ftk (fun v p => m' 61 (v * 5 + p)) (m 56) (m 57) (m 58) (m 59) (m 60) k v (m 55 10).toNat) ∧ Fro 55 [61, 62, 64, 65, 66] [9, 12, 13] m m' ∧ (EnR n W br hd (fun v p => m' 61 (v * 5 + p)) ∧ m' 55 9 ≠ 0) ∧ z = cntF F 31 ∧ (∀ v, 0 ≤ v → v < 31 → m' 62 v = if F v = true then 1 else 0) ∧ (z ≠ 0 → LgR F 31 (m' 55 12) (m' 55 13)))) :=
  c_weigh B X.1 X.2.2 S.1 S.2.1 S.2.2.1 S.2.2.2
/-- the frame of the three -/
def SgF (n : Nat) (W : Int → Int → Int) (br hd : Int → Int) (m m' : MM) : Prop := Fro 55 [61, 62, 63, 64, 65, 66] [9, 12, 13] m m' ∧ (m' 55 9 ≠ 0 → EnR n W br hd (fun v p => m' 61 (v * 5 + p)))
theorem c_fitsX (B : BW n D W br) (X : CX n D W br b m) (S : SgX n D W br hd b m) {k : Int} : CI l G Y_S_fits (d + 5) [.inr (.inr 0), .inl k] m (fun z m' => SgF n W br hd m m' ∧ ∃ E, (1 ≤ n → EnR n W br hd E) ∧ z = fiV n (fun v => ftk E (m 56) (m 57) (m 58) (m 59) (m 60) k v (m 55 10).toNat)) := by
  refine e_S_fits k (fun _ _ => ⟨b, X.2.1, X.1, d + 4, _, by omega, c_weighX B X S, fun z m1 h1 _ _ => ?_⟩)
  unfold fiV
  by_cases h : n = 0
  · obtain ⟨rfl, rfl⟩ := h1.1 h
    exact ⟨⟨Fro.rf, S.2.2.1⟩, fun v p => 0, fun q => absurd h (by omega), by rw [if_pos h]⟩
  · obtain ⟨F, hF, f, hE, hz, -, -⟩ := h1.2 (by omega)
    exact ⟨⟨f.mono (by simp) (by simp), fun _ => hE.1⟩, _, fun _ => hE.1, by rw [if_neg h, hz, hF]⟩
theorem c_sureX (B : BW n D W br) (X : CX n D W br b m) (S : SgX n D W br hd b m) {x k : Int} : CI l G Y_S_sure (d + 5) [.inr (.inr 0), .inl x, .inl k] m (fun z m' => SgF n W br hd m m' ∧ ∃ E, ((0 ≤ x ∧ x ≤ 1) ∧ n ≠ 0 → EnR n W br hd E) ∧ suR n (fun v => ftk E (m 56) (m 57) (m 58) (m 59) (m 60) k v (m 55 10).toNat) x z) := by
  refine e_S_sure x k (fun _ _ _ => ⟨fun c => ⟨⟨Fro.rf, S.2.2.1⟩, fun _ _ => 0, fun q => absurd q.1 (by omega), fun q => absurd q.1 (by omega), fun _ => rfl⟩, fun c => ⟨fun c2 => ⟨⟨Fro.rf, S.2.2.1⟩, fun _ _ => 0, fun q => absurd q.1 (by omega), fun q => absurd q.1 (by omega), fun _ => rfl⟩, fun c2 => ⟨b, X.2.1, X.1, d + 4, _, by omega, c_weighX B X S, fun z m1 h1 _ _ => ?_⟩⟩⟩)
  by_cases h : n = 0
  · obtain ⟨rfl, rfl⟩ := h1.1 h
    exact ⟨fun q => absurd rfl q, fun _ => ⟨⟨Fro.rf, S.2.2.1⟩, fun _ _ => 0, fun q => absurd h q.2, fun q => absurd h q.2.1, fun _ => rfl⟩⟩
  · obtain ⟨F, hF, f, hE, hz, -, hlg⟩ := h1.2 (by omega)
    have fr : SgF n W br hd m m1 := ⟨f.mono (by simp) (by simp), fun _ => hE.1⟩
    refine ⟨fun q => ?_, fun q => ⟨fr, _, fun _ => hE.1, fun r => absurd r.2.2 (by rw [← hF, ← hz]; exact q), fun _ => rfl⟩⟩
    have hl := hlg q
    rw [hF] at hl
    exact ⟨fun c3 => ⟨fr, _, fun _ => hE.1, fun _ => ⟨_, _, hl, by rw [if_neg c3]⟩, fun r => absurd ⟨by omega, h, by rw [← hF, ← hz]; exact q⟩ r⟩, fun c3 => ⟨fr, _, fun _ => hE.1, fun _ => ⟨_, _, hl, by rw [if_pos (Classical.not_not.mp c3)]⟩, fun r => absurd ⟨by omega, h, by rw [← hF, ← hz]; exact q⟩ r⟩⟩
theorem c_askX (B : BW n D W br) (X : CX n D W br b m) (S : SgX n D W br hd b m) {x k : Int} : CI l G Y_S_ask (d + 5) [.inr (.inr 0), .inl x, .inl k] m (fun z m' => SgF n W br hd m m' ∧ ∃ E, ((0 ≤ x ∧ x ≤ 1) ∧ n ≠ 0 → EnR n W br hd E) ∧ z = asV n (fun v => ftk E (m 56) (m 57) (m 58) (m 59) (m 60) k v (m 55 10).toNat) E x) := by
  have hn5 := B.1
  have no : ∀ E, ¬ ((0 ≤ x ∧ x ≤ 1) ∧ n ≠ 0 ∧ cntF (fun v => ftk E (m 56) (m 57) (m 58) (m 59) (m 60) k v (m 55 10).toNat) 31 ≠ 0) → -1 = asV n (fun v => ftk E (m 56) (m 57) (m 58) (m 59) (m 60) k v (m 55 10).toNat) E x := fun E q => by
    unfold asV
    rw [if_neg q]
  refine e_S_ask x k (fun _ _ _ => ⟨fun c => ⟨⟨Fro.rf, S.2.2.1⟩, fun _ _ => 0, fun q => absurd q.1 (by omega), no _ (fun q => absurd q.1 (by omega))⟩, fun c => ⟨fun c2 => ⟨⟨Fro.rf, S.2.2.1⟩, fun _ _ => 0, fun q => absurd q.1 (by omega), no _ (fun q => absurd q.1 (by omega))⟩, fun c2 => ⟨b, X.2.1, X.1, d + 4, _, by omega, c_weighX B X S, fun z m1 h1 _ _ => ?_⟩⟩⟩)
  by_cases h : n = 0
  · obtain ⟨rfl, rfl⟩ := h1.1 h
    exact ⟨fun q => absurd rfl q, fun _ => ⟨⟨Fro.rf, S.2.2.1⟩, fun _ _ => 0, fun q => absurd h q.2, no _ (fun q => absurd h q.2.1)⟩⟩
  · obtain ⟨F, hF, f, hE, hz, h62, -⟩ := h1.2 (by omega)
    refine ⟨fun q => ?_, fun q => ⟨⟨f.mono (by simp) (by simp), fun _ => hE.1⟩, _, fun _ => hE.1, no _ (fun r => absurd r.2.2 (by rw [← hF, ← hz]; exact q))⟩⟩
    have X1 : CX n D W br b m1 := by
      have hk : ∀ j, j ≤ 8 → b + j ∉ [61, 62, 64, 65, 66, 55] := fun j hj hm => by
        simp only [List.mem_cons, List.not_mem_nil, or_false] at hm
        rcases X.1 with rfl | rfl <;> omega
      have fS : Fr [61, 62, 64, 65, 66, 55] m m1 := fun c hc => by
        simp only [List.mem_cons, List.not_mem_nil, or_false] at hc
        exact f.1 c (by simp only [List.mem_cons, List.not_mem_nil, or_false]; omega) (by omega)
      exact ⟨X.1, by rw [fS 0 (by decide)]; exact X.2.1, X.2.2.fr fS (hk 0 (by omega)) (hk 2 (by omega)) (hk 3 (by omega)) (hk 4 (by omega))⟩
    have good : (0 ≤ x ∧ x ≤ 1) ∧ n ≠ 0 ∧ cntF F 31 ≠ 0 := ⟨by omega, h, by rw [← hz]; exact q⟩
    have loop : ∀ (j t : Nat) (be fe : Int) (m2 : MM), t + j = n → Fr [63] m1 m2 → (t = 0 → fe = 1000000) → (1 ≤ t → be = am (mF F (fun v p => m1 61 (v * 5 + p))) t ∧ fe = mF F (fun v p => m1 61 (v * 5 + p)) (am (mF F (fun v p => m1 61 (v * 5 + p))) t)) →
        Wq l G false Y_S_ask (d + 5) (QI fun z m' => SgF n W br hd m m' ∧ ∃ E, ((0 ≤ x ∧ x ≤ 1) ∧ n ≠ 0 → EnR n W br hd E) ∧ z = asV n (fun v => ftk E (m 56) (m 57) (m 58) (m 59) (m 60) k v (m 55 10).toNat) E x) 35 [(0, .inr (.inr 0)), (1, .inl x), (3, .inl be), (4, .inl fe), (5, .inl (t : Int))] [] m2 := by
      intro j
      induction j with
      | zero =>
        intro t be fe m2 htj f2 h0 h1
        have e : t = n := by omega
        rw [e] at h1
        obtain ⟨g1, g2⟩ := h1 (by omega)
        have X2 := X1.fr f2 (by decide) (by decide)
        have fr : SgF n W br hd m m2 := ⟨(f.mono (by simp) (by simp)).tr ⟨fun c hc _ => f2 c (by simp only [List.mem_cons, List.not_mem_nil, or_false] at hc ⊢; omega), fun i _ => by rw [f2 55 (by decide)]⟩, fun _ => by rw [f2 61 (by decide)]; exact hE.1⟩
        have as : asV n F (fun v p => m1 61 (v * 5 + p)) x = if x = 0 then be else fe := by
          unfold asV
          rw [if_pos good, ← g2, ← g1]
        rw [hF] at as
        exact s_S_ask_35 _ _ _ _ (fun _ _ _ _ _ => ⟨b, X2.2.1, X2.1, fun _ => ⟨fun c => ⟨fr, _, fun _ => hE.1, by rw [as, if_neg c]⟩, fun c => ⟨fr, _, fun _ => hE.1, by rw [as, if_pos (Classical.not_not.mp c)]⟩⟩, fun c => absurd (show (t : Int) ≥ m2 b 0 by rw [X2.2.2.1]; omega) c⟩)
      | succ j ih =>
        intro t be fe m2 htj f2 h0 h1
        have X2 := X1.fr f2 (by decide) (by decide)
        have e61 : m2 61 = m1 61 := f2 61 (by decide)
        refine s_S_ask_35 _ _ _ _ (fun _ _ _ _ _ => ⟨b, X2.2.1, X2.1, fun c => absurd c (by rw [X2.2.2.1]; omega), fun _ => ⟨d + 1, _, by omega, c_leftAtMost (F := F) (by rw [f2 62 (by decide)]; exact h62) (by omega) (fun v v0 v1 => by rw [e61]; exact hE.1.rng B S.2.1 (by omega) ⟨by omega, by omega⟩), fun z2 m3 h3 _ _ => ?_⟩⟩)
        obtain ⟨f3, hz3⟩ := h3
        rw [e61] at hz3
        have hm := mst_rng F (fun v => m1 61 (v * 5 + (t : Int))) 31
        have hzr : 0 ≤ z2 ∧ z2 ≤ 31 := by rw [hz3]; exact hm
        have ea : am (mF F (fun v p => m1 61 (v * 5 + p))) (t + 1) = if mF F (fun v p => m1 61 (v * 5 + p)) (t : Int) < mF F (fun v p => m1 61 (v * 5 + p)) (am (mF F (fun v p => m1 61 (v * 5 + p))) t) then (t : Int) else am (mF F (fun v p => m1 61 (v * 5 + p))) t := rfl
        refine ⟨fun c => ⟨by omega, ih (t + 1) be fe m3 (by omega) (f2.tr f3) (fun q => absurd q (by omega)) (fun _ => ?_)⟩, fun c => ⟨by omega, ih (t + 1) (t : Int) z2 m3 (by omega) (f2.tr f3) (fun q => absurd q (by omega)) (fun _ => ?_)⟩⟩
        · have t1 : 1 ≤ t := Classical.byContradiction (fun q => by have := h0 (by omega); omega)
          obtain ⟨g1, g2⟩ := h1 t1
          rw [ea, if_neg (by rw [← g2, ← hz3]; omega)]
          exact ⟨g1, g2⟩
        · by_cases t1 : 1 ≤ t
          · obtain ⟨g1, g2⟩ := h1 t1
            rw [ea, if_pos (by rw [← g2, ← hz3]; omega)]
            exact ⟨rfl, hz3⟩
          · have t0 : t = 0 := by omega
            subst t0
            have : am (mF F (fun v p => m1 61 (v * 5 + p))) (0 + 1) = 0 := by
              rw [ea]
              exact if_neg (Int.lt_irrefl _)
            rw [this]
            exact ⟨rfl, hz3⟩
    exact loop n 0 (-1) 1000000 m1 (by omega) Fr.rf (fun _ => rfl) (fun q => absurd q (by omega))
/-- what seen adds -/
theorem c_seenX (X : CX n D W br b m) (hc : 0 ≤ m 55 10 ∧ m 55 10 ≤ 30) {x y w : Int} (hw : w = 0 ∨ w = 1) : CI l G Y_S_seen (d + 1) [.inr (.inr 0), .inl x, .inl y, .inl w] m (fun z m' => (In n x ∧ (0 ≤ y ∧ y ≤ 99) ∧ m 55 10 < 30 → z = m 55 10 ∧ Fro 55 [56, 57, 58, 59, 60] [10] m m' ∧ m' 55 10 = m 55 10 + 1 ∧ m' 56 = upS (m 56) (m 55 10) x ∧ m' 57 = upS (m 57) (m 55 10) y ∧ m' 58 = upS (m 58) (m 55 10) w ∧ m' 59 = upS (m 59) (m 55 10) (m 55 11) ∧ m' 60 = upS (m 60) (m 55 10) (-1)) ∧ (¬ (In n x ∧ (0 ≤ y ∧ y ≤ 99) ∧ m 55 10 < 30) → z = -1 ∧ m = m')) := by
  refine e_S_seen x y w (fun _ _ _ _ => ⟨b, X.2.1, X.1, d, _, by omega, c_has X.1, fun z m1 hz _ _ => ?_⟩)
  obtain ⟨rfl, rfl⟩ := hz
  rw [has_if X.2.2]
  by_cases hx : In n x
  · rw [if_pos hx]
    refine ⟨fun c => absurd c (by decide), fun _ => ⟨fun c => ⟨fun q => absurd q.2.1 (by omega), fun _ => ⟨rfl, rfl⟩⟩, fun c => ⟨fun c2 => ⟨d, _, by omega, e_Sights_tell x y w (P := fun z m' => (In n x ∧ (0 ≤ y ∧ y ≤ 99) ∧ m 55 10 < 30 → z = m 55 10 ∧ Fro 55 [56, 57, 58, 59, 60] [10] m m' ∧ m' 55 10 = m 55 10 + 1 ∧ m' 56 = upS (m 56) (m 55 10) x ∧ m' 57 = upS (m 57) (m 55 10) y ∧ m' 58 = upS (m 58) (m 55 10) w ∧ m' 59 = upS (m 59) (m 55 10) (m 55 11) ∧ m' 60 = upS (m 60) (m 55 10) (-1)) ∧ (¬ (In n x ∧ (0 ≤ y ∧ y ≤ 99) ∧ m 55 10 < 30) → z = -1 ∧ m = m')) (fun _ _ _ _ => ⟨fun c3 => ⟨by omega, ?_⟩, fun c3 => ⟨fun q => absurd q.2.2 c3, fun _ => ⟨rfl, rfl⟩⟩⟩), fun z m1 h _ _ => h⟩, fun c2 => ⟨fun q => absurd q.2.1 (by omega), fun _ => ⟨rfl, rfl⟩⟩⟩⟩⟩
    rintro m1 rfl
    rw [up_ne (show (55 : Nat) ≠ 56 by decide)]
    refine ⟨by omega, ?_⟩
    rintro m2 rfl
    rw [up_ne (show (55 : Nat) ≠ 57 by decide), up_ne (show (55 : Nat) ≠ 56 by decide)]
    refine ⟨by omega, hw, ?_⟩
    rintro m3 rfl
    rw [up_ne (show (55 : Nat) ≠ 58 by decide), up_ne (show (55 : Nat) ≠ 57 by decide), up_ne (show (55 : Nat) ≠ 56 by decide)]
    refine ⟨by omega, ?_⟩
    rintro m4 rfl
    rw [up_ne (show (55 : Nat) ≠ 59 by decide), up_ne (show (55 : Nat) ≠ 58 by decide), up_ne (show (55 : Nat) ≠ 57 by decide), up_ne (show (55 : Nat) ≠ 56 by decide)]
    refine ⟨by omega, ?_⟩
    rintro m5 rfl
    rw [up_ne (show (55 : Nat) ≠ 60 by decide), up_ne (show (55 : Nat) ≠ 59 by decide), up_ne (show (55 : Nat) ≠ 58 by decide), up_ne (show (55 : Nat) ≠ 57 by decide), up_ne (show (55 : Nat) ≠ 56 by decide)]
    refine ⟨by omega, ?_⟩
    rintro m6 rfl
    rw [up_at]
    refine ⟨by omega, fun _ => ⟨by omega, Fro_upo (Fro_up (Fro_up (Fro_up (Fro_up (Fro_up Fro.rf (by simp) (by decide)) (by simp) (by decide)) (by simp) (by decide)) (by simp) (by decide)) (by simp) (by decide)) (by simp), rfl, ?_, ?_, ?_, ?_, ?_⟩, fun q => absurd ⟨hx, by omega, c3⟩ q⟩
    · rw [up_ne (by decide), up_ne (by decide), up_ne (by decide), up_ne (by decide), up_ne (by decide), up_upS]
    · rw [up_ne (by decide), up_ne (by decide), up_ne (by decide), up_ne (by decide), up_upS, up_ne (by decide)]
    · rw [up_ne (by decide), up_ne (by decide), up_ne (by decide), up_upS, up_ne (by decide), up_ne (by decide)]
    · rw [up_ne (by decide), up_ne (by decide), up_upS, up_ne (by decide), up_ne (by decide), up_ne (by decide)]
    · rw [up_ne (by decide), up_upS, up_ne (by decide), up_ne (by decide), up_ne (by decide), up_ne (by decide)]
  · rw [if_neg hx]
    exact ⟨fun _ => ⟨fun q => absurd q.1 hx, fun _ => ⟨rfl, rfl⟩⟩, fun c => absurd rfl c⟩
end Sight2
