/-! level of the class: spread, growBy -/
section LevelX
variable {l : Launch} {G : GT} {d : Nat} {m : MM} {b : Nat} {n : Nat} {D : Int → Int} {W : Int → Int → Int} {br : Int → Int}
theorem spr_rng {g : Int → Int} {lo hi a M : Int} (hg : ∀ a, 0 ≤ g a ∧ g a ≤ M) (hM : 0 ≤ M) (h1 : hi - lo ≤ 10) : 0 ≤ spr g lo hi a ∧ spr g lo hi a ≤ 10 * M := by
  unfold spr
  refine ⟨sm_nonneg (fun u _ => (hg _).1), ?_⟩
  have h2 := (sm_bound (k := (hi - lo).toNat) (f := fun u => g (a - (lo + u))) (M := M) (fun u _ => by have := hg (a - (lo + u)); show -M ≤ g (a - (lo + u)) ∧ g (a - (lo + u)) ≤ M; omega)).2
  have h3 := Int.mul_le_mul_of_nonneg_right (show (((hi - lo).toNat : Nat) : Int) ≤ 10 by omega) hM
  omega
theorem spr_neg {g : Int → Int} {lo hi a : Int} (hg : ∀ a, a < 0 → g a = 0) (h0 : 0 ≤ lo) (ha : a < 0) : spr g lo hi a = 0 := by
  unfold spr
  rw [sm_congr (g := fun _ => 0) (fun u hu => hg _ (by have := hu.1; omega)), sm_zero]
theorem c_spread {r : Nat} (hl : q_lay r = .inr (0, 46)) {g : Int → Int} {lo ch M : Int} (hneg : ∀ a, a < 0 → g a = 0) (hg : ∀ a, 0 ≤ g a ∧ g a ≤ M) (hM : 0 ≤ M ∧ M ≤ 100000000) (hlo : 0 ≤ lo ∧ lo ≤ 10) (hch : 0 ≤ ch ∧ ch ≤ 10) (hv : ∀ a, 0 ≤ a → a < 46 → m r a = g a) : CV l G Y_Fire_spread d [.inr (.inr r), .inl lo, .inl ch] m (fun m' => Fr [r] m m' ∧ ∀ a, 0 ≤ a → a < 46 → m' r a = spr g lo (lo + ch) a) := by
  refine e_Fire_spread _ _ r 46 hl (by decide) (fun _ _ _ => ?_)
  have outer : ∀ (s : Nat) (m1 : MM), s ≤ 46 → Fr [r] m m1 → (∀ a, 0 ≤ a → a < 46 → m1 r a = if a < (s : Int) then g a else spr g lo (lo + ch) a) → Wq l G false Y_Fire_spread d (QV fun m' => Fr [r] m m' ∧ ∀ a, 0 ≤ a → a < 46 → m' r a = spr g lo (lo + ch) a) 3 [(0, .inr (.inr r)), (1, .inl lo), (2, .inl ch), (3, .inl ((s : Int) - 1))] [] m1 := by
    intro s
    induction s with
    | zero =>
      intro m1 hs f h1
      exact s_Fire_spread_3 _ _ _ r 46 hl (by decide) (fun _ _ _ _ => ⟨fun _ => ⟨f, fun a a0 a1 => by rw [h1 a a0 a1, if_neg (by omega)]⟩, fun c => absurd (show ((0 : Nat) : Int) - 1 < 0 by decide) c⟩)
    | succ s ih =>
      intro m1 hs f h1
      rw [show ((s + 1 : Nat) : Int) - 1 = (s : Int) by omega]
      refine s_Fire_spread_3 _ _ _ r 46 hl (by decide) (fun _ _ _ _ => ⟨fun c => absurd c (by omega), fun _ => ?_⟩)
      have fin : ∀ v, v = spr g lo (lo + ch) s → ∀ m2, m2 = up m1 r s v → Wq l G false Y_Fire_spread d (QV fun m' => Fr [r] m m' ∧ ∀ a, 0 ≤ a → a < 46 → m' r a = spr g lo (lo + ch) a) 3 [(0, .inr (.inr r)), (1, .inl lo), (2, .inl ch), (3, .inl ((s : Int) + -1))] [] m2 := fun v ev m2 e2 => by
        rw [show (s : Int) + -1 = (s : Int) - 1 by omega]
        refine ih m2 (by omega) (by rw [e2]; exact Fr_up f (by simp)) (fun a a0 a1 => ?_)
        rw [e2, up_row]
        by_cases q : a = (s : Int)
        · rw [if_pos q, if_neg (by omega), ev, q]
        · rw [if_neg q, h1 a a0 a1]
          by_cases q2 : a < (s : Int)
          · rw [if_pos q2, if_pos (by omega)]
          · rw [if_neg q2, if_neg (by omega)]
      have inner : ∀ (t u : Nat), (u : Int) + t = ch → Wq l G false Y_Fire_spread d (QV fun m' => Fr [r] m m' ∧ ∀ a, 0 ≤ a → a < 46 → m' r a = spr g lo (lo + ch) a) 13 [(0, .inr (.inr r)), (1, .inl lo), (2, .inl ch), (3, .inl (s : Int)), (4, .inl (sm u (fun t => g ((s : Int) - (lo + t))))), (5, .inl (lo + u))] [] m1 := by
        intro t
        induction t with
        | zero =>
          intro u hu
          refine s_Fire_spread_13 _ _ _ _ _ r 46 hl (by decide) (fun _ _ _ _ _ _ => ⟨by omega, fun _ => ⟨by omega, fun m2 e2 => ⟨by omega, fin _ ?_ m2 e2⟩⟩, fun c => absurd (show lo + (u : Int) ≥ lo + ch by omega) c⟩)
          unfold spr
          rw [show (lo + ch - lo).toNat = u by omega]
        | succ t iht =>
          intro u hu
          have hsb := sm_bound (k := u) (f := fun t => g ((s : Int) - (lo + t))) (M := M) (fun u _ => by have := hg ((s : Int) - (lo + u)); show -M ≤ g ((s : Int) - (lo + u)) ∧ g ((s : Int) - (lo + u)) ≤ M; omega)
          have hb2 := Int.mul_le_mul_of_nonneg_right (show ((u : Nat) : Int) ≤ 10 by omega) hM.1
          have hgu := hg ((s : Int) - (lo + u))
          refine s_Fire_spread_13 _ _ _ _ _ r 46 hl (by decide) (fun _ _ _ _ _ _ => ⟨by omega, fun c => absurd c (by omega), fun _ => ⟨fun c => ⟨by omega, fun m2 e2 => ⟨by omega, fin _ ?_ m2 e2⟩⟩, fun c => ?_⟩⟩)
          · unfold spr
            rw [show (lo + ch - lo).toNat = u + (t + 1) by omega, sm_split, sm_congr (n := t + 1) (g := fun _ => 0) (fun v hv => hneg _ (by have := hv.1; omega)), sm_zero, Int.add_zero]
          · have e1 : m1 r ((s : Int) - (lo + u)) = g ((s : Int) - (lo + u)) := by
              rw [h1 _ (by omega) (by omega), if_pos (by omega)]
            rw [e1]
            have nx := iht (u + 1) (by omega)
            have es : sm (u + 1) (fun t => g ((s : Int) - (lo + t))) = sm u (fun t => g ((s : Int) - (lo + t))) + g ((s : Int) - (lo + u)) := rfl
            rw [es, show lo + ((u + 1 : Nat) : Int) = lo + (u : Int) + 1 by omega] at nx
            exact ⟨by omega, by omega, by omega, by omega, nx⟩
      have := inner ch.toNat 0 (by omega)
      rw [show lo + ((0 : Nat) : Int) = lo by omega] at this
      exact this
  exact outer 46 m (Nat.le_refl _) Fr.rf (fun a a0 a1 => by rw [if_pos (show a < ((46 : Nat) : Int) by omega)]; exact hv a a0 a1)
/-- how many of a set are among the first -/
def cnB (p : Int → Bool) : Nat → Nat
  | 0 => 0
  | k + 1 => cnB p k + (if p k = true then 1 else 0)
theorem cnB_le (p : Int → Bool) : ∀ k, cnB p k ≤ k
  | 0 => Nat.le_refl 0
  | k + 1 => by
    have := cnB_le p k
    show cnB p k + (if p k = true then 1 else 0) ≤ k + 1
    split <;> omega
theorem cnB_cup {p q : Int → Bool} : ∀ {k : Nat}, (∀ i, In k i → q i = true → p i = false) → cnB (cup p q) k = cnB p k + cnB q k
  | 0, _ => rfl
  | k + 1, h => by
    have ih := cnB_cup (k := k) (fun i hi => h i ⟨hi.1, by have := hi.2; omega⟩)
    have hk := h k ⟨by omega, by omega⟩
    show cnB (cup p q) k + (if (p k || q k) = true then 1 else 0) = cnB p k + (if p k = true then 1 else 0) + (cnB q k + (if q k = true then 1 else 0))
    rw [ih]
    cases hq : q k with
    | true => rw [hk hq]; simp; omega
    | false => cases hp : p k <;> simp <;> omega
theorem cnB_pos {p : Int → Bool} : ∀ {k : Nat}, (∃ i, In k i ∧ p i = true) → 0 < cnB p k
  | 0, h => by obtain ⟨i, hi, _⟩ := h; have := hi.1; have := hi.2; omega
  | k + 1, h => by
    obtain ⟨i, hi, hp⟩ := h
    show 0 < cnB p k + (if p k = true then 1 else 0)
    by_cases e : i = (k : Int)
    · rw [e] at hp; rw [if_pos hp]; omega
    · have := cnB_pos ⟨i, hi.cut e, hp⟩
      omega
theorem cnB_full {p : Int → Bool} : ∀ {k : Nat}, (∃ i, In k i ∧ p i = false) → cnB p k < k
  | 0, h => by obtain ⟨i, hi, _⟩ := h; have := hi.1; have := hi.2; omega
  | k + 1, h => by
    obtain ⟨i, hi, hp⟩ := h
    have h2 := cnB_le p k
    show cnB p k + (if p k = true then 1 else 0) < k + 1
    by_cases e : i = (k : Int)
    · rw [e] at hp; rw [hp]; simp; omega
    · have := cnB_full ⟨i, hi.cut e, hp⟩
      split <;> omega
theorem gro {t : Nat} (ht : t ≤ 5) : q_pt 47 (t : Int) = some (48 + t) ∧ q_lay (48 + t) = .inr (0, 46) := by
  have : t = 0 ∨ t = 1 ∨ t = 2 ∨ t = 3 ∨ t = 4 ∨ t = 5 := by omega
  rcases this with rfl | rfl | rfl | rfl | rfl | rfl <;> exact ⟨rfl, rfl⟩
theorem EL_none (B : BW n D W br) {p : Int → Bool} {th : Int → Int} {x : Int} {k i : Int} {t : Nat} (hi : In n i) (hm : mb x i = true) (ht : (t : Int) ≤ i) (h : th i = loB n D W br p i) (g : Int → Int) (a : Int) : EL n D W br p th x t g a = 0 := by
  unfold EL
  rw [ms_congr (F' := fun _ => 0) (fun h' _ => by rw [ind_no (fun q => by have := q.2.1 i hi hm ht; omega), Int.zero_mul]), ms_zero]
theorem pow10' {k : Nat} (hk : k ≤ 5) : (0 : Int) < 10 ^ k ∧ (10 : Int) ^ k ≤ 100000 := ⟨pow_pos' (by decide) k, pow10 hk⟩
theorem c_growBy (B : BW n D W br) (hb : isB b) (X : BX n D W br b m) {p q : Int → Bool} {th g : Int → Int} {x : Int} {t : Nat} (ht : t ≤ 4) (hx : Nxt n p x) (hth : ∀ i, In n i → p i = false → th i ≤ br i ∧ th i - loB n D W br p i = (if t = 0 then D i else wT n W i q))
    (hneg : ∀ a, a < 0 → g a = 0) (hg : ∀ a, 0 ≤ g a ∧ g a ≤ 10 ^ cnB p n) (hv : ∀ a, 0 ≤ a → a < 46 → m (48 + t) a = g a) :
    CI l G Y_Fire_growBy (d + 3) [.inr (.inr 45), .inr (.inr b), .inl (bs n p), .inl (bs n q), .inl x, .inl (t : Int)] m (fun z m' => Fr [49 + t] m m' ∧ ((z = 0 ∧ ∀ a, EL n D W br p th x 0 g a = 0) ∨ (z = 1 ∧ ∃ g' : Int → Int, (∀ a, a < 0 → g' a = 0) ∧ (∀ a, 0 ≤ g' a ∧ g' a ≤ 10 ^ cnB (cup p (mb x)) n) ∧ (∀ a, 0 ≤ a → a < 46 → m' (49 + t) a = g' a) ∧ ∀ a, EL n D W br p th x 0 g a = TL n D W br (cup p (mb x)) (loB n D W br p) g' a))) := by
  have hn5 := B.1
  have hx32 := hx.1.rng hn5
  obtain ⟨q1, l1⟩ := gro (t := t) (by omega)
  obtain ⟨q2, l2⟩ := gro (t := t + 1) (by omega)
  rw [show 48 + (t + 1) = 49 + t by omega] at q2 l2
  have hcup : cnB (cup p (mb x)) n = cnB p n + cnB (mb x) n := cnB_cup hx.2.2
  have hcle := cnB_le (cup p (mb x)) n
  refine e_Fire_growBy _ _ _ _ b hb (by omega) (fun _ _ _ _ _ => ⟨by omega, 49 + t, by omega, by rw [show (t : Int) + 1 = ((t + 1 : Nat) : Int) by omega]; exact q2, l2, 48 + t, by omega, q1, l1, by decide, ?_⟩)
  intro m1 e1
  have f1 : Fr [49 + t] m m1 := fun c hc => by rw [e1]; exact upC_ne (fun e => hc (by rw [e]; simp))
  have v1 : ∀ a, 0 ≤ a → a < 46 → m1 (49 + t) a = g a := fun a a0 a1 => by
    rw [e1, upC_row, if_pos (show 0 ≤ a ∧ a < 0 + 46 by omega), show (0 : Int) + (a - 0) = a by omega]
    exact hv a a0 a1
  have XF : ∀ m1, Fr [49 + t] m m1 → BX n D W br b m1 := fun m1 f => X.fr f (by rcases hb with rfl | rfl <;> simp <;> omega) (by rcases hb with rfl | rfl <;> simp <;> omega) (by rcases hb with rfl | rfl <;> simp <;> omega) (by rcases hb with rfl | rfl <;> simp <;> omega)
  have loop : ∀ (s k : Nat) (g1 : Int → Int) (m1 : MM), k + s = n → Fr [49 + t] m m1 → (∀ a, a < 0 → g1 a = 0) → (∀ a, 0 ≤ g1 a ∧ g1 a ≤ 10 ^ (cnB p n + cnB (mb x) k)) → (∀ a, 0 ≤ a → a < 46 → m1 (49 + t) a = g1 a) → (∀ a, EL n D W br p th x 0 g a = EL n D W br p th x k g1 a) → Wq l G false Y_Fire_growBy (d + 3) (QI fun z m' => Fr [49 + t] m m' ∧ ((z = 0 ∧ ∀ a, EL n D W br p th x 0 g a = 0) ∨ (z = 1 ∧ ∃ g' : Int → Int, (∀ a, a < 0 → g' a = 0) ∧ (∀ a, 0 ≤ g' a ∧ g' a ≤ 10 ^ cnB (cup p (mb x)) n) ∧ (∀ a, 0 ≤ a → a < 46 → m' (49 + t) a = g' a) ∧ ∀ a, EL n D W br p th x 0 g a = TL n D W br (cup p (mb x)) (loB n D W br p) g' a))) 30 [(1, .inr (.inr b)), (2, .inl (bs n p)), (3, .inl (bs n q)), (4, .inl x), (5, .inl (t : Int)), (6, .inr (.inr (49 + t))), (7, .inl (k : Int))] [] m1 := by
    intro s
    induction s with
    | zero =>
      intro k g1 m1 hk f hn1 hr1 hv1 he
      have ek : k = n := by omega
      subst ek
      refine s_Fire_growBy_30 _ _ _ _ _ b (49 + t) hb l2 (fun _ _ _ _ _ _ => ⟨fun _ => ⟨f, Or.inr ⟨rfl, g1, hn1, by rw [hcup]; exact hr1, hv1, fun a => by rw [he a, EL_end]⟩⟩, fun c => absurd (show (k : Int) ≥ m1 b 0 by rw [(XF m1 f).1]; omega) c⟩)
    | succ s ih =>
      intro k g1 m1 hk f hn1 hr1 hv1 he
      have hi : In n (k : Int) := ⟨by omega, by omega⟩
      have X1 := XF m1 f
      have hbit := bit_mb hx32 (i := (k : Int)) (by omega)
      have hlo := loB_rng B hi p
      have hb10 := B.br10 hi
      refine s_Fire_growBy_30 _ _ _ _ _ b (49 + t) hb l2 (fun _ _ _ _ _ _ => ⟨fun c => absurd c (by rw [X1.1]; omega), fun _ => ?_⟩)
      rw [hbit]
      cases hm : mb x k with
      | false =>
        refine ⟨fun _ => ⟨by omega, ?_⟩, fun c => absurd rfl c⟩
        have ec : cnB (mb x) (k + 1) = cnB (mb x) k := by
          show cnB (mb x) k + (if mb x k = true then 1 else 0) = _
          rw [hm]; rfl
        have nx := ih (k + 1) g1 m1 (by omega) f hn1 (by rw [ec]; exact hr1) hv1 (fun a => by rw [he a]; exact EL_skip hm g1 a)
        rw [show ((k + 1 : Nat) : Int) = (k : Int) + 1 by omega] at nx
        exact nx
      | true =>
        have ec : cnB (mb x) (k + 1) = cnB (mb x) k + 1 := by
          show cnB (mb x) k + (if mb x k = true then 1 else 0) = _
          rw [hm]; rfl
        have hpk := hx.2.2 k hi hm
        obtain ⟨ht1, ht2⟩ := hth k hi hpk
        have hmono : cnB (mb x) (k + 1) ≤ cnB (mb x) n := by
          have : ∀ s' : Nat, cnB (mb x) (k + 1) ≤ cnB (mb x) (k + 1 + s') := by
            intro s'
            induction s' with
            | zero => exact Nat.le_refl _
            | succ s' ihs =>
              have e : cnB (mb x) (k + 1 + (s' + 1)) = cnB (mb x) (k + 1 + s') + (if mb x ((k + 1 + s' : Nat) : Int) = true then 1 else 0) := rfl
              rw [e]
              split <;> omega
          have := this s
          rw [show k + 1 + s = n by omega] at this
          exact this
        have hpw := pow10' (k := cnB p n + cnB (mb x) k) (by omega)
        have ezero : th k = loB n D W br p k → ∀ a, EL n D W br p th x 0 g a = 0 := fun e a => by rw [he a]; exact EL_none B (k := 0) hi hm (Int.le_refl _) e g1 a
        have nx : ∀ (ch : Int), ch ≠ 0 → ch = th k - loB n D W br p k → ∀ m2, Fr [49 + t] m1 m2 → (∀ a, 0 ≤ a → a < 46 → m2 (49 + t) a = spr g1 (loB n D W br p k) (loB n D W br p k + ch) a) → 0 ≤ ch → Wq l G false Y_Fire_growBy (d + 3) (QI fun z m' => Fr [49 + t] m m' ∧ ((z = 0 ∧ ∀ a, EL n D W br p th x 0 g a = 0) ∨ (z = 1 ∧ ∃ g' : Int → Int, (∀ a, a < 0 → g' a = 0) ∧ (∀ a, 0 ≤ g' a ∧ g' a ≤ 10 ^ cnB (cup p (mb x)) n) ∧ (∀ a, 0 ≤ a → a < 46 → m' (49 + t) a = g' a) ∧ ∀ a, EL n D W br p th x 0 g a = TL n D W br (cup p (mb x)) (loB n D W br p) g' a))) 30 [(1, .inr (.inr b)), (2, .inl (bs n p)), (3, .inl (bs n q)), (4, .inl x), (5, .inl (t : Int)), (6, .inr (.inr (49 + t))), (7, .inl ((k : Int) + 1))] [] m2 := fun ch _ ech m2 f2 hv2 hc0 => by
          have := ih (k + 1) (spr g1 (loB n D W br p k) (th k)) m2 (by omega) (f.tr f2) (fun a ha => spr_neg hn1 hlo.1 ha) (fun a => by
            have := spr_rng (g := g1) (lo := loB n D W br p k) (hi := th k) (a := a) (M := 10 ^ (cnB p n + cnB (mb x) k)) hr1 (by omega) (by omega)
            rw [ec, ← Nat.add_assoc, Int.pow_succ]
            omega) (fun a a0 a1 => by rw [hv2 a a0 a1, show loB n D W br p k + ch = th k by omega]) (fun a => by rw [he a]; exact EL_step B hx (by omega) hm ⟨by omega, ht1⟩ g1 a)
          rw [show ((k + 1 : Nat) : Int) = (k : Int) + 1 by omega] at this
          exact this
        have hD := B.2.1 k hi
        have hwr := wT_rng B hi q n (Nat.le_refl _)
        refine ⟨fun c => absurd c (by decide), fun _ => ⟨fun c => ⟨d + 1, _, by omega, c_widthTo B hb X1 hi q, fun z m2 hz _ _ => ?_⟩, fun c => ?_⟩⟩
        · obtain ⟨rfl, rfl⟩ := hz
          rw [if_neg (show ¬ t = 0 by omega)] at ht2
          refine ⟨fun c2 => ⟨by omega, d + 2, _, by omega, c_widthToBurnt B hb X1 hi p, fun z m2 hz _ _ => ?_⟩, fun c2 => ⟨f, Or.inl ⟨rfl, ezero (by omega)⟩⟩⟩
          obtain ⟨rfl, rfl⟩ := hz
          rw [X1.2.2.1 k hi]
          have el : br (k : Int) - (D k + wT n W k p) = loB n D W br p k := rfl
          rw [el]
          refine ⟨by omega, d, _, by omega, c_spread l2 hn1 hr1 (by omega) (by omega) (by omega) hv1, fun m2 hm2 _ => ⟨by omega, nx _ c2 (by omega) m2 hm2.1 hm2.2 (by omega)⟩⟩
        · rw [if_pos (show t = 0 by omega)] at ht2
          rw [X1.2.1 k hi]
          refine ⟨by omega, fun c2 => ⟨by omega, d + 2, _, by omega, c_widthToBurnt B hb X1 hi p, fun z m2 hz _ _ => ?_⟩, fun c2 => ⟨f, Or.inl ⟨rfl, ezero (by omega)⟩⟩⟩
          obtain ⟨rfl, rfl⟩ := hz
          rw [X1.2.2.1 k hi]
          have el : br (k : Int) - (D k + wT n W k p) = loB n D W br p k := rfl
          rw [el]
          refine ⟨by omega, d, _, by omega, c_spread l2 hn1 hr1 (by omega) (by omega) (by omega) hv1, fun m2 hm2 _ => ⟨by omega, nx _ c2 (by omega) m2 hm2.1 hm2.2 (by omega)⟩⟩
  exact loop n 0 g m1 (by omega) f1 hneg (by show ∀ a, 0 ≤ g a ∧ g a ≤ 10 ^ (cnB p n + 0); rw [Nat.add_zero]; exact hg) v1 (fun _ => rfl)
end LevelX
