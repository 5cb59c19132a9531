/-! level of the class: countFrom, ofLevel -/
set_option maxRecDepth 100000 in
theorem sub_tab : ∀ L c x : Fin 32, bAnd (c.val : Int) (L.val : Int) = (c.val : Int) → bAnd (x.val : Int) (L.val : Int) = (x.val : Int) → x.val < c.val → (x.val : Int) ≤ bAnd ((c.val : Int) - 1) (L.val : Int) := by decide +kernel
theorem sub_tab2 : ∀ L c : Fin 32, (bAnd (c.val : Int) (L.val : Int) = (c.val : Int) → c.val ≤ L.val) ∧ (c.val ≠ 0 → bAnd ((c.val : Int) - 1) (L.val : Int) < (c.val : Int) ∧ 0 ≤ bAnd ((c.val : Int) - 1) (L.val : Int) ∧ bAnd (bAnd ((c.val : Int) - 1) (L.val : Int)) (L.val : Int) = bAnd ((c.val : Int) - 1) (L.val : Int)) := by decide +kernel
section LevelX2
variable {l : Launch} {G : GT} {d : Nat} {m : MM} {b : Nat} {n : Nat} {D : Int → Int} {W : Int → Int → Int} {br : Int → Int}
theorem wT_cup {i : Int} {p q : Int → Bool} (h : ∀ j, In n j → q j = true → p j = false) : wT n W i (cup p q) = wT n W i p + wT n W i q := by
  unfold wT
  rw [← sm_add]
  refine sm_congr (fun j hj => ?_)
  show (if (p j || q j) = true then W i j else 0) = (if p j = true then W i j else 0) + (if q j = true then W i j else 0)
  cases hq : q j with
  | true => rw [h j hj hq]; simp
  | false => cases hp : p j <;> simp
theorem sub_bs (hn : n ≤ 5) {x : Int} (hx : Sub n x) : x = bs n (mb x) := bs_mb hn (hx.rng hn) (fun i i0 i5 q => by
  cases hmx : mb x i with
  | false => rfl
  | true =>
    exfalso
    obtain ⟨t, rfl⟩ : ∃ t : Nat, i = (t : Int) := ⟨i.toNat, by omega⟩
    have := (full_1 hn).2.2 x hx.1 hx.2 t (by omega) hmx
    omega)
theorem nxt_iff (hn : n ≤ 5) {p : Int → Bool} {x : Int} (hx : 0 ≤ x ∧ x < 32) : Nxt n p x ↔ x ≠ 0 ∧ bAnd x (bs n (fun i => true && !p i)) = x := by
  have hL := bs5_range hn (fun i => true && !p i)
  have hand := mb_and hx hL
  have hmL : ∀ i, 0 ≤ i → i < 5 → mb (bs n (fun i => true && !p i)) i = (decide (i < (n : Int)) && (true && !p i)) := fun i i0 i5 => mb_bs hn _ i0 i5
  constructor
  · intro h
    refine ⟨h.2.1, mb_ext hand.1 hx (fun i i0 i5 => ?_)⟩
    rw [hand.2 i i0 i5, hmL i i0 i5]
    cases hm : mb x i with
    | false => rfl
    | true =>
      obtain ⟨t, rfl⟩ : ∃ t : Nat, i = (t : Int) := ⟨i.toNat, by omega⟩
      have h1 := (full_1 hn).2.2 x h.1.1 h.1.2 t (by omega) hm
      have h2 := h.2.2 t ⟨i0, by omega⟩ hm
      rw [h2]
      have h3 : (t : Int) < (n : Int) := by omega
      simp [h3]
  · intro h
    have key : ∀ i, 0 ≤ i → i < 5 → mb x i = true → i < (n : Int) ∧ p i = false := fun i i0 i5 hm => by
      have h1 := hand.2 i i0 i5
      rw [h.2, hm, hmL i i0 i5] at h1
      have h2 := h1.symm
      rw [Bool.true_and, Bool.and_eq_true, decide_eq_true_eq, Bool.true_and, Bool.not_eq_true'] at h2
      exact h2
    have ex : x = bs n (mb x) := bs_mb hn hx (fun i i0 i5 q => by
      cases hmx : mb x i with
      | false => rfl
      | true => exact absurd (key i i0 i5 hmx).1 q)
    refine ⟨⟨hx.1, ?_⟩, h.1, fun i hi hm => (key i hi.1 (by have := hi.2; omega) hm).2⟩
    rw [ex]
    exact sm_le (fun i hi => by
      show (if mb x i = true then pw i else 0) ≤ (if true = true then pw i else 0)
      have := pw_rng (j := i)
      rw [if_pos rfl]
      split <;> omega)
noncomputable def UL (n : Nat) (D : Int → Int) (W : Int → Int → Int) (br : Int → Int) (p : Int → Bool) (th g : Int → Int) (c a : Int) : Int := sm 32 (fun x => if c < x then ind (Nxt n p x) * EL n D W br p th x 0 g a else 0)
theorem EL_nonneg {p : Int → Bool} {th g : Int → Int} {x a : Int} {k : Nat} (hg : ∀ a, 0 ≤ g a) : 0 ≤ EL n D W br p th x k g a := ms_nonneg (fun h _ => Int.mul_nonneg (ind_rng _).1 (hg _))
theorem UL_le {p : Int → Bool} {th g : Int → Int} {c c' a : Int} (hg : ∀ a, 0 ≤ g a) (h : c' ≤ c) : UL n D W br p th g c a ≤ UL n D W br p th g c' a := sm_le (fun x _ => by
  show (if c < x then _ else 0) ≤ (if c' < x then _ else 0)
  have := Int.mul_nonneg (ind_rng (Nxt n p x)).1 (EL_nonneg (n := n) (D := D) (W := W) (br := br) (p := p) (th := th) (x := x) (a := a) (k := 0) hg)
  by_cases q : c < x
  · rw [if_pos q, if_pos (by omega)]; exact Int.le_refl _
  · rw [if_neg q]; split <;> omega)
theorem c_countLeaf (B : BW n D W br) (hb : isB b) {p q : Int → Bool} {th g : Int → Int} {t : Nat} (ht : t ≤ 5) (X : BX n D W br b m) (hall : ∀ i, In n i → p i = true) (hv : ∀ a, 0 ≤ a → a < 46 → m (48 + t) a = g a) (hg : ∀ a, 0 ≤ g a) (hbd : ∀ a, 0 ≤ a → a < 46 → 0 ≤ m 46 a ∧ m 46 a + TL n D W br p th g a ≤ 1000000) : CV l G Y_Fire_countFrom d [.inr (.inr 45), .inr (.inr b), .inl (bs n p), .inl (bs n q), .inl (t : Int)] m (fun m' => Fr [46, 49, 50, 51, 52, 53] m m' ∧ (∀ j : Nat, j ≤ t → m' (48 + j) = m (48 + j)) ∧ ∀ a, 0 ≤ a → a < 46 → m' 46 a = m 46 a + TL n D W br p th g a) := by
  have hn5 := B.1
  obtain ⟨q1, l1⟩ := gro (t := t) ht
  have hf := bs5_range hn5 (fun _ => true)
  refine e_Fire_countFrom _ _ _ b hb (fun _ _ _ _ => ?_)
  rw [X.1, bs_full hn5, bs_diff2 hn5]
  have e0 : bs n (fun i => true && !p i) = 0 := by
    rw [← bs_none (n := n)]
    exact bs_congr (fun i hi => by rw [hall i hi]; rfl)
  rw [e0]
  refine ⟨by omega, fun c => absurd rfl c, fun _ => ?_⟩
  have loop : ∀ (s : Nat) (i : Int) (m1 : MM), i + s = 46 → 0 ≤ i → Fr [46] m m1 → (∀ a, 0 ≤ a → a < 46 → m1 46 a = if a < i then m 46 a + g a else m 46 a) → Wq l G false Y_Fire_countFrom d (QV fun m' => Fr [46, 49, 50, 51, 52, 53] m m' ∧ (∀ j : Nat, j ≤ t → m' (48 + j) = m (48 + j)) ∧ ∀ a, 0 ≤ a → a < 46 → m' 46 a = m 46 a + TL n D W br p th g a) 22 [(0, .inr (.inr 45)), (4, .inl (t : Int)), (6, .inl i)] [] m1 := by
    intro s
    induction s with
    | zero =>
      intro i m1 hi i0 f h1
      refine s_Fire_countFrom_22 _ _ (fun _ _ _ => ⟨fun _ => ⟨f.mono (by simp), fun j hj => f (48 + j) (by simp; omega), fun a a0 a1 => ?_⟩, fun c => absurd (show i ≥ 46 by omega) c⟩)
      rw [h1 a a0 a1, if_pos (by omega), TL_leaf B hall]
    | succ s ih =>
      intro i m1 hi i0 f h1
      have hb1 := hbd i i0 (by omega)
      rw [TL_leaf B hall] at hb1
      have e1 : m1 46 i = m 46 i := by rw [h1 i i0 (by omega), if_neg (by omega)]
      have e2 : m1 (48 + t) i = g i := by rw [f (48 + t) (by simp; omega)]; exact hv i i0 (by omega)
      have hgi := hg i
      refine s_Fire_countFrom_22 _ _ (fun _ _ _ => ⟨fun c => absurd c (by omega), fun _ => ⟨by omega, 48 + t, by omega, q1, l1, by omega, by rw [e1, e2]; omega, by omega, ?_⟩⟩)
      rw [e1, e2]
      intro m2 em
      refine ⟨by omega, ih (i + 1) m2 (by omega) (by omega) (by rw [em]; exact Fr_up f (by simp)) (fun a a0 a1 => ?_)⟩
      rw [em, up_row]
      by_cases c : a = i
      · rw [if_pos c, if_pos (by omega), c]
      · rw [if_neg c, h1 a a0 a1]
        by_cases c2 : a < i
        · rw [if_pos c2, if_pos (by omega)]
        · rw [if_neg c2, if_neg (by omega)]
  exact loop 46 0 m (by omega) (Int.le_refl 0) Fr.rf (fun a a0 a1 => by rw [if_neg (by omega)])
theorem c_countFrom (B : BW n D W br) (hb : isB b) : ∀ (s : Nat) {d : Nat} {m : MM} {p q : Int → Bool} {th g : Int → Int} {t : Nat}, n ≤ cnB p n + s → t ≤ cnB p n → BX n D W br b m → (∀ i, In n i → p i = false → th i ≤ br i ∧ th i - loB n D W br p i = (if t = 0 then D i else wT n W i q)) → (∀ a, a < 0 → g a = 0) → (∀ a, 0 ≤ g a ∧ g a ≤ 10 ^ cnB p n) → (∀ a, 0 ≤ a → a < 46 → m (48 + t) a = g a) → (∀ a, 0 ≤ a → a < 46 → 0 ≤ m 46 a ∧ m 46 a + TL n D W br p th g a ≤ 1000000) → CV l G Y_Fire_countFrom (d + 2 * s + 5) [.inr (.inr 45), .inr (.inr b), .inl (bs n p), .inl (bs n q), .inl (t : Int)] m (fun m' => Fr [46, 49, 50, 51, 52, 53] m m' ∧ (∀ j : Nat, j ≤ t → m' (48 + j) = m (48 + j)) ∧ ∀ a, 0 ≤ a → a < 46 → m' 46 a = m 46 a + TL n D W br p th g a) := by
  have hn5 := B.1
  intro s
  induction s with
  | zero =>
    intro d m p q th g t hs ht X hth hneg hg hv hbd
    have hcl := cnB_le p n
    exact c_countLeaf B hb (by omega) X (fun i hi => by
      cases hp : p i with
      | true => rfl
      | false => have := cnB_full ⟨i, hi, hp⟩; omega) hv (fun a => (hg a).1) hbd
  | succ s ih =>
    intro d m p q th g t hs ht X hth hneg hg hv hbd
    have hcl := cnB_le p n
    by_cases hall : ∀ i, In n i → p i = true
    · exact c_countLeaf B hb (by omega) X hall hv (fun a => (hg a).1) hbd
    · have hex : ∃ i, In n i ∧ p i = false := by
        apply Classical.byContradiction
        intro c
        exact hall (fun i hi => by
          cases hp : p i with
          | true => rfl
          | false => exact absurd ⟨i, hi, hp⟩ c)
      have hlt := cnB_full hex
      have hf := bs5_range hn5 (fun _ => true)
      have hg0 : ∀ a, 0 ≤ g a := fun a => (hg a).1
      have hlo : ∀ i, In n i → p i = false → loB n D W br p i ≤ th i := fun i hi hp => by
        have h1 := (hth i hi hp).2
        have h2 := (wT_rng B hi q n (Nat.le_refl _)).1
        have h3 := (B.2.1 i hi).1
        split at h1 <;> omega
      refine e_Fire_countFrom _ _ _ b hb (fun _ _ _ _ => ?_)
      rw [X.1, bs_full hn5, bs_diff2 hn5]
      have hL := bs5_range hn5 (fun i => true && !p i)
      have hL0 : bs n (fun i => true && !p i) ≠ 0 := fun e => by
        obtain ⟨i, hi, hp⟩ := hex
        rw [← bs_none (n := n)] at e
        have := bs_eq hn5 e i hi
        rw [hp] at this
        exact absurd this (by decide)
      have hnx : ∀ {x : Int}, (0 ≤ x ∧ x < 32) → (Nxt n p x ↔ x ≠ 0 ∧ bAnd x (bs n (fun i => true && !p i)) = x) := fun hx => nxt_iff hn5 hx
      generalize bs n (fun i => true && !p i) = L at hL hL0 hnx
      obtain ⟨fL, eL⟩ := fin_of (k := 32) hL.1 hL.2
      refine ⟨by omega, fun _ => ⟨fun _ => ?_, fun c => absurd (show (t : Int) < 5 by omega) c⟩, fun c => absurd hL0 c⟩
      have U0 : ∀ a, UL n D W br p th g 0 a = TL n D W br p th g a := fun a => by
        rw [TL_split B hlo hex]
        refine sm_congr (fun x hx => ?_)
        show (if 0 < x then _ else 0) = _
        by_cases c : 0 < x
        · rw [if_pos c]
        · have : x = 0 := by have := hx.1; omega
          rw [if_neg c, ind_no (fun h => h.2.1 this), Int.zero_mul]
      have loop : ∀ (k : Nat) (c : Int) (m1 : MM), c ≤ k → 0 ≤ c → c < 32 → bAnd c L = c → Fr [46, 49, 50, 51, 52, 53] m m1 → (∀ j : Nat, j ≤ t → m1 (48 + j) = m (48 + j)) → (∀ a, 0 ≤ a → a < 46 → m1 46 a = m 46 a + UL n D W br p th g c a) → Wq l G false Y_Fire_countFrom (d + 2 * (s + 1) + 5) (QV fun m' => Fr [46, 49, 50, 51, 52, 53] m m' ∧ (∀ j : Nat, j ≤ t → m' (48 + j) = m (48 + j)) ∧ ∀ a, 0 ≤ a → a < 46 → m' 46 a = m 46 a + TL n D W br p th g a) 67 [(0, .inr (.inr 45)), (1, .inr (.inr b)), (2, .inl (bs n p)), (3, .inl (bs n q)), (4, .inl (t : Int)), (5, .inl L), (6, .inl c)] [] m1 := by
        intro k
        induction k with
        | zero =>
          intro c m1 hck c0 c32 hcL f1 fj h1
          have ec : c = 0 := by omega
          rw [ec] at h1 ⊢
          exact s_Fire_countFrom_67 _ _ _ _ _ b hb (fun _ _ _ _ _ _ => ⟨fun _ => ⟨f1, fj, fun a a0 a1 => by rw [h1 a a0 a1, U0 a]⟩, fun q => absurd (Int.le_refl 0) q⟩)
        | succ k ihk =>
          intro c m1 hck c0 c32 hcL f1 fj h1
          by_cases ec : c = 0
          · rw [ec] at h1 ⊢
            exact s_Fire_countFrom_67 _ _ _ _ _ b hb (fun _ _ _ _ _ _ => ⟨fun _ => ⟨f1, fj, fun a a0 a1 => by rw [h1 a a0 a1, U0 a]⟩, fun q => absurd (Int.le_refl 0) q⟩)
          · have hN : Nxt n p c := (hnx ⟨c0, c32⟩).mpr ⟨ec, hcL⟩
            have X1 : BX n D W br b m1 := X.fr f1 (by rcases hb with rfl | rfl <;> decide) (by rcases hb with rfl | rfl <;> decide) (by rcases hb with rfl | rfl <;> decide) (by rcases hb with rfl | rfl <;> decide)
            obtain ⟨fc, ecc⟩ := fin_of (k := 32) c0 c32
            obtain ⟨-, tb⟩ := sub_tab2 fL fc
            obtain ⟨t1, t2, t3⟩ := tb (by omega)
            rw [← eL, ← ecc] at t1 t2 t3
            have ustep : ∀ a, UL n D W br p th g (bAnd (c - 1) L) a = UL n D W br p th g c a + EL n D W br p th c 0 g a := fun a => by
              have e : EL n D W br p th c 0 g a = sm 32 (fun x => if x = c then EL n D W br p th c 0 g a else 0) := by rw [sm_one, if_pos ⟨c0, by omega⟩]
              rw [e]
              unfold UL
              rw [← sm_add]
              refine sm_congr (fun x hx => ?_)
              show (if bAnd (c - 1) L < x then _ else 0) = (if c < x then _ else 0) + (if x = c then _ else 0)
              by_cases q1 : c < x
              · rw [if_pos (by omega), if_pos q1, if_neg (by omega)]; omega
              · by_cases q2 : x = c
                · rw [q2, if_pos t1, if_neg (by omega), if_pos rfl, ind_yes hN]; omega
                · rw [if_neg q1, if_neg q2]
                  by_cases q3 : bAnd (c - 1) L < x
                  · rw [if_pos q3]
                    by_cases q4 : Nxt n p x
                    · exfalso
                      have hx32 : 0 ≤ x ∧ x < 32 := ⟨hx.1, by have := hx.2; omega⟩
                      obtain ⟨fx, exx⟩ := fin_of (k := 32) hx32.1 hx32.2
                      have h5 := ((hnx hx32).mp q4).2
                      have h6 := sub_tab fL fc fx (by rw [← eL, ← ecc]; exact hcL) (by rw [← eL, ← exx]; exact h5) (by omega)
                      rw [← eL, ← ecc, ← exx] at h6
                      omega
                    · rw [ind_no q4, Int.zero_mul]; rfl
                  · rw [if_neg q3]; rfl
            have nx : ∀ m2, Fr [46, 49, 50, 51, 52, 53] m m2 → (∀ j : Nat, j ≤ t → m2 (48 + j) = m (48 + j)) → (∀ a, 0 ≤ a → a < 46 → m2 46 a = m1 46 a + EL n D W br p th c 0 g a) → Wq l G false Y_Fire_countFrom (d + 2 * (s + 1) + 5) (QV fun m' => Fr [46, 49, 50, 51, 52, 53] m m' ∧ (∀ j : Nat, j ≤ t → m' (48 + j) = m (48 + j)) ∧ ∀ a, 0 ≤ a → a < 46 → m' 46 a = m 46 a + TL n D W br p th g a) 67 [(0, .inr (.inr 45)), (1, .inr (.inr b)), (2, .inl (bs n p)), (3, .inl (bs n q)), (4, .inl (t : Int)), (5, .inl L), (6, .inl (bAnd (c - 1) L))] [] m2 := fun m2 f2 fj2 h2 => ihk _ m2 (by omega) t2 (by omega) t3 f2 fj2 (fun a a0 a1 => by rw [h2 a a0 a1, h1 a a0 a1, ustep a]; omega)
            refine s_Fire_countFrom_67 _ _ _ _ _ b hb (fun _ _ _ _ _ _ => ⟨fun q => absurd q (by omega), fun _ => ⟨d + 2 * s + 6, fun m2 => Fr [46, 49, 50, 51, 52, 53] m m2 ∧ (∀ j : Nat, j ≤ t → m2 (48 + j) = m (48 + j)) ∧ ∀ a, 0 ≤ a → a < 46 → m2 46 a = m1 46 a + EL n D W br p th c 0 g a, by omega, ?_, fun m2 h2 _ => ⟨by omega, nx m2 h2.1 h2.2.1 h2.2.2⟩⟩⟩)
            refine e_Fire_countWith _ _ _ _ b hb (fun _ _ _ _ _ => ⟨d + 3, _, by omega, c_growBy B hb X1 (th := th) (g := g) (by omega) hN hth hneg hg (fun a a0 a1 => by rw [fj t (Nat.le_refl _)]; exact hv a a0 a1), fun z m2 hz _ _ => ?_⟩)
            obtain ⟨f2, hz⟩ := hz
            have f12 : Fr [46, 49, 50, 51, 52, 53] m m2 := f1.tr (f2.mono (fun y hy => by simp only [List.mem_cons, List.not_mem_nil, or_false] at hy ⊢; omega))
            have fj12 : ∀ j : Nat, j ≤ t → m2 (48 + j) = m (48 + j) := fun j hj => by rw [f2 (48 + j) (by simp; omega)]; exact fj j hj
            have e46 : m2 46 = m1 46 := f2 46 (by simp; omega)
            rcases hz with ⟨hz0, hE⟩ | ⟨hz1, g', hn', hg', hv', hE⟩
            · exact ⟨fun _ => ⟨f12, fj12, fun a a0 a1 => by rw [e46, hE a]; omega⟩, fun q => absurd hz0 q⟩
            · refine ⟨fun q => absurd q (by omega), fun _ => ⟨by omega, ?_⟩⟩
              have hxb := sub_bs hn5 hN.1
              have hcup : cnB (cup p (mb c)) n = cnB p n + cnB (mb c) n := cnB_cup hN.2.2
              have hpos : 0 < cnB (mb c) n := cnB_pos (by
                have h32 := hN.1.rng hn5
                have h5 := ((nt_1 h32).2.1 hN.2.1).2
                have h6 := nt_2 h32 h5 (by decide)
                have h7 := hN.1.nt hn5 h5
                exact ⟨_, ⟨by omega, by omega⟩, h6.1.2⟩)
              have hcl2 := cnB_le (cup p (mb c)) n
              have eor : bOr (bs n p) c = bs n (cup p (mb c)) := by
                have := bs_or2 hn5 p (mb c)
                rw [← hxb] at this
                exact this
              have X2 : BX n D W br b m2 := X.fr f12 (by rcases hb with rfl | rfl <;> decide) (by rcases hb with rfl | rfl <;> decide) (by rcases hb with rfl | rfl <;> decide) (by rcases hb with rfl | rfl <;> decide)
              have cf := ih (d := d) (m := m2) (p := cup p (mb c)) (q := mb c) (th := loB n D W br p) (g := g') (t := t + 1) (by omega) (by omega) X2 (fun i hi hp => ⟨(loB_rng B hi p).2, by
                rw [if_neg (by omega)]
                have := wT_cup (W := W) (i := i) hN.2.2
                unfold loB
                omega⟩) hn' hg' (fun a a0 a1 => by rw [show 48 + (t + 1) = 49 + t by omega]; exact hv' a a0 a1) (fun a a0 a1 => by
                have b1 := hbd a a0 a1
                have b2 := UL_le (n := n) (D := D) (W := W) (br := br) (p := p) (th := th) (a := a) hg0 (show (0 : Int) ≤ bAnd (c - 1) L from t2)
                have b3 := UL_le (n := n) (D := D) (W := W) (br := br) (p := p) (th := th) (a := a) hg0 (show c ≤ 31 by omega)
                have b4 : UL n D W br p th g 31 a = 0 := by
                  unfold UL
                  rw [sm_congr (g := fun _ => 0) (fun x hx => if_neg (by have := hx.2; omega)), sm_zero]
                rw [U0 a, ustep a] at b2
                rw [e46, h1 a a0 a1, ← hE a]
                omega)
              rw [← eor, ← hxb, show ((t + 1 : Nat) : Int) = (t : Int) + 1 by omega] at cf
              refine ⟨d + 2 * s + 5, _, by omega, cf, fun m3 hm3 _ => ?_⟩
              obtain ⟨f3, fj3, h3⟩ := hm3
              exact ⟨f12.tr f3, fun j hj => by rw [fj3 j (by omega)]; exact fj12 j hj, fun a a0 a1 => by rw [h3 a a0 a1, e46, hE a]⟩
      have hself : bAnd L L = L := by
        have : ∀ x : Fin 32, bAnd (x.val : Int) (x.val : Int) = (x.val : Int) := by decide +kernel
        rw [eL]; exact this fL
      refine loop 32 L m (by omega) hL.1 hL.2 hself Fr.rf (fun _ _ => rfl) (fun a a0 a1 => ?_)
      have : UL n D W br p th g L a = 0 := by
        unfold UL
        rw [sm_congr (g := fun _ => 0) (fun x hx => ?_), sm_zero]
        show (if L < x then _ else 0) = 0
        by_cases c : L < x
        · rw [if_pos c, ind_no (fun h => ?_), Int.zero_mul]
          have hx32 : 0 ≤ x ∧ x < 32 := ⟨hx.1, by have := hx.2; omega⟩
          obtain ⟨fx, exx⟩ := fin_of (k := 32) hx32.1 hx32.2
          have h5 := ((hnx hx32).mp h).2
          have := (sub_tab2 fL fx).1 (by rw [← eL, ← exx]; exact h5)
          omega
        · rw [if_neg c]
      rw [this]; omega
end LevelX2
