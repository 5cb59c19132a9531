/-! duel of both -/
def rsk (G0 G1 : Int → Int → Int) (a b : Int) : Nat → Bool
  | 0 => true
  | k + 1 => rsk G0 G1 a b k && (decide (G0 k b ≤ G0 a b) && decide (G1 a k ≤ G1 a b))
def rsb (G0 G1 : Int → Int → Int) (v : Nat) : Bool := rsk G0 G1 ((v : Int) / 4) ((v : Int) % 4) 4
def DuS (B : Nat → Bool) (k : Nat) (z c : Int) (L : Int → Int) : Prop :=
  ((z = 0 ∧ c = 0 ∧ ∀ w, w < k → B w = false) ∨ (0 < z ∧ c = 2 ∧ ∃ v : Nat, v < k ∧ B v = true ∧ (∀ w, w < v → B w = false) ∧ L 0 = (v : Int) / 4 ∧ L 1 = (v : Int) % 4)) ∧ z = sm k (fun i => if B i.toNat = true then 1 else 0)
/-- what duel answers, and what it lays down -/
def DuR (n : Nat) (W : Int → Int → Int) (br g : Int → Int) (p o z c : Int) (L : Int → Int) : Prop :=
  ∃ G0 G1 : Int → Int → Int, (∀ a b, 0 ≤ a → a < 4 → 0 ≤ b → b < 4 → ∃ u, Stb n W br (fun i => g i + (if i = p then a else 0) + (if i = o then b else 0)) u ∧ G0 a b = u p - a ∧ G1 a b = u o - b) ∧ DuS (rsb G0 G1) 16 z c L
theorem rsk_congr {G0 G1 H0 H1 : Int → Int → Int} {a b c0 c1 : Int} (ha : 0 ≤ a ∧ a < 4) (hb : 0 ≤ b ∧ b < 4) (h0 : ∀ a b, 0 ≤ a → a < 4 → 0 ≤ b → b < 4 → H0 a b = G0 a b + c0) (h1 : ∀ a b, 0 ≤ a → a < 4 → 0 ≤ b → b < 4 → H1 a b = G1 a b + c1) : ∀ k : Nat, k ≤ 4 → rsk H0 H1 a b k = rsk G0 G1 a b k
  | 0, _ => rfl
  | k + 1, hk => by
    show (rsk H0 H1 a b k && (decide (H0 k b ≤ H0 a b) && decide (H1 a k ≤ H1 a b))) = (rsk G0 G1 a b k && (decide (G0 k b ≤ G0 a b) && decide (G1 a k ≤ G1 a b)))
    rw [rsk_congr ha hb h0 h1 k (by omega), h0 a b ha.1 ha.2 hb.1 hb.2, h1 a b ha.1 ha.2 hb.1 hb.2, h0 k b (by omega) (by omega) hb.1 hb.2, h1 a k ha.1 ha.2 (by omega) (by omega)]
    have e1 : decide (G0 k b + c0 ≤ G0 a b + c0) = decide (G0 k b ≤ G0 a b) := by
      by_cases q : G0 k b ≤ G0 a b
      · rw [decide_eq_true q, decide_eq_true (by omega)]
      · rw [decide_eq_false q, decide_eq_false (by omega)]
    have e2 : decide (G1 a k + c1 ≤ G1 a b + c1) = decide (G1 a k ≤ G1 a b) := by
      by_cases q : G1 a k ≤ G1 a b
      · rw [decide_eq_true q, decide_eq_true (by omega)]
      · rw [decide_eq_false q, decide_eq_false (by omega)]
    rw [e1, e2]
theorem rsb_congr {G0 G1 H0 H1 : Int → Int → Int} {c0 c1 : Int} (h0 : ∀ a b, 0 ≤ a → a < 4 → 0 ≤ b → b < 4 → H0 a b = G0 a b + c0) (h1 : ∀ a b, 0 ≤ a → a < 4 → 0 ≤ b → b < 4 → H1 a b = G1 a b + c1) {v : Nat} (hv : v < 16) : rsb H0 H1 v = rsb G0 G1 v := rsk_congr (by omega) (by omega) h0 h1 4 (by omega)
theorem DuS.congr {A B : Nat → Bool} {k : Nat} {z c : Int} {L : Int → Int} (e : ∀ v, v < k → A v = B v) (h : DuS A k z c L) : DuS B k z c L := by
  obtain ⟨h1, h2⟩ := h
  refine ⟨?_, by rw [h2]; exact sm_congr (fun i hi => by rw [e i.toNat (by have := hi.1; have := hi.2; omega)])⟩
  rcases h1 with ⟨a1, a2, a3⟩ | ⟨a1, a2, v, v1, v2, v3, v4, v5⟩
  · exact Or.inl ⟨a1, a2, fun w hw => by rw [← e w hw]; exact a3 w hw⟩
  · exact Or.inr ⟨a1, a2, v, v1, by rw [← e v v1]; exact v2, fun w hw => by rw [← e w (by omega)]; exact v3 w hw, v4, v5⟩
theorem DuS.uniq {B : Nat → Bool} {k : Nat} {z c z' c' : Int} {L L' : Int → Int} (h : DuS B k z c L) (h' : DuS B k z' c' L') : z = z' ∧ c = c' ∧ ∀ i, 0 ≤ i → i < c → L i = L' i := by
  have ez : z = z' := by rw [h.2, h'.2]
  obtain ⟨h1, -⟩ := h
  obtain ⟨h2, -⟩ := h'
  rcases h1 with ⟨a1, a2, a3⟩ | ⟨a1, a2, v, v1, v2, v3, v4, v5⟩
  · rcases h2 with ⟨b1, b2, b3⟩ | ⟨b1, b2, w, w1, w2, w3, w4, w5⟩
    · exact ⟨ez, by omega, fun i i0 i1 => by omega⟩
    · omega
  · rcases h2 with ⟨b1, b2, b3⟩ | ⟨b1, b2, w, w1, w2, w3, w4, w5⟩
    · omega
    · have evw : v = w := by
        rcases Nat.lt_trichotomy v w with q | q | q
        · exact absurd v2 (by rw [w3 v q]; decide)
        · exact q
        · exact absurd w2 (by rw [v3 w q]; decide)
      subst evw
      refine ⟨ez, by omega, fun i i0 i1 => ?_⟩
      have : i = 0 ∨ i = 1 := by omega
      rcases this with rfl | rfl
      · rw [v4, w4]
      · rw [v5, w5]
theorem DuS.start {B : Nat → Bool} {L : Int → Int} : DuS B 0 0 0 L := ⟨Or.inl ⟨rfl, rfl, fun w hw => absurd hw (by omega)⟩, rfl⟩
theorem sm_next {k : Nat} {f : Int → Int} : sm (k + 1) f = sm k f + f k := rfl
theorem DuS.no {B : Nat → Bool} {k : Nat} {z c : Int} {L : Int → Int} (h : DuS B k z c L) (hk : B k = false) : DuS B (k + 1) z c L := by
  obtain ⟨h1, h2⟩ := h
  refine ⟨?_, ?_⟩
  · rcases h1 with ⟨a1, a2, a3⟩ | ⟨a1, a2, v, v1, v2, v3, v4, v5⟩
    · refine Or.inl ⟨a1, a2, fun w hw => ?_⟩
      by_cases e : w = k
      · rw [e]; exact hk
      · exact a3 w (by omega)
    · exact Or.inr ⟨a1, a2, v, by omega, v2, v3, v4, v5⟩
  · rw [sm_next, Int.toNat_natCast, hk, if_neg (by decide), h2]
    omega
theorem DuS.more {B : Nat → Bool} {k : Nat} {z c : Int} {L : Int → Int} (h : DuS B k z c L) (hk : B k = true) (hz : z ≠ 0) : DuS B (k + 1) (z + 1) c L := by
  obtain ⟨h1, h2⟩ := h
  refine ⟨?_, ?_⟩
  · rcases h1 with ⟨a1, a2, a3⟩ | ⟨a1, a2, v, v1, v2, v3, v4, v5⟩
    · exact absurd a1 hz
    · exact Or.inr ⟨by omega, a2, v, by omega, v2, v3, v4, v5⟩
  · rw [sm_next, Int.toNat_natCast, hk, if_pos rfl, h2]
theorem DuS.first {B : Nat → Bool} {k : Nat} {z c : Int} {L L' : Int → Int} (h : DuS B k z c L) (hk : B k = true) (hz : z = 0) (h0 : L' 0 = (k : Int) / 4) (h1 : L' 1 = (k : Int) % 4) : DuS B (k + 1) (z + 1) 2 L' := by
  obtain ⟨h3, h2⟩ := h
  refine ⟨?_, ?_⟩
  · rcases h3 with ⟨a1, a2, a3⟩ | ⟨a1, a2, v, v1, v2, v3, v4, v5⟩
    · exact Or.inr ⟨by omega, rfl, k, by omega, hk, a3, h0, h1⟩
    · omega
  · rw [sm_next, Int.toNat_natCast, hk, if_pos rfl, h2]
theorem DuR.uniq {n : Nat} {W : Int → Int → Int} {br g h : Int → Int} {p o z c z' c' : Int} {L L' : Int → Int} (hp : In n p) (ho : In n o) (e : ∀ i, In n i → g i = h i) (h1 : DuR n W br g p o z c L) (h2 : DuR n W br h p o z' c' L') : z = z' ∧ c = c' ∧ ∀ i, 0 ≤ i → i < c → L i = L' i := by
  obtain ⟨G0, G1, hG, hs⟩ := h1
  obtain ⟨H0, H1, hH, ht⟩ := h2
  have key : ∀ a b, 0 ≤ a → a < 4 → 0 ≤ b → b < 4 → H0 a b = G0 a b + 0 ∧ H1 a b = G1 a b + 0 := fun a b a0 a4 b0 b4 => by
    obtain ⟨u, hu, u1, u2⟩ := hG a b a0 a4 b0 b4
    obtain ⟨v, hv, v1, v2⟩ := hH a b a0 a4 b0 b4
    have huv := hu.uniq (hv.congr (fun i hi => by rw [e i hi]))
    rw [u1, u2, v1, v2, huv p hp, huv o ho]
    omega
  have ht2 := ht.congr (fun v hv => rsb_congr (fun a b a0 a4 b0 b4 => (key a b a0 a4 b0 b4).1) (fun a b a0 a4 b0 b4 => (key a b a0 a4 b0 b4).2) hv)
  exact hs.uniq ht2
section Duel
variable {l : Launch} {G : GT} {d : Nat} {m : MM} {b : Nat} {n : Nat} {D : Int → Int} {W : Int → Int → Int} {br : Int → Int}
theorem c_gainAt {x y w : Int} (hx : 0 ≤ x ∧ x < 4) (hy : 0 ≤ y ∧ y < 4) (hw : 0 ≤ w ∧ w < 2) : CI l G Y_S_gainAt d [.inl x, .inl y, .inl w] m (fun z m' => z = (x * 4 + y) * 2 + w ∧ m = m') :=
  e_S_gainAt x y w (fun _ _ _ _ => ⟨by omega, by omega, by omega, by omega, rfl, rfl⟩)
theorem c_isRest {a b : Int} (ha : 0 ≤ a ∧ a < 4) (hb : 0 ≤ b ∧ b < 4) : CI l G Y_S_isRest (d + 1) [.inr (.inr 0), .inl a, .inl b] m (fun z m' => z = (if rsk (fun a b => m 69 ((a * 4 + b) * 2)) (fun a b => m 69 ((a * 4 + b) * 2 + 1)) a b 4 = true then 1 else 0) ∧ m = m') := by
  refine e_S_isRest a b (fun _ _ _ => ?_)
  have loop : ∀ (j k : Nat), k + j = 4 → rsk (fun a b => m 69 ((a * 4 + b) * 2)) (fun a b => m 69 ((a * 4 + b) * 2 + 1)) a b k = true → Wq l G false Y_S_isRest (d + 1) (QI fun z m' => z = (if rsk (fun a b => m 69 ((a * 4 + b) * 2)) (fun a b => m 69 ((a * 4 + b) * 2 + 1)) a b 4 = true then 1 else 0) ∧ m = m') 2 [(0, .inr (.inr 0)), (1, .inl a), (2, .inl b), (3, .inl (k : Int))] [] m := by
    have mono : ∀ (j k : Nat), rsk (fun a b => m 69 ((a * 4 + b) * 2)) (fun a b => m 69 ((a * 4 + b) * 2 + 1)) a b k = false → rsk (fun a b => m 69 ((a * 4 + b) * 2)) (fun a b => m 69 ((a * 4 + b) * 2 + 1)) a b (k + j) = false := by
      intro j
      induction j with
      | zero => intro k hk; exact hk
      | succ j ih =>
        intro k hk
        show (rsk _ _ a b (k + j) && _) = false
        rw [ih k hk]
        rfl
    intro j
    induction j with
    | zero =>
      intro k hk hr
      have e : k = 4 := by omega
      rw [e] at hr
      exact s_S_isRest_2 _ _ _ (fun _ _ _ _ => ⟨fun _ => ⟨by rw [if_pos hr], rfl⟩, fun c => absurd (show (k : Int) ≥ 4 by omega) c⟩)
    | succ j ih =>
      intro k hk hr
      have nx : rsk (fun a b => m 69 ((a * 4 + b) * 2)) (fun a b => m 69 ((a * 4 + b) * 2 + 1)) a b (k + 1) = (true && (decide (m 69 (((k : Int) * 4 + b) * 2) ≤ m 69 ((a * 4 + b) * 2)) && decide (m 69 ((a * 4 + (k : Int)) * 2 + 1) ≤ m 69 ((a * 4 + b) * 2 + 1)))) := by
        show (rsk _ _ a b k && _) = _
        rw [hr]
      have fl : rsk (fun a b => m 69 ((a * 4 + b) * 2)) (fun a b => m 69 ((a * 4 + b) * 2 + 1)) a b (k + 1) = false → (0 : Int) = (if rsk (fun a b => m 69 ((a * 4 + b) * 2)) (fun a b => m 69 ((a * 4 + b) * 2 + 1)) a b 4 = true then 1 else 0) := fun q => by
        have := mono (4 - (k + 1)) (k + 1) q
        rw [show k + 1 + (4 - (k + 1)) = 4 by omega] at this
        rw [this, if_neg (by decide)]
      refine s_S_isRest_2 _ _ _ (fun _ _ _ _ => ⟨fun c => absurd c (by omega), fun _ => ⟨d, _, by omega, c_gainAt (by omega) hb (by decide), fun z m1 hz _ _ => ?_⟩⟩)
      obtain ⟨rfl, rfl⟩ := hz
      refine ⟨by omega, d, _, by omega, c_gainAt ha hb (by decide), fun z m1 hz _ _ => ?_⟩
      obtain ⟨rfl, rfl⟩ := hz
      rw [Int.add_zero, Int.add_zero]
      refine ⟨by omega, fun c => ⟨fl ?_, rfl⟩, fun c => ⟨d, _, by omega, c_gainAt ha (by omega) (by decide), fun z m1 hz _ _ => ?_⟩⟩
      · rw [nx, decide_eq_false (by omega)]; rfl
      · obtain ⟨rfl, rfl⟩ := hz
        refine ⟨by omega, d, _, by omega, c_gainAt ha hb (by decide), fun z m1 hz _ _ => ?_⟩
        obtain ⟨rfl, rfl⟩ := hz
        refine ⟨by omega, fun c2 => ⟨by omega, ih (k + 1) (by omega) ?_⟩, fun c2 => ⟨fl ?_, rfl⟩⟩
        · rw [nx, decide_eq_true (show m 69 (((k : Int) * 4 + b) * 2) ≤ m 69 ((a * 4 + b) * 2) by omega), decide_eq_true c2]; rfl
        · rw [nx, decide_eq_false c2, Bool.and_false, Bool.and_false]
  exact loop 4 0 (by omega) rfl
/-- what the class has worked out so far -/
def PlQ (n : Nat) (W : Int → Int → Int) (br r : Int → Int) (p o : Int) (m1 : MM) (v : Int) : Prop :=
  ∀ a b, 0 ≤ a → a < 4 → 0 ≤ b → b < 4 → a * 4 + b < v → ∃ w, Stb n W br (fun i => r i + (if i = p then a else 0) + (if i = o then b else 0)) w ∧ m1 69 ((a * 4 + b) * 2) = w p - a ∧ m1 69 ((a * 4 + b) * 2 + 1) = w o - b
theorem hp2_rng {r : Int → Int} (hr : ∀ i, In n i → 0 ≤ r i) {N : Int} (hN : sm n r ≤ N) {p o a c : Int} (hp : In n p) (ho : In n o) (ha : 0 ≤ a) (hc : 0 ≤ c) : (∀ i, In n i → 0 ≤ r i + (if i = p then a else 0) + (if i = o then c else 0)) ∧ sm n (fun i => r i + (if i = p then a else 0) + (if i = o then c else 0)) ≤ N + a + c := by
  refine ⟨fun i hi => ?_, ?_⟩
  · have := hr i hi
    split <;> split <;> omega
  · rw [sm_add n (fun i => r i + (if i = p then a else 0)), sm_add n r, sm_one, sm_one, if_pos hp, if_pos ho]
    omega
theorem c_playAll (B : BW n D W br) (X : CX n D W br b m) (hg : ∀ i, In n i → 0 ≤ m 25 i) {N : Int} (hN : sm n (m 25) ≤ N) (hN3 : N ≤ 20000) {p o : Int} (hp : In n p) (ho : In n o) (hpo : p ≠ o) : CV l G Y_S_playAll (d + 4) [.inr (.inr 0), .inl p, .inl o] m (fun m' => Fr [32, 33, 34, 35, 36, 37, 69] m m' ∧ ∃ u r, Stb n W br (m 25) u ∧ (∀ i, In n i → r i = m 25 i - Lp n W br u i) ∧ PlQ n W br r p o m' 16) := by
  have hn5 := B.1
  refine e_S_playAll p o (fun _ _ _ => ⟨d + 3, _, by omega, c_settleAhead B X hg hN (by omega), fun m0 h0 _ => ?_⟩)
  obtain ⟨f0, u, hu, r0, -⟩ := h0
  have r0' : ∀ i, In n i → m0 33 i = m 25 i - Lp n W br u i := r0
  have hr : ∀ i, In n i → 0 ≤ m0 33 i := fun i hi => by rw [r0' i hi]; exact hu.nonneg B hg i hi
  have hrN : sm n (m0 33) ≤ N := by
    rw [sm_congr r0', sm_sub, Lp_sum B]
    have := (hu.drain B hg).1
    omega
  generalize hQ : (fun m' : MM => Fr [32, 33, 34, 35, 36, 37, 69] m m' ∧ ∃ u r, Stb n W br (m 25) u ∧ (∀ i, In n i → r i = m 25 i - Lp n W br u i) ∧ PlQ n W br r p o m' 16) = Q
  have outer : ∀ (j : Nat) (a : Int) (m1 : MM), a + j = 4 → 0 ≤ a → Fr [35, 36, 37, 69] m0 m1 → PlQ n W br (m0 33) p o m1 (a * 4) → Wq l G false Y_S_playAll (d + 4) (QV Q) 6 [(0, .inr (.inr 0)), (1, .inl p), (2, .inl o), (3, .inl a)] [] m1 := by
    intro j
    induction j with
    | zero =>
      intro a m1 haj h0 f hpl
      subst hQ
      refine s_S_playAll_6 _ _ _ (fun _ _ _ _ => ⟨fun _ => ⟨Fr.tr (f0.mono (by simp)) (f.mono (by simp)), u, m0 33, hu, r0', fun a' b' a0 a4 b0 b4 hv => hpl a' b' a0 a4 b0 b4 (by omega)⟩, fun c => absurd (show a ≥ 4 by omega) c⟩)
    | succ j ih =>
      intro a m1 haj h0 f hpl
      refine s_S_playAll_6 _ _ _ (fun _ _ _ _ => ⟨fun c => absurd c (by omega), fun _ => ?_⟩)
      have inner : ∀ (t : Nat) (c : Int) (m2 : MM), c + t = 4 → 0 ≤ c → Fr [35, 36, 37, 69] m0 m2 → PlQ n W br (m0 33) p o m2 (a * 4 + c) → Wq l G false Y_S_playAll (d + 4) (QV Q) 14 [(0, .inr (.inr 0)), (1, .inl p), (2, .inl o), (3, .inl a), (4, .inl c)] [] m2 := by
        intro t
        induction t with
        | zero =>
          intro c m2 hct c0 f2 hpl2
          refine s_S_playAll_14 _ _ _ _ (fun _ _ _ _ _ => ⟨fun _ => ⟨by omega, ih (a + 1) m2 (by omega) (by omega) f2 (fun a' b' a0 a4 b0 b4 hv => hpl2 a' b' a0 a4 b0 b4 (by omega))⟩, fun q => absurd (show c ≥ 4 by omega) q⟩)
        | succ t iht =>
          intro c m2 hct c0 f2 hpl2
          refine s_S_playAll_14 _ _ _ _ (fun _ _ _ _ _ => ⟨fun q => absurd q (by omega), fun _ => ⟨d, _, by omega, c_take (a := 35) (Or.inr (Or.inl rfl)) (h := 33) (len := 5) rfl (by decide) (by decide) (by decide) (by decide), fun m3 h3 _ => ?_⟩⟩)
          obtain ⟨f3, t1, t2, t3⟩ := h3
          rw [f2 33 (by decide)] at t1
          have t1' : ∀ i, 0 ≤ i → i < 5 → m3 36 i = m0 33 i := fun i i0 i5 => (t1 i i0 i5).1
          have t4 : ∀ i, 0 ≤ i → i < 5 → m3 37 i = 0 := fun i i0 i5 => (t1 i i0 i5).2
          have hsp := sm_term hr p hp
          have hso := sm_term hr o ho
          have hrp := hr p hp
          have hro := hr o ho
          have P1 : CV l G Y_Sand_put d [.inr (.inr 35), .inl p, .inl a] m3 (fun m' => m' = up m3 36 p (m3 36 p + a)) := c_put (a := 35) (Or.inr (Or.inl rfl)) (by omega) (by show inR (m3 36 p + a); rw [t1' p hp.1 (by omega)]; constructor <;> omega)
          refine ⟨d, _, by omega, P1, fun m4 h4 _ => ?_⟩
          have v4 : ∀ i, 0 ≤ i → i < 5 → m4 36 i = m0 33 i + (if i = p then a else 0) := fun i i0 i5 => by
            rw [h4, up_row]
            by_cases e : i = p
            · rw [if_pos e, if_pos e, ← e, t1' i i0 i5]
            · rw [if_neg e, if_neg e, t1' i i0 i5]; omega
          have f4 : Fr [36] m3 m4 := by rw [h4]; exact Fr_up Fr.rf (by simp)
          have P2 : CV l G Y_Sand_put d [.inr (.inr 35), .inl o, .inl c] m4 (fun m' => m' = up m4 36 o (m4 36 o + c)) := c_put (a := 35) (Or.inr (Or.inl rfl)) (by omega) (by show inR (m4 36 o + c); rw [v4 o ho.1 (by omega), if_neg (fun e => hpo e.symm)]; constructor <;> omega)
          refine ⟨d, _, by omega, P2, fun m5 h5 _ => ?_⟩
          have v5 : ∀ i, 0 ≤ i → i < 5 → m5 36 i = m0 33 i + (if i = p then a else 0) + (if i = o then c else 0) := fun i i0 i5 => by
            rw [h5, up_row]
            by_cases e : i = o
            · rw [if_pos e, if_pos e, ← e, v4 i i0 i5]
            · rw [if_neg e, if_neg e, v4 i i0 i5]; omega
          have f5 : Fr [36] m3 m5 := by rw [h5]; exact Fr_up f4 (by simp)
          have f05 : Fr [35, 36, 37, 69] m0 m5 := (f2.tr (f3.mono (by simp))).tr (f5.mono (by simp))
          have X5 := X.fr (Fr.tr (f0.mono (T := [32, 33, 34, 35, 36, 37, 69]) (by simp)) (f05.mono (by simp))) (by decide) (by decide)
          have hh := hp2_rng hr hrN hp ho h0 c0
          refine ⟨b, X5.2.1, X5.1, d + 2, _, by omega, c_calm0 (a := 35) (Or.inr (Or.inl rfl)) B X5.2.2 X5.1 (g := fun i => m0 33 i + (if i = p then a else 0) + (if i = o then c else 0)) v5 hh.1 (N := N + a + c) hh.2 (by omega) (fun i i0 i5 => ?_) ?_ ?_, fun m6 h6 _ => ?_⟩
          · show m5 37 i = 0
            rw [f5 37 (by decide)]
            exact t4 i i0 i5
          · show m5 35 2 = 0
            rw [f5 35 (by decide)]
            exact t2
          · show m5 35 3 = 0
            rw [f5 35 (by decide)]
            exact t3
          · obtain ⟨f6, w, hw, -, -, w3, -, -, -⟩ := h6
            have w3' : ∀ i, In n i → m6 37 i = w i := w3
            have f06 : Fr [35, 36, 37, 69] m0 m6 := f05.tr (f6.mono (by simp))
            have hws := (hw.way B hh.1).sum B hh.1 hh.2
            have hwp := sm_term hw.1 p hp
            have hwo := sm_term hw.1 o ho
            have hwp0 := hw.1 p hp
            have hwo0 := hw.1 o ho
            have e69 : m6 69 = m2 69 := by rw [f6 69 (by decide), f5 69 (by decide), f3 69 (by decide)]
            refine ⟨d, _, by omega, c_gainAt (by omega) (by omega) (by decide), fun z m7 hz _ _ => ?_⟩
            obtain ⟨rfl, rfl⟩ := hz
            rw [w3' p hp, Int.add_zero]
            refine ⟨by omega, by omega, by omega, ?_⟩
            rintro m8 rfl
            refine ⟨d, _, by omega, c_gainAt (by omega) (by omega) (by decide), fun z m7 hz _ _ => ?_⟩
            obtain ⟨rfl, rfl⟩ := hz
            rw [up_ne (show 37 ≠ 69 by decide), w3' o ho]
            refine ⟨by omega, by omega, by omega, ?_⟩
            rintro m9 rfl
            refine ⟨by omega, iht (c + 1) _ (by omega) (by omega) (Fr_up (Fr_up f06 (by simp)) (by simp)) (fun a' b' a0 a4 b0 b4 hv => ?_)⟩
            by_cases e : a' = a ∧ b' = c
            · obtain ⟨e1, e2⟩ := e
              rw [e1, e2]
              refine ⟨w, hw, ?_, ?_⟩
              · rw [up_off (by omega), up_at]
              · rw [up_at]
            · obtain ⟨w', k1, k2, k3⟩ := hpl2 a' b' a0 a4 b0 b4 (by omega)
              refine ⟨w', k1, ?_, ?_⟩
              · rw [up_off (by omega), up_off (by omega), e69]; exact k2
              · rw [up_off (by omega), up_off (by omega), e69]; exact k3
      exact inner 4 0 m1 (by omega) (by omega) f (fun a' b' a0 a4 b0 b4 hv => hpl a' b' a0 a4 b0 b4 (by omega))
  exact outer 4 0 m0 (by omega) (by omega) Fr.rf (fun a' b' a0 a4 b0 b4 hv => by omega)
end Duel
