/-! mend of the reference -/
section MendM
variable {l : Launch} {G : GT} {d : Nat} {m : MM} {b : Nat} {n : Nat} {D : Int → Int} {W : Int → Int → Int} {br : Int → Int}
theorem plI_next {k : Nat} (h1 : 1 ≤ k) (h4 : k ≤ 4) : plI ((k : Int) - 1) = 16 * plI k := by
  have : k = 1 ∨ k = 2 ∨ k = 3 ∨ k = 4 := by omega
  rcases this with rfl | rfl | rfl | rfl <;> decide
theorem cod_lt {h h' : Int → Int} : ∀ {k : Nat}, k ≤ 5 → (∀ i, In k i → br i ≤ 10) → Stl br k h → Stl br k h' → cod br k h < cod br k h' → sm k (fun i => h i * plI i) + plI ((k : Int) - 1) ≤ sm k (fun i => h' i * plI i)
  | 0, _, _, _, _, hlt => by
    have : (0 : Int) < 0 := hlt
    omega
  | k + 1, hk, hb, a, a', hlt => by
    obtain ⟨s1, s2, s3⟩ := a.down
    obtain ⟨t1, t2, t3⟩ := a'.down
    have hb10 := hb k ⟨by omega, by omega⟩
    have hlt2 : cod br k h * br k + h k < cod br k h' * br k + h' k := hlt
    have hp := plI_rng (k : Int)
    have m1 := Int.mul_nonneg t2 (show 0 ≤ plI (k : Int) by omega)
    have m2 := Int.mul_le_mul_of_nonneg_right (show h k ≤ 9 by omega) (show 0 ≤ plI (k : Int) by omega)
    rw [show ((k + 1 : Nat) : Int) - 1 = (k : Int) by omega]
    show sm k (fun i => h i * plI i) + h k * plI k + plI k ≤ sm k (fun i => h' i * plI i) + h' k * plI k
    rcases Int.lt_trichotomy (cod br k h) (cod br k h') with q | q | q
    · have ih := cod_lt (by omega) (fun i hi => hb i ⟨hi.1, by have := hi.2; omega⟩) s1 t1 q
      have hk1 : 1 ≤ k := by
        cases k with
        | zero =>
          have : (0 : Int) < 0 := q
          omega
        | succ k => omega
      rw [plI_next hk1 (by omega)] at ih
      omega
    · have e : sm k (fun i => h i * plI i) = sm k (fun i => h' i * plI i) := sm_congr (fun i hi => by rw [← lay_cod s1 i hi, ← lay_cod t1 i hi, q])
      rw [q] at hlt2
      have m3 := Int.mul_le_mul_of_nonneg_right (show h k + 1 ≤ h' k by omega) (show 0 ≤ plI (k : Int) by omega)
      rw [Int.add_mul, Int.one_mul] at m3
      omega
    · exfalso
      have m4 := Int.mul_le_mul_of_nonneg_right (show cod br k h' + 1 ≤ cod br k h by omega) (show 0 ≤ br k by omega)
      rw [Int.add_mul, Int.one_mul] at m4
      omega
theorem pk_two {f : Int → Int} : pk n f = sm n f * 1048576 + sm n (fun i => f i * plI i) := by
  unfold pk
  rw [sm_congr (g := fun i => 1048576 * f i + f i * plI i) (fun i _ => by unfold wtI; rw [Int.mul_add, Int.mul_comm (f i) 1048576]), sm_add, sm_mul, Int.mul_comm]
def Vld (n : Nat) (D : Int → Int) (W : Int → Int → Int) (br h0 : Int → Int) (y : Int) : Prop := (∀ i, In n i → h0 i ≤ lay br n y i) ∧ Cag n D W br (lay br n y)
/-- the first of the least so far -/
def Bst (n : Nat) (D : Int → Int) (W : Int → Int → Int) (br h0 : Int → Int) (x v y : Int) : Prop :=
  (x = -1 ∧ v = 1000000 ∧ ∀ t, 0 ≤ t → t < y → ¬ Vld n D W br h0 t) ∨ ((0 ≤ x ∧ x < y) ∧ Vld n D W br h0 x ∧ v = sm n (fun i => lay br n x i - h0 i) ∧ ∀ t, 0 ≤ t → t < y → Vld n D W br h0 t → v ≤ sm n (fun i => lay br n t i - h0 i) ∧ (t < x → v < sm n (fun i => lay br n t i - h0 i)))
theorem Bst.mdr (B : BW n D W br) {h0 : Int → Int} (hS : Stl br n h0) {x v : Int} (a : Bst n D W br h0 x v (prd br n)) : 0 ≤ x ∧ MdR n D W br h0 (fun i => lay br n x i - h0 i) ∧ v = sm n (fun i => lay br n x i - h0 i) := by
  have hn5 := B.1
  have hb1 : ∀ i, In n i → 1 ≤ br i := fun i hi => (B.br hi).1
  rcases a with ⟨h1, h2, h3⟩ | ⟨h1, h2, h3, h4⟩
  · exfalso
    have hF : Stl br n (fun i => br i - 1) := fun i hi => by have := hb1 i hi; show 0 ≤ br i - 1 ∧ br i - 1 < br i; omega
    have hr := cod_rng hF
    have hl := lay_cod hF
    refine h3 _ hr.1 hr.2 ⟨fun i hi => ?_, (cag_full B).congr (fun i hi => (hl i hi).symm)⟩
    have := hS i hi
    have := hl i hi
    omega
  · have hx := lay_rng (br := br) (k := n) (x := x) hb1 h1.1
    refine ⟨h1.1, ⟨fun i hi => ?_, h2.2.congr (fun i _ => by show lay br n x i = h0 i + (lay br n x i - h0 i); omega), fun g hg hc => ?_⟩, h3⟩
    · have := h2.1 i hi
      have := hx i hi
      show 0 ≤ lay br n x i - h0 i ∧ h0 i + (lay br n x i - h0 i) < br i
      omega
    · have hG : Stl br n (fun i => h0 i + g i) := fun i hi => by have := hg i hi; have := hS i hi; show 0 ≤ h0 i + g i ∧ h0 i + g i < br i; omega
      have hr := cod_rng hG
      have hl := lay_cod hG
      have hv : Vld n D W br h0 (cod br n (fun i => h0 i + g i)) := ⟨fun i hi => by have := hl i hi; have := hg i hi; omega, hc.congr (fun i hi => (hl i hi).symm)⟩
      obtain ⟨b1, b2⟩ := h4 _ hr.1 hr.2 hv
      have es : sm n (fun i => lay br n (cod br n (fun i => h0 i + g i)) i - h0 i) = sm n g := sm_congr (fun i hi => by rw [hl i hi]; omega)
      rw [es] at b1 b2
      rw [pk_two, pk_two, ← h3]
      have lowb : ∀ f : Int → Int, (∀ i, In n i → 0 ≤ f i ∧ f i ≤ 9) → 0 ≤ sm n (fun i => f i * plI i) ∧ sm n (fun i => f i * plI i) < 1048576 := fun f hf => by
        have d1 := pk_dig hn5 hf
        have d2 := pk_two (n := n) (f := f)
        have d3 := d1.2
        refine ⟨sm_nonneg (fun i hi => Int.mul_nonneg (hf i hi).1 (by have := plI_rng i; omega)), ?_⟩
        omega
      have r1 := lowb (fun i => lay br n x i - h0 i) (fun i hi => by
        have := h2.1 i hi
        have := hx i hi
        have := hS i hi
        have := B.br10 hi
        show 0 ≤ lay br n x i - h0 i ∧ lay br n x i - h0 i ≤ 9
        omega)
      have r2 := lowb g (fun i hi => by
        have := hg i hi
        have := hS i hi
        have := B.br10 hi
        omega)
      by_cases q : v < sm n g
      · omega
      · have hxy : x ≤ cod br n (fun i => h0 i + g i) := by
          rcases Int.lt_or_le (cod br n (fun i => h0 i + g i)) x with c | c
          · exact absurd (b2 c) q
          · exact c
        have hle : sm n (fun i => lay br n x i * plI i) ≤ sm n (fun i => (h0 i + g i) * plI i) := by
          have ex := cod_lay hb1 h1.1 h1.2
          rcases Int.lt_or_le x (cod br n (fun i => h0 i + g i)) with c | c
          · have := cod_lt hn5 (fun i hi => B.br10 hi) hx hG (by rw [ex]; exact c)
            have := plI_rng ((n : Int) - 1)
            omega
          · have e : x = cod br n (fun i => h0 i + g i) := by omega
            rw [sm_congr (f := fun i => lay br n x i * plI i) (g := fun i => (h0 i + g i) * plI i) (fun i hi => by rw [e, hl i hi])]
            exact Int.le_refl _
        have e1 : sm n (fun i => (lay br n x i - h0 i) * plI i) = sm n (fun i => lay br n x i * plI i) - sm n (fun i => h0 i * plI i) := by rw [← sm_sub]; exact sm_congr (fun i _ => Int.sub_mul _ _ _)
        have e2 : sm n (fun i => (h0 i + g i) * plI i) = sm n (fun i => h0 i * plI i) + sm n (fun i => g i * plI i) := by rw [← sm_add]; exact sm_congr (fun i _ => Int.add_mul _ _ _)
        rw [e1]
        omega
theorem c_mendM (B : BW n D W br) (X : BM n D W br m) (hg : ∀ i, In n i → 0 ≤ m 90 i) {N : Int} (hN : sm n (m 90) ≤ N) (hN3 : N ≤ 1000000) : CI l G Y_M_mend (d + 4) [.inr (.inr 70)] m (fun z m' => Fro 70 [93, 94, 97, 98] [41, 43, 48] m m' ∧ ∃ (u r f : Int → Int), Stb n W br (m 90) u ∧ (∀ i, In n i → r i = m 90 i - Lp n W br u i) ∧ MdR n D W br r f ∧ z = sm n f ∧ m' 70 48 = n ∧ ∀ i, In n i → m' 97 i = f i) := by
  have hn5 := B.1
  have hb1 : ∀ i, In n i → 1 ≤ br i ∧ br i ≤ 10 := fun i hi => ⟨(B.br hi).1, B.br10 hi⟩
  have XF : ∀ m1, Fro 70 [93, 94, 97, 98] [41, 43, 48] m m1 → BM n D W br m1 := fun m1 f => X.fro f (by decide) (by decide) (by decide) (by decide) (by decide)
  refine e_M_mend (fun _ => ⟨d + 3, _, by omega, c_layRest B X hg hN hN3, fun m1 h1 _ => ?_⟩)
  unfold RestM at h1
  obtain ⟨f1, u, hu, r1, -⟩ := h1
  generalize hh0 : m1 93 = h0 at r1
  have hS : Stl br n h0 := fun i hi => by
    rw [r1 i hi]
    exact ⟨hu.nonneg B hg i hi, hu.2.1 i hi⟩
  generalize hQ : (fun (z : Int) (m' : MM) => Fro 70 [93, 94, 97, 98] [41, 43, 48] m m' ∧ ∃ (u r f : Int → Int), Stb n W br (m 90) u ∧ (∀ i, In n i → r i = m 90 i - Lp n W br u i) ∧ MdR n D W br r f ∧ z = sm n f ∧ m' 70 48 = n ∧ ∀ i, In n i → m' 97 i = f i) = Q
  have hp := prd_le B (k := n) (Nat.le_refl _)
  have hp5 := pow10 hn5
  -- the end
  have last : ∀ (f : Int → Int), MdR n D W br h0 f → ∀ (s k : Nat) (m2 : MM), k + s = n → Fro 70 [93, 94, 97, 98] [41, 43, 48] m m2 → (∀ i, In n i → m2 98 i = h0 i) → (∀ i, In n i → m2 93 i - h0 i = f i) → (∀ i, In k i → m2 97 i = f i) → Wq l G false Y_M_mend (d + 4) (QI Q) 165 [(0, .inr (.inr 70)), (2, .inl (sm n f)), (3, .inl (k : Int))] [] m2 := by
    intro f hf s
    induction s with
    | zero =>
      intro k m2 hk f2 e98 e93 e97
      have ek : k = n := by omega
      refine s_M_mend_165 _ _ (fun _ _ _ => ⟨d, _, by omega, c_lots (XF m2 f2), fun z m3 hz _ _ => ?_⟩)
      obtain ⟨rfl, rfl⟩ := hz
      refine ⟨fun _ => ⟨d, _, by omega, c_lots (XF m2 f2), fun z m3 hz _ _ => ?_⟩, fun c => absurd (show (k : Int) ≥ n by omega) c⟩
      obtain ⟨rfl, rfl⟩ := hz
      intro m3 e3
      rw [← hQ]
      refine ⟨by rw [e3]; exact Fro_upo f2 (by simp), u, h0, f, hu, r1, hf, rfl, by rw [e3, up_at], fun i hi => ?_⟩
      rw [e3, up_ne (by decide)]
      exact e97 i (by rw [ek]; exact hi)
    | succ s ih =>
      intro k m2 hk f2 e98 e93 e97
      have hi : In n (k : Int) := ⟨by omega, by omega⟩
      have h1 := e93 k hi
      have h2 := e98 k hi
      have h3 := hf.1 k hi
      have h4 := hS k hi
      have h5 := hb1 k hi
      refine s_M_mend_165 _ _ (fun _ _ _ => ⟨d, _, by omega, c_lots (XF m2 f2), fun z m3 hz _ _ => ?_⟩)
      obtain ⟨rfl, rfl⟩ := hz
      refine ⟨fun c => absurd c (by omega), fun _ => ⟨by omega, by omega, by rw [h2]; omega, by omega, ?_⟩⟩
      intro m3 e3
      refine ⟨by omega, ?_⟩
      have nx := ih (k + 1) m3 (by omega) (by rw [e3]; exact Fro_up f2 (by simp) (by decide)) (fun i hi => by rw [e3, up_ne (by decide)]; exact e98 i hi) (fun i hi => by rw [e3, up_ne (by decide)]; exact e93 i hi) (fun i hi2 => by
        rw [e3, up_row]
        by_cases q : i = (k : Int)
        · rw [if_pos q, q, h2]; omega
        · rw [if_neg q]
          exact e97 i (hi2.cut q))
      rw [show ((k + 1 : Nat) : Int) = (k : Int) + 1 by omega] at nx
      exact nx
  -- over all settled heaps
  have main : ∀ (s : Nat) (x v y : Int) (m2 : MM), y + s = prd br n → 0 ≤ y → Fro 70 [93, 94, 97, 98] [41, 43, 48] m m2 → (∀ i, In n i → m2 98 i = h0 i) → Bst n D W br h0 x v y → Wq l G false Y_M_mend (d + 4) (QI Q) 40 [(0, .inr (.inr 70)), (1, .inl x), (2, .inl v), (3, .inl y)] [] m2 := by
    intro s
    induction s with
    | zero =>
      intro x v y m2 hys y0 f2 e98 hB
      have ey : y = prd br n := by omega
      rw [ey] at hB
      obtain ⟨x0, hM, ev⟩ := hB.mdr B hS
      refine s_M_mend_40 _ _ _ (fun _ _ _ _ => ⟨d + 1, _, by omega, c_settledMany B (XF m2 f2), fun z m3 hz _ _ => ?_⟩)
      obtain ⟨rfl, rfl⟩ := hz
      refine ⟨fun _ => ⟨d + 1, _, by omega, c_laySettled B (XF m2 f2) x0, fun m3 hm3 _ => ?_⟩, fun c => absurd (show y ≥ prd br n by omega) c⟩
      obtain ⟨f3, v3⟩ := hm3
      rw [ev]
      exact last _ hM n 0 m3 (by omega) (f2.tr ⟨fun c hc _ => f3 c (fun q => hc (by simp only [List.mem_cons, List.not_mem_nil, or_false] at q ⊢; omega)), fun i _ => by rw [f3 70 (by decide)]⟩) (fun i hi => by rw [f3 98 (by decide)]; exact e98 i hi) (fun i hi => by rw [v3 i hi]) (fun i hi => by have := hi.1; have := hi.2; omega)
    | succ s ih =>
      intro x v y m2 hys y0 f2 e98 hB
      have hys2 : y + 1 + (s : Int) = prd br n := by omega
      refine s_M_mend_40 _ _ _ (fun _ _ _ _ => ⟨d + 1, _, by omega, c_settledMany B (XF m2 f2), fun z m3 hz _ _ => ?_⟩)
      obtain ⟨rfl, rfl⟩ := hz
      refine ⟨fun c => absurd c (by omega), fun _ => ⟨d + 1, _, by omega, c_laySettled B (XF m2 f2) y0, fun m3 hm3 _ => ?_⟩⟩
      obtain ⟨g3, v3⟩ := hm3
      have f3 : Fro 70 [93, 94, 97, 98] [41, 43, 48] m m3 := f2.tr ⟨fun c hc _ => g3 c (fun q => hc (by simp only [List.mem_cons, List.not_mem_nil, or_false] at q ⊢; omega)), fun i _ => by rw [g3 70 (by decide)]⟩
      have e98' : ∀ i, In n i → m3 98 i = h0 i := fun i hi => by rw [g3 98 (by decide)]; exact e98 i hi
      have hL := lay_rng (br := br) (k := n) (x := y) (fun i hi => (hb1 i hi).1) y0
      -- this one is not it
      have skip : ¬ (Vld n D W br h0 y ∧ sm n (fun i => lay br n y i - h0 i) < v) → ∀ m4, Fro 70 [93, 94, 97, 98] [41, 43, 48] m m4 → (∀ i, In n i → m4 98 i = h0 i) → Wq l G false Y_M_mend (d + 4) (QI Q) 40 [(0, .inr (.inr 70)), (1, .inl x), (2, .inl v), (3, .inl (y + 1))] [] m4 := fun hno m4 f4 e4 => by
        refine ih x v (y + 1) m4 hys2 (by omega) f4 e4 ?_
        rcases hB with ⟨h1, h2, h3⟩ | ⟨h1, h2, h3, h4⟩
        · refine Or.inl ⟨h1, h2, fun t t0 t1 hv => ?_⟩
          by_cases q : t = y
          · rw [q] at hv
            refine hno ⟨hv, ?_⟩
            have := sm_bound (k := n) (f := fun i => lay br n y i - h0 i) (M := 100) (fun i hi => by have := hL i hi; have := hS i hi; have := hb1 i hi; show -100 ≤ lay br n y i - h0 i ∧ lay br n y i - h0 i ≤ 100; omega)
            omega
          · exact h3 t t0 (by omega) hv
        · refine Or.inr ⟨by omega, h2, h3, fun t t0 t1 hv => ?_⟩
          by_cases q : t = y
          · rw [q] at hv ⊢
            refine ⟨?_, fun c => by omega⟩
            rcases Int.lt_or_le (sm n (fun i => lay br n y i - h0 i)) v with c | c
            · exact absurd ⟨hv, c⟩ hno
            · exact c
          · exact h4 t t0 (by omega) hv
      have inner : ∀ (t k : Nat), k + t = n → (∀ i, In k i → h0 i ≤ lay br n y i) → Wq l G false Y_M_mend (d + 4) (QI Q) 62 [(0, .inr (.inr 70)), (1, .inl x), (2, .inl v), (3, .inl y), (4, .inl 1), (5, .inl (sm k (fun i => lay br n y i - h0 i))), (6, .inl (k : Int))] [] m3 := by
        intro t
        induction t with
        | zero =>
          intro k hk hle
          have ek : k = n := by omega
          rw [ek] at hle
          refine s_M_mend_62 _ _ _ _ _ _ (fun _ _ _ _ _ _ _ => ⟨d, _, by omega, c_lots (XF m3 f3), fun z m4 hz _ _ => ?_⟩)
          obtain ⟨rfl, rfl⟩ := hz
          refine ⟨fun _ => ⟨fun c => absurd c (by decide), fun _ => ⟨fun c => ⟨by omega, skip (fun q => by rw [ek] at c; have := q.2; omega) m3 f3 e98'⟩, fun c => ⟨d + 2, _, by omega, c_again B (XF m3 f3) v3, fun z m4 hz _ _ => ?_⟩⟩⟩, fun c => absurd (show (k : Int) ≥ n by omega) c⟩
          obtain ⟨g4, hz⟩ := hz
          have f4 : Fro 70 [93, 94, 97, 98] [41, 43, 48] m m4 := f3.tr (g4.mono (by simp) (by simp))
          have e4 : ∀ i, In n i → m4 98 i = h0 i := fun i hi => by rw [g4.1 98 (by decide) (by decide)]; exact e98' i hi
          refine ⟨fun c2 => ⟨by omega, ?_⟩, fun c2 => ⟨by omega, skip (fun q => hz.mp (Classical.not_not.mp c2) q.1.2) m4 f4 e4⟩⟩
          have hV : Vld n D W br h0 y := ⟨hle, Classical.not_not.mp (fun g => c2 (hz.mpr g))⟩
          have es : sm k (fun i => lay br n y i - h0 i) = sm n (fun i => lay br n y i - h0 i) := by rw [ek]
          rw [es] at c ⊢
          refine ih y _ (y + 1) m4 hys2 (by omega) f4 e4 (Or.inr ⟨by omega, hV, rfl, fun t t0 t1 hv => ?_⟩)
          by_cases q : t = y
          · rw [q]; exact ⟨Int.le_refl _, fun c => by omega⟩
          · rcases hB with ⟨h1, h2, h3⟩ | ⟨h1, h2, h3, h4⟩
            · exact absurd hv (h3 t t0 (by omega))
            · have := (h4 t t0 (by omega) hv).1
              exact ⟨by omega, fun _ => by omega⟩
        | succ t iht =>
          intro k hk hle
          have hi : In n (k : Int) := ⟨by omega, by omega⟩
          have h1 := v3 k hi
          have h2 := e98' k hi
          have h3 := hL k hi
          have h4 := hS k hi
          have h5 := hb1 k hi
          have h6 := sm_bound (k := k) (f := fun i => lay br n y i - h0 i) (M := 100) (fun i hi2 => by
            have hi3 : In n i := ⟨hi2.1, by have := hi2.2; omega⟩
            have := hL i hi3; have := hS i hi3; have := hb1 i hi3
            show -100 ≤ lay br n y i - h0 i ∧ lay br n y i - h0 i ≤ 100
            omega)
          refine s_M_mend_62 _ _ _ _ _ _ (fun _ _ _ _ _ _ _ => ⟨d, _, by omega, c_lots (XF m3 f3), fun z m4 hz _ _ => ?_⟩)
          obtain ⟨rfl, rfl⟩ := hz
          rw [h1, h2]
          refine ⟨fun c => absurd c (by omega), fun _ => ⟨fun c => absurd c (by decide), fun _ => ⟨by omega, by omega, fun c => ⟨by omega, by omega, by omega, by omega, by omega, ?_⟩, fun c => ⟨by omega, by omega, by omega, by omega, by omega, ?_⟩⟩⟩⟩
          · have hno : ¬ (Vld n D W br h0 y ∧ sm n (fun i => lay br n y i - h0 i) < v) := fun q => by have := q.1.1 k hi; omega
            refine s_M_mend_62 _ _ _ _ _ _ (fun _ _ _ _ _ _ _ => ⟨d, _, by omega, c_lots (XF m3 f3), fun z m4 hz _ _ => ?_⟩)
            obtain ⟨rfl, rfl⟩ := hz
            exact ⟨fun _ => ⟨fun _ => ⟨by omega, skip hno m3 f3 e98'⟩, fun c => absurd rfl c⟩, fun _ => ⟨fun _ => ⟨fun _ => ⟨by omega, skip hno m3 f3 e98'⟩, fun c => absurd rfl c⟩, fun c => absurd rfl c⟩⟩
          · have nx := iht (k + 1) (by omega) (fun i hi2 => by
              by_cases q : i = (k : Int)
              · rw [q]; omega
              · exact hle i (hi2.cut q))
            have es : sm (k + 1) (fun i => lay br n y i - h0 i) = sm k (fun i => lay br n y i - h0 i) + (lay br n y k - h0 k) := rfl
            rw [es, show ((k + 1 : Nat) : Int) = (k : Int) + 1 by omega] at nx
            exact nx
      exact inner n 0 (by omega) (fun i hi => by have := hi.1; have := hi.2; omega)
  have first : ∀ (s k : Nat) (m2 : MM), k + s = n → Fro 70 [93, 94, 97, 98] [41, 43, 48] m m2 → m2 93 = h0 → (∀ i, In k i → m2 98 i = h0 i) → Wq l G false Y_M_mend (d + 4) (QI Q) 6 [(0, .inr (.inr 70)), (1, .inl (k : Int))] [] m2 := by
    intro s
    induction s with
    | zero =>
      intro k m2 hk f2 e93 e98
      have ek : k = n := by omega
      refine s_M_mend_6 _ (fun _ _ => ⟨d, _, by omega, c_lots (XF m2 f2), fun z m3 hz _ _ => ?_⟩)
      obtain ⟨rfl, rfl⟩ := hz
      refine ⟨fun _ => ?_, fun c => absurd (show (k : Int) ≥ n by omega) c⟩
      exact main (prd br n).toNat (-1) 1000000 0 m2 (by omega) (Int.le_refl 0) f2 (fun i hi => e98 i (by rw [ek]; exact hi)) (Or.inl ⟨rfl, rfl, fun t t0 t1 => by omega⟩)
    | succ s ih =>
      intro k m2 hk f2 e93 e98
      have hi : In n (k : Int) := ⟨by omega, by omega⟩
      refine s_M_mend_6 _ (fun _ _ => ⟨d, _, by omega, c_lots (XF m2 f2), fun z m3 hz _ _ => ?_⟩)
      obtain ⟨rfl, rfl⟩ := hz
      refine ⟨fun c => absurd c (by omega), fun _ => ⟨by omega, by omega, ?_⟩⟩
      intro m3 e3
      refine ⟨by omega, ?_⟩
      have nx := ih (k + 1) m3 (by omega) (by rw [e3]; exact Fro_up f2 (by simp) (by decide)) (by rw [e3, up_ne (by decide)]; exact e93) (fun i hi2 => by
        rw [e3, up_row, e93]
        by_cases q : i = (k : Int)
        · rw [if_pos q, q]
        · rw [if_neg q]
          exact e98 i (hi2.cut q))
      rw [show ((k + 1 : Nat) : Int) = (k : Int) + 1 by omega] at nx
      exact nx
  exact first n 0 m1 (by omega) (f1.mono (by simp) (by simp)) hh0 (fun i hi => by have := hi.1; have := hi.2; omega)
end MendM
