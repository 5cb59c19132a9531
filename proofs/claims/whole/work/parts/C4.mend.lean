/-! the least to be added so that a heap comes again -/
def plI (i : Int) : Int := if i = 0 then 65536 else if i = 1 then 4096 else if i = 2 then 256 else if i = 3 then 16 else 1
def wtI (i : Int) : Int := 1048576 + plI i
def pk (n : Nat) (f : Int → Int) : Int := sm n (fun i => f i * wtI i)
theorem plI_rng (i : Int) : 1 ≤ plI i ∧ plI i ≤ 65536 := by unfold plI; split; · decide
                                                            · split; · decide
                                                              · split; · decide
                                                                · split <;> decide
theorem pk_rng {n : Nat} (hn : n ≤ 5) {f : Int → Int} (h : ∀ i, In n i → 0 ≤ f i ∧ f i ≤ 9) : 0 ≤ pk n f ∧ pk n f ≤ 60000000 := by
  have h1 := sm_bound (k := n) (f := fun i => f i * wtI i) (M := 10027008) (fun i hi => by
    have h2 := h i hi
    have h3 := plI_rng i
    have h4 := Int.mul_le_mul_of_nonneg_right h2.2 (show 0 ≤ wtI i by unfold wtI; omega)
    have h5 := Int.mul_nonneg h2.1 (show 0 ≤ wtI i by unfold wtI; omega)
    show -10027008 ≤ f i * wtI i ∧ f i * wtI i ≤ 10027008
    unfold wtI at h4 h5 ⊢
    omega)
  have h0 : 0 ≤ pk n f := sm_nonneg (fun i hi => Int.mul_nonneg (h i hi).1 (by have := plI_rng i; unfold wtI; omega))
  refine ⟨h0, ?_⟩
  have h2 := h1.2
  show sm n (fun i => f i * wtI i) ≤ 60000000
  omega
theorem pk_congr {n : Nat} {f g : Int → Int} (h : ∀ i, In n i → f i = g i) : pk n f = pk n g := sm_congr (fun i hi => by rw [h i hi])
theorem pk_mono {n : Nat} {f g : Int → Int} (h : ∀ i, In n i → f i ≤ g i) : pk n f ≤ pk n g := sm_le (fun i hi => Int.mul_le_mul_of_nonneg_right (h i hi) (by have := plI_rng i; unfold wtI; omega))
theorem pk_upd {n : Nat} {f : Int → Int} {i v : Int} (hi : In n i) (h0 : f i = 0) : pk n (fun x => if x = i then v else f x) = pk n f + v * wtI i := by
  unfold pk
  rw [← sm_upd n (fun x => f x * wtI x) i (v * wtI i) hi]
  refine sm_congr (fun x hx => ?_)
  show (if x = i then v else f x) * wtI x = (if x = i then f x * wtI x + v * wtI i else f x * wtI x)
  by_cases e : x = i
  · rw [if_pos e, if_pos e, e, h0]; omega
  · rw [if_neg e, if_neg e]
theorem dgl {P p a r v : Int} (hp : 0 < p) (hr : 0 ≤ r ∧ r < p) (hv : 0 ≤ v ∧ v ≤ 9) (e : P = r + (16 * a + v) * p) : P / p % 16 = v := by
  rw [e, Int.add_mul_ediv_right _ _ (by omega), Int.ediv_eq_zero_of_lt hr.1 hr.2]
  omega
theorem pk_dig {n : Nat} (hn : n ≤ 5) {f : Int → Int} (h : ∀ i, In n i → 0 ≤ f i ∧ f i ≤ 9) : (∀ i, In n i → pk n f / plI i % 16 = f i) ∧ pk n f / 1048576 = sm n f := by
  have g : ∀ t : Nat, t < n → 0 ≤ f (t : Int) ∧ f (t : Int) ≤ 9 := fun t ht => h t ⟨by omega, by omega⟩
  have hn2 : n = 0 ∨ n = 1 ∨ n = 2 ∨ n = 3 ∨ n = 4 ∨ n = 5 := by omega
  rcases hn2 with rfl | rfl | rfl | rfl | rfl | rfl
  · exact ⟨fun i hi => by have := hi.1; have := hi.2; omega, rfl⟩
  · have g0 := g 0 (by decide)
    have e : pk 1 f = 0 + f (0 : Nat) * 1114112 := rfl
    have e2 : sm 1 f = 0 + f (0 : Nat) := rfl
    rw [e, e2]
    refine ⟨fun i hi => ?_, by omega⟩
    have hi2 : i = 0 := by have := hi.1; have := hi.2; omega
    rcases hi2 with rfl
    · exact dgl (P := 0 + f (0 : Nat) * 1114112) (p := 65536) (a := (0 + f (0 : Nat)) * 1) (r := 0) (v := f (0 : Nat)) (by decide) (by omega) g0 (by omega)
  · have g0 := g 0 (by decide)
    have g1 := g 1 (by decide)
    have e : pk 2 f = 0 + f (0 : Nat) * 1114112 + f (1 : Nat) * 1052672 := rfl
    have e2 : sm 2 f = 0 + f (0 : Nat) + f (1 : Nat) := rfl
    rw [e, e2]
    refine ⟨fun i hi => ?_, by omega⟩
    have hi2 : i = 0 ∨ i = 1 := by have := hi.1; have := hi.2; omega
    rcases hi2 with rfl | rfl
    · exact dgl (P := 0 + f (0 : Nat) * 1114112 + f (1 : Nat) * 1052672) (p := 65536) (a := (0 + f (0 : Nat) + f (1 : Nat)) * 1) (r := 0 + f (1 : Nat) * 4096) (v := f (0 : Nat)) (by decide) (by omega) g0 (by omega)
    · exact dgl (P := 0 + f (0 : Nat) * 1114112 + f (1 : Nat) * 1052672) (p := 4096) (a := (0 + f (0 : Nat) + f (1 : Nat)) * 16 + f (0 : Nat) * 1) (r := 0) (v := f (1 : Nat)) (by decide) (by omega) g1 (by omega)
  · have g0 := g 0 (by decide)
    have g1 := g 1 (by decide)
    have g2 := g 2 (by decide)
    have e : pk 3 f = 0 + f (0 : Nat) * 1114112 + f (1 : Nat) * 1052672 + f (2 : Nat) * 1048832 := rfl
    have e2 : sm 3 f = 0 + f (0 : Nat) + f (1 : Nat) + f (2 : Nat) := rfl
    rw [e, e2]
    refine ⟨fun i hi => ?_, by omega⟩
    have hi2 : i = 0 ∨ i = 1 ∨ i = 2 := by have := hi.1; have := hi.2; omega
    rcases hi2 with rfl | rfl | rfl
    · exact dgl (P := 0 + f (0 : Nat) * 1114112 + f (1 : Nat) * 1052672 + f (2 : Nat) * 1048832) (p := 65536) (a := (0 + f (0 : Nat) + f (1 : Nat) + f (2 : Nat)) * 1) (r := 0 + f (1 : Nat) * 4096 + f (2 : Nat) * 256) (v := f (0 : Nat)) (by decide) (by omega) g0 (by omega)
    · exact dgl (P := 0 + f (0 : Nat) * 1114112 + f (1 : Nat) * 1052672 + f (2 : Nat) * 1048832) (p := 4096) (a := (0 + f (0 : Nat) + f (1 : Nat) + f (2 : Nat)) * 16 + f (0 : Nat) * 1) (r := 0 + f (2 : Nat) * 256) (v := f (1 : Nat)) (by decide) (by omega) g1 (by omega)
    · exact dgl (P := 0 + f (0 : Nat) * 1114112 + f (1 : Nat) * 1052672 + f (2 : Nat) * 1048832) (p := 256) (a := (0 + f (0 : Nat) + f (1 : Nat) + f (2 : Nat)) * 256 + f (0 : Nat) * 16 + f (1 : Nat) * 1) (r := 0) (v := f (2 : Nat)) (by decide) (by omega) g2 (by omega)
  · have g0 := g 0 (by decide)
    have g1 := g 1 (by decide)
    have g2 := g 2 (by decide)
    have g3 := g 3 (by decide)
    have e : pk 4 f = 0 + f (0 : Nat) * 1114112 + f (1 : Nat) * 1052672 + f (2 : Nat) * 1048832 + f (3 : Nat) * 1048592 := rfl
    have e2 : sm 4 f = 0 + f (0 : Nat) + f (1 : Nat) + f (2 : Nat) + f (3 : Nat) := rfl
    rw [e, e2]
    refine ⟨fun i hi => ?_, by omega⟩
    have hi2 : i = 0 ∨ i = 1 ∨ i = 2 ∨ i = 3 := by have := hi.1; have := hi.2; omega
    rcases hi2 with rfl | rfl | rfl | rfl
    · exact dgl (P := 0 + f (0 : Nat) * 1114112 + f (1 : Nat) * 1052672 + f (2 : Nat) * 1048832 + f (3 : Nat) * 1048592) (p := 65536) (a := (0 + f (0 : Nat) + f (1 : Nat) + f (2 : Nat) + f (3 : Nat)) * 1) (r := 0 + f (1 : Nat) * 4096 + f (2 : Nat) * 256 + f (3 : Nat) * 16) (v := f (0 : Nat)) (by decide) (by omega) g0 (by omega)
    · exact dgl (P := 0 + f (0 : Nat) * 1114112 + f (1 : Nat) * 1052672 + f (2 : Nat) * 1048832 + f (3 : Nat) * 1048592) (p := 4096) (a := (0 + f (0 : Nat) + f (1 : Nat) + f (2 : Nat) + f (3 : Nat)) * 16 + f (0 : Nat) * 1) (r := 0 + f (2 : Nat) * 256 + f (3 : Nat) * 16) (v := f (1 : Nat)) (by decide) (by omega) g1 (by omega)
    · exact dgl (P := 0 + f (0 : Nat) * 1114112 + f (1 : Nat) * 1052672 + f (2 : Nat) * 1048832 + f (3 : Nat) * 1048592) (p := 256) (a := (0 + f (0 : Nat) + f (1 : Nat) + f (2 : Nat) + f (3 : Nat)) * 256 + f (0 : Nat) * 16 + f (1 : Nat) * 1) (r := 0 + f (3 : Nat) * 16) (v := f (2 : Nat)) (by decide) (by omega) g2 (by omega)
    · exact dgl (P := 0 + f (0 : Nat) * 1114112 + f (1 : Nat) * 1052672 + f (2 : Nat) * 1048832 + f (3 : Nat) * 1048592) (p := 16) (a := (0 + f (0 : Nat) + f (1 : Nat) + f (2 : Nat) + f (3 : Nat)) * 4096 + f (0 : Nat) * 256 + f (1 : Nat) * 16 + f (2 : Nat) * 1) (r := 0) (v := f (3 : Nat)) (by decide) (by omega) g3 (by omega)
  · have g0 := g 0 (by decide)
    have g1 := g 1 (by decide)
    have g2 := g 2 (by decide)
    have g3 := g 3 (by decide)
    have g4 := g 4 (by decide)
    have e : pk 5 f = 0 + f (0 : Nat) * 1114112 + f (1 : Nat) * 1052672 + f (2 : Nat) * 1048832 + f (3 : Nat) * 1048592 + f (4 : Nat) * 1048577 := rfl
    have e2 : sm 5 f = 0 + f (0 : Nat) + f (1 : Nat) + f (2 : Nat) + f (3 : Nat) + f (4 : Nat) := rfl
    rw [e, e2]
    refine ⟨fun i hi => ?_, by omega⟩
    have hi2 : i = 0 ∨ i = 1 ∨ i = 2 ∨ i = 3 ∨ i = 4 := by have := hi.1; have := hi.2; omega
    rcases hi2 with rfl | rfl | rfl | rfl | rfl
    · exact dgl (P := 0 + f (0 : Nat) * 1114112 + f (1 : Nat) * 1052672 + f (2 : Nat) * 1048832 + f (3 : Nat) * 1048592 + f (4 : Nat) * 1048577) (p := 65536) (a := (0 + f (0 : Nat) + f (1 : Nat) + f (2 : Nat) + f (3 : Nat) + f (4 : Nat)) * 1) (r := 0 + f (1 : Nat) * 4096 + f (2 : Nat) * 256 + f (3 : Nat) * 16 + f (4 : Nat) * 1) (v := f (0 : Nat)) (by decide) (by omega) g0 (by omega)
    · exact dgl (P := 0 + f (0 : Nat) * 1114112 + f (1 : Nat) * 1052672 + f (2 : Nat) * 1048832 + f (3 : Nat) * 1048592 + f (4 : Nat) * 1048577) (p := 4096) (a := (0 + f (0 : Nat) + f (1 : Nat) + f (2 : Nat) + f (3 : Nat) + f (4 : Nat)) * 16 + f (0 : Nat) * 1) (r := 0 + f (2 : Nat) * 256 + f (3 : Nat) * 16 + f (4 : Nat) * 1) (v := f (1 : Nat)) (by decide) (by omega) g1 (by omega)
    · exact dgl (P := 0 + f (0 : Nat) * 1114112 + f (1 : Nat) * 1052672 + f (2 : Nat) * 1048832 + f (3 : Nat) * 1048592 + f (4 : Nat) * 1048577) (p := 256) (a := (0 + f (0 : Nat) + f (1 : Nat) + f (2 : Nat) + f (3 : Nat) + f (4 : Nat)) * 256 + f (0 : Nat) * 16 + f (1 : Nat) * 1) (r := 0 + f (3 : Nat) * 16 + f (4 : Nat) * 1) (v := f (2 : Nat)) (by decide) (by omega) g2 (by omega)
    · exact dgl (P := 0 + f (0 : Nat) * 1114112 + f (1 : Nat) * 1052672 + f (2 : Nat) * 1048832 + f (3 : Nat) * 1048592 + f (4 : Nat) * 1048577) (p := 16) (a := (0 + f (0 : Nat) + f (1 : Nat) + f (2 : Nat) + f (3 : Nat) + f (4 : Nat)) * 4096 + f (0 : Nat) * 256 + f (1 : Nat) * 16 + f (2 : Nat) * 1) (r := 0 + f (4 : Nat) * 1) (v := f (3 : Nat)) (by decide) (by omega) g3 (by omega)
    · exact dgl (P := 0 + f (0 : Nat) * 1114112 + f (1 : Nat) * 1052672 + f (2 : Nat) * 1048832 + f (3 : Nat) * 1048592 + f (4 : Nat) * 1048577) (p := 1) (a := (0 + f (0 : Nat) + f (1 : Nat) + f (2 : Nat) + f (3 : Nat) + f (4 : Nat)) * 65536 + f (0 : Nat) * 4096 + f (1 : Nat) * 256 + f (2 : Nat) * 16 + f (3 : Nat) * 1) (r := 0) (v := f (4 : Nat)) (by decide) (by omega) g4 (by omega)
section Mend
variable {l : Launch} {G : GT} {d : Nat} {m : MM} {b : Nat} {n : Nat} {D : Int → Int} {W : Int → Int → Int} {br : Int → Int}
theorem bB_mem {L : Int → Int} {j : Nat} : ∀ {k : Nat}, j < k → bB L k (L j) = true
  | 0, h => by omega
  | k + 1, h => by
    by_cases e : j = k
    · subst e; exact bB_in.mpr (Or.inr rfl)
    · exact bB_in.mpr (Or.inl (bB_mem (by omega)))
theorem bB_ex {L : Int → Int} {i : Int} : ∀ {k : Nat}, bB L k i = true → ∃ j : Nat, j < k ∧ i = L j
  | 0, h => absurd h (by show ¬ false = true; decide)
  | k + 1, h => by
    rcases bB_in.mp h with g | g
    · obtain ⟨j, hj, e⟩ := bB_ex g
      exact ⟨j, by omega, e⟩
    · exact ⟨k, by omega, g⟩
theorem wT_congr {i : Int} {p q : Int → Bool} (h : ∀ j, In n j → p j = q j) : wT n W i p = wT n W i q := sm_congr (fun j hj => by rw [h j hj])
def lck (n : Nat) (D : Int → Int) (W : Int → Int → Int) (br h0 : Int → Int) (p : Int → Bool) (i : Int) : Int := max 0 (br i - (D i + wT n W i p) - h0 i)
/-- what some order to burn a set lacks -/
def OrA (n : Nat) (D : Int → Int) (W : Int → Int → Int) (br h0 : Int → Int) (p : Int → Bool) (f : Int → Int) : Prop :=
  ∃ (L : Int → Int) (K : Nat), (∀ j : Nat, j < K → In n (L j) ∧ bB L j (L j) = false ∧ 0 < D (L j) + wT n W (L j) (bB L j) ∧ f (L j) = lck n D W br h0 (bB L j) (L j)) ∧ (∀ i, In n i → p i = bB L K i) ∧ ∀ i, In n i → p i = false → f i = 0
theorem OrA.congr {h0 f g : Int → Int} {p q : Int → Bool} (a : OrA n D W br h0 p f) (e : ∀ i, In n i → p i = q i) (e2 : ∀ i, In n i → f i = g i) : OrA n D W br h0 q g := by
  obtain ⟨L, K, h1, h2, h3⟩ := a
  exact ⟨L, K, fun j hj => by rw [← e2 _ (h1 j hj).1]; exact h1 j hj, fun i hi => by rw [← e i hi]; exact h2 i hi, fun i hi hq => by rw [← e2 i hi]; exact h3 i hi (by rw [e i hi]; exact hq)⟩
theorem OrA.nil {h0 : Int → Int} {p : Int → Bool} (h : ∀ i, In n i → p i = false) : OrA n D W br h0 p (fun _ => 0) := ⟨fun _ => 0, 0, fun j hj => by omega, fun i hi => h i hi, fun _ _ _ => rfl⟩
def wob (p : Int → Bool) (i : Int) : Int → Bool := fun t => p t && !decide (t = i)
theorem OrA.step {h0 f : Int → Int} {p : Int → Bool} {i : Int} (hi : In n i) (hp : p i = true) (a : OrA n D W br h0 (wob p i) (fun x => if x = i then 0 else f x)) (hw : 0 < D i + wT n W i (wob p i)) (hf : f i = lck n D W br h0 (wob p i) i) (hoff : ∀ x, In n x → p x = false → f x = 0) : OrA n D W br h0 p f := by
  obtain ⟨L, K, h1, h2, h3⟩ := a
  have ne : ∀ j : Nat, j < K → L j ≠ i := fun j hj e => by
    have g1 := h2 i hi
    have g2 : bB L K (L j) = true := bB_mem hj
    rw [e] at g2
    rw [g2] at g1
    have g3 : wob p i i = false := by show (p i && !decide (i = i)) = false; simp
    rw [g3] at g1
    exact absurd g1 (by decide)
  have e0 : ∀ j : Nat, j ≤ K → bB (fun x => if x = (K : Int) then i else L x) j = bB L j := fun j hj => bB_congr (fun t ht => by show (if (t : Int) = (K : Int) then i else L t) = L t; rw [if_neg (by omega)])
  have ew : wT n W i (wob p i) = wT n W i (bB L K) := wT_congr h2
  refine ⟨fun x => if x = (K : Int) then i else L x, K + 1, fun j hj => ?_, fun x hx => ?_, hoff⟩
  · rw [e0 j (by omega)]
    by_cases q : j = K
    · subst q
      show In n (if (j : Int) = (j : Int) then i else L j) ∧ bB L j (if (j : Int) = (j : Int) then i else L j) = false ∧ 0 < D (if (j : Int) = (j : Int) then i else L j) + wT n W (if (j : Int) = (j : Int) then i else L j) (bB L j) ∧ f (if (j : Int) = (j : Int) then i else L j) = lck n D W br h0 (bB L j) (if (j : Int) = (j : Int) then i else L j)
      rw [if_pos rfl]
      refine ⟨hi, ?_, by rw [← ew]; exact hw, ?_⟩
      · rw [← h2 i hi]
        show (p i && !decide (i = i)) = false
        simp
      · rw [hf]; unfold lck; rw [ew]
    · show In n (if (j : Int) = (K : Int) then i else L j) ∧ bB L j (if (j : Int) = (K : Int) then i else L j) = false ∧ 0 < D (if (j : Int) = (K : Int) then i else L j) + wT n W (if (j : Int) = (K : Int) then i else L j) (bB L j) ∧ f (if (j : Int) = (K : Int) then i else L j) = lck n D W br h0 (bB L j) (if (j : Int) = (K : Int) then i else L j)
      rw [if_neg (by omega)]
      obtain ⟨g1, g2, g3, g4⟩ := h1 j (by omega)
      have g5 : (if L j = i then 0 else f (L j)) = f (L j) := if_neg (ne j (by omega))
      exact ⟨g1, g2, g3, by rw [← g5]; exact g4⟩
  · show p x = (bB (fun x => if x = (K : Int) then i else L x) K x || decide (x = (if (K : Int) = (K : Int) then i else L K)))
    rw [e0 K (Nat.le_refl _), if_pos rfl, ← h2 x hx]
    show p x = ((p x && !decide (x = i)) || decide (x = i))
    by_cases q : x = i
    · rw [q, hp]; simp
    · simp [q]
theorem OrA.last {h0 f : Int → Int} {p : Int → Bool} (a : OrA n D W br h0 p f) (hp : ∃ i, In n i ∧ p i = true) : ∃ i, In n i ∧ p i = true ∧ 0 < D i + wT n W i (wob p i) ∧ f i = lck n D W br h0 (wob p i) i ∧ OrA n D W br h0 (wob p i) (fun x => if x = i then 0 else f x) := by
  obtain ⟨L, K, h1, h2, h3⟩ := a
  obtain ⟨i0, hi0, hp0⟩ := hp
  cases K with
  | zero =>
    have := h2 i0 hi0
    rw [hp0] at this
    exact absurd this (by show ¬ true = false; decide)
  | succ K =>
    obtain ⟨g1, g2, g3, g4⟩ := h1 K (by omega)
    have e1 : ∀ x, In n x → wob p (L K) x = bB L K x := fun x hx => by
      show (p x && !decide (x = L K)) = bB L K x
      rw [h2 x hx]
      show ((bB L K x || decide (x = L K)) && !decide (x = L K)) = bB L K x
      by_cases q : x = L K
      · rw [q, g2]; simp
      · simp [q]
    have ew : wT n W (L K) (wob p (L K)) = wT n W (L K) (bB L K) := wT_congr e1
    refine ⟨L K, g1, by rw [h2 _ g1]; exact bB_in.mpr (Or.inr rfl), by rw [ew]; exact g3, by rw [g4]; unfold lck; rw [ew], L, K, fun j hj => ?_, e1, fun x hx hq => ?_⟩
    · obtain ⟨k1, k2, k3, k4⟩ := h1 j (by omega)
      refine ⟨k1, k2, k3, ?_⟩
      have ne : L j ≠ L K := fun e => by
        have := bB_mem (L := L) hj
        rw [e, g2] at this
        exact absurd this (by decide)
      show (if L j = L K then 0 else f (L j)) = _
      rw [if_neg ne]; exact k4
    · show (if x = L K then 0 else f x) = 0
      by_cases q : x = L K
      · rw [if_pos q]
      · rw [if_neg q]
        refine h3 x hx ?_
        have hq2 : (p x && !decide (x = L K)) = false := hq
        simp [q] at hq2
        exact hq2
theorem OrA.rng (B : BW n D W br) {h0 f : Int → Int} {p : Int → Bool} (hS : Stl br n h0) (a : OrA n D W br h0 p f) : ∀ i, In n i → 0 ≤ f i ∧ h0 i + f i < br i ∧ f i ≤ 9 := by
  obtain ⟨L, K, h1, h2, h3⟩ := a
  intro i hi
  have hs := hS i hi
  have hb := B.br10 hi
  cases hp : p i with
  | false =>
    rw [h3 i hi hp]
    omega
  | true =>
    rw [h2 i hi] at hp
    obtain ⟨j, hj, e⟩ := bB_ex hp
    subst e
    obtain ⟨g1, g2, g3, g4⟩ := h1 j hj
    rw [g4]
    unfold lck
    omega
/-- what mend adds -/
def MdR (n : Nat) (D : Int → Int) (W : Int → Int → Int) (br h0 f : Int → Int) : Prop :=
  (∀ i, In n i → 0 ≤ f i ∧ h0 i + f i < br i) ∧ Cag n D W br (fun i => h0 i + f i) ∧ ∀ g, (∀ i, In n i → 0 ≤ g i ∧ h0 i + g i < br i) → Cag n D W br (fun i => h0 i + g i) → pk n f ≤ pk n g
theorem MdR.uniq (B : BW n D W br) {h0 f g : Int → Int} (hS : Stl br n h0) (a : MdR n D W br h0 f) (c : MdR n D W br h0 g) : ∀ i, In n i → f i = g i := by
  have r : ∀ {f : Int → Int}, (∀ i, In n i → 0 ≤ f i ∧ h0 i + f i < br i) → ∀ i, In n i → 0 ≤ f i ∧ f i ≤ 9 := fun h i hi => by
    have := h i hi
    have := hS i hi
    have := B.br10 hi
    omega
  have e1 := a.2.2 g c.1 c.2.1
  have e2 := c.2.2 f a.1 a.2.1
  intro i hi
  rw [← (pk_dig B.1 (r a.1)).1 i hi, ← (pk_dig B.1 (r c.1)).1 i hi, show pk n f = pk n g by omega]
theorem OrA.cag (B : BW n D W br) {h0 f : Int → Int} {p : Int → Bool} (hp : ∀ i, In n i → p i = true) (a : OrA n D W br h0 p f) : Cag n D W br (fun i => h0 i + f i) := by
  obtain ⟨L, K, h1, h2, h3⟩ := a
  refine cag_of B (L := L) (K := K) (fun j hj => ?_) (fun i hi => by rw [← h2 i hi]; exact hp i hi)
  obtain ⟨g1, g2, g3, g4⟩ := h1 j hj
  refine ⟨g1, g2, ?_⟩
  show br (L j) - (D (L j) + wT n W (L j) (bB L j)) ≤ h0 (L j) + f (L j)
  rw [g4]
  unfold lck
  omega
theorem OrA.of {h0 g : Int → Int} {p : Int → Bool} (hp : ∀ i, In n i → p i = true) (hg : ∀ i, In n i → 0 ≤ g i ∧ h0 i + g i < br i) (c : Cag n D W br (fun i => h0 i + g i)) : ∃ f, OrA n D W br h0 p f ∧ ∀ i, In n i → f i ≤ g i := by
  obtain ⟨L, a, hall⟩ := c.row
  have go : ∀ k : Nat, k ≤ n → ∃ f : Int → Int, ∀ j : Nat, j < k → f (L j) = lck n D W br h0 (bB L j) (L j) := by
    intro k
    induction k with
    | zero => intro _; exact ⟨fun _ => 0, fun j hj => by omega⟩
    | succ k ih =>
      intro hk
      obtain ⟨f, hf⟩ := ih (by omega)
      have hk0 := (a k (by omega)).2.1
      refine ⟨fun x => if x = L k then lck n D W br h0 (bB L k) (L k) else f x, fun j hj => ?_⟩
      by_cases q : j = k
      · subst q
        exact if_pos rfl
      · have ne : L j ≠ L k := fun e => by
          have h6 := bB_mem (L := L) (show j < k by omega)
          rw [e, hk0] at h6
          exact absurd h6 (by decide)
        show (if L j = L k then _ else f (L j)) = _
        rw [if_neg ne]
        exact hf j (by omega)
  obtain ⟨f, hf⟩ := go n (Nat.le_refl _)
  refine ⟨f, ⟨L, n, fun j hj => ?_, fun i hi => by rw [hp i hi, hall i hi], fun i hi q => by rw [hp i hi] at q; exact absurd q (by decide)⟩, fun i hi => ?_⟩
  · obtain ⟨h1, h2, h3⟩ := a j hj
    have h3' : br (L j) - (D (L j) + wT n W (L j) (bB L j)) ≤ h0 (L j) + g (L j) := h3
    have := hg (L j) h1
    exact ⟨h1, h2, by omega, hf j hj⟩
  · obtain ⟨j, hj, e⟩ := bB_ex (hall i hi)
    subst e
    obtain ⟨h1, h2, h3⟩ := a j hj
    have h3' : br (L j) - (D (L j) + wT n W (L j) (bB L j)) ≤ h0 (L j) + g (L j) := h3
    have := hg (L j) h1
    rw [hf j hj]
    unfold lck
    omega
/-- the least price of those that are so; none: the greatest number -/
def MinV (n : Nat) (Q : (Int → Int) → Prop) (c : Int) : Prop := (c = 2147483647 ∧ ∀ f, ¬ Q f) ∨ (c < 2147483647 ∧ (∃ f, Q f ∧ c = pk n f) ∧ ∀ f, Q f → c ≤ pk n f)
theorem MinV.congr {Q Q' : (Int → Int) → Prop} {c : Int} (h : MinV n Q c) (e : ∀ f, Q f ↔ Q' f) : MinV n Q' c := by
  rcases h with ⟨h1, h2⟩ | ⟨h1, ⟨f, h2, h3⟩, h4⟩
  · exact Or.inl ⟨h1, fun f q => h2 f ((e f).mpr q)⟩
  · exact Or.inr ⟨h1, ⟨f, (e f).mp h2, h3⟩, fun g q => h4 g ((e g).mpr q)⟩
theorem MinV.le {Q : (Int → Int) → Prop} {c : Int} (h : MinV n Q c) : c ≤ 2147483647 := by
  rcases h with ⟨h1, -⟩ | ⟨h1, -⟩ <;> omega
theorem MinV.min {Q Q' : (Int → Int) → Prop} {c c' : Int} (h : MinV n Q c) (h' : MinV n Q' c') : MinV n (fun f => Q f ∨ Q' f) (min c c') := by
  rcases h with ⟨h1, h2⟩ | ⟨h1, ⟨f, h2, h3⟩, h4⟩
  · rcases h' with ⟨g1, g2⟩ | ⟨g1, ⟨g, g2, g3⟩, g4⟩
    · exact Or.inl ⟨by omega, fun f q => q.elim (h2 f) (g2 f)⟩
    · exact Or.inr ⟨by omega, ⟨g, Or.inr g2, by omega⟩, fun f q => q.elim (fun q => absurd q (h2 f)) (fun q => by have := g4 f q; omega)⟩
  · rcases h' with ⟨g1, g2⟩ | ⟨g1, ⟨g, g2, g3⟩, g4⟩
    · exact Or.inr ⟨by omega, ⟨f, Or.inl h2, by omega⟩, fun x q => q.elim (fun q => by have := h4 x q; omega) (fun q => absurd q (g2 x))⟩
    · refine Or.inr ⟨by omega, ?_, fun x q => q.elim (fun q => by have := h4 x q; omega) (fun q => by have := g4 x q; omega)⟩
      by_cases q : c ≤ c'
      · exact ⟨f, Or.inl h2, by omega⟩
      · exact ⟨g, Or.inr g2, by omega⟩
theorem MinV.mdr (B : BW n D W br) {h0 : Int → Int} {p : Int → Bool} {c : Int} (hS : Stl br n h0) (hp : ∀ i, In n i → p i = true) (h : MinV n (OrA n D W br h0 p) c) : ∃ f, MdR n D W br h0 f ∧ c = pk n f := by
  have hb : ∀ i, In n i → 1 ≤ br i := fun i hi => (B.br hi).1
  rcases h with ⟨h1, h2⟩ | ⟨h1, ⟨f, h2, h3⟩, h4⟩
  · exfalso
    obtain ⟨f, hf, -⟩ := OrA.of (h0 := h0) (g := fun i => br i - 1 - h0 i) hp (fun i hi => by have := hS i hi; show 0 ≤ br i - 1 - h0 i ∧ h0 i + (br i - 1 - h0 i) < br i; omega) ((cag_full B).congr (fun i _ => by show br i - 1 = h0 i + (br i - 1 - h0 i); omega))
    exact h2 f hf
  · refine ⟨f, ⟨fun i hi => ⟨(h2.rng B hS i hi).1, (h2.rng B hS i hi).2.1⟩, h2.cag B hp, fun g hg hc => ?_⟩, h3⟩
    obtain ⟨f', hf', hle⟩ := OrA.of hp hg hc
    have e1 := h4 f' hf'
    have e2 := pk_mono hle
    omega
end Mend
