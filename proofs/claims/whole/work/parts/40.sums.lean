/-! Sums, and heaps that settle. -/
def sm : Nat → (Int → Int) → Int
  | 0, _ => 0
  | k + 1, f => sm k f + f k
abbrev In (n : Nat) (i : Int) : Prop := 0 ≤ i ∧ i < (n : Int)
theorem sm_congr : ∀ {n : Nat} {f g : Int → Int}, (∀ i, In n i → f i = g i) → sm n f = sm n g
  | 0, _, _, _ => rfl
  | k + 1, f, g, h => by
    show sm k f + f k = sm k g + g k
    rw [sm_congr (fun i hi => h i ⟨hi.1, by omega⟩), h k ⟨by omega, by omega⟩]
theorem sm_add : ∀ (n : Nat) (f g : Int → Int), sm n (fun i => f i + g i) = sm n f + sm n g
  | 0, _, _ => rfl
  | k + 1, f, g => by
    show sm k _ + (f k + g k) = (sm k f + f k) + (sm k g + g k)
    rw [sm_add k f g]; omega
theorem sm_sub : ∀ (n : Nat) (f g : Int → Int), sm n (fun i => f i - g i) = sm n f - sm n g
  | 0, _, _ => rfl
  | k + 1, f, g => by
    show sm k _ + (f k - g k) = (sm k f + f k) - (sm k g + g k)
    rw [sm_sub k f g]; omega
theorem sm_mul : ∀ (n : Nat) (c : Int) (f : Int → Int), sm n (fun i => c * f i) = c * sm n f
  | 0, c, _ => by show (0 : Int) = c * 0; omega
  | k + 1, c, f => by
    show sm k _ + c * f k = c * (sm k f + f k)
    rw [sm_mul k c f, Int.mul_add]
theorem sm_zero : ∀ (n : Nat), sm n (fun _ => 0) = 0
  | 0 => rfl
  | k + 1 => by show sm k _ + 0 = 0; rw [sm_zero k]; rfl
theorem sm_nonneg : ∀ {n : Nat} {f : Int → Int}, (∀ i, In n i → 0 ≤ f i) → 0 ≤ sm n f
  | 0, _, _ => Int.le_refl 0
  | k + 1, f, h => by
    have h1 := sm_nonneg (n := k) (f := f) (fun i hi => h i ⟨hi.1, by omega⟩)
    have h2 := h k ⟨by omega, by omega⟩
    show 0 ≤ sm k f + f k
    omega
theorem sm_le : ∀ {n : Nat} {f g : Int → Int}, (∀ i, In n i → f i ≤ g i) → sm n f ≤ sm n g
  | 0, _, _, _ => Int.le_refl 0
  | k + 1, f, g, h => by
    have h1 := sm_le (n := k) (f := f) (g := g) (fun i hi => h i ⟨hi.1, by omega⟩)
    have h2 := h k ⟨by omega, by omega⟩
    show sm k f + f k ≤ sm k g + g k
    omega
theorem sm_term : ∀ {n : Nat} {f : Int → Int} (_ : ∀ i, In n i → 0 ≤ f i) (j : Int) (_ : In n j), f j ≤ sm n f
  | 0, _, _, j, hj => by omega
  | k + 1, f, h, j, hj => by
    have h0 := sm_nonneg (n := k) (f := f) (fun i hi => h i ⟨hi.1, by omega⟩)
    have hk := h k ⟨by omega, by omega⟩
    show f j ≤ sm k f + f k
    by_cases e : j = k
    · subst e; omega
    · have h1 := sm_term (n := k) (f := f) (fun i hi => h i ⟨hi.1, by omega⟩) j ⟨hj.1, by omega⟩
      omega
/-- one place of a sum -/
theorem sm_one : ∀ (n : Nat) (p x : Int), sm n (fun i => if i = p then x else 0) = if 0 ≤ p ∧ p < (n : Int) then x else 0
  | 0, p, x => by
    show (0 : Int) = _
    rw [if_neg (by omega)]
  | k + 1, p, x => by
    show sm k _ + (if (k : Int) = p then x else 0) = _
    rw [sm_one k p x]
    by_cases e : (k : Int) = p
    · rw [if_pos e, if_neg (by omega), if_pos (by omega)]; omega
    · rw [if_neg e]
      by_cases h : 0 ≤ p ∧ p < (k : Int)
      · rw [if_pos h, if_pos (by omega)]; omega
      · rw [if_neg h, if_neg (by omega)]; rfl
theorem sm_swap : ∀ (n k : Nat) (f : Int → Int → Int), sm n (fun i => sm k (fun j => f i j)) = sm k (fun j => sm n (fun i => f i j))
  | 0, k, f => (sm_zero k).symm
  | n + 1, k, f => by
    show sm n _ + sm k (fun j => f n j) = _
    rw [sm_swap n k f, ← sm_add]
    rfl
theorem sm_upd (n : Nat) (f : Int → Int) (p x : Int) (hp : In n p) : sm n (fun i => if i = p then f i + x else f i) = sm n f + x := by
  have e : sm n (fun i => if i = p then f i + x else f i) = sm n (fun i => f i + (if i = p then x else 0)) := sm_congr (fun i _ => by split <;> omega)
  rw [e, sm_add, sm_one, if_pos hp]
/-- a table: plates, to the drain, from plate to plate, brims; a way to the drain from each -/
def BW (n : Nat) (D : Int → Int) (W : Int → Int → Int) (br : Int → Int) : Prop :=
  n ≤ 5 ∧ (∀ i, In n i → 0 ≤ D i ∧ D i ≤ 2) ∧ (∀ i j, In n i → In n j → 0 ≤ W i j ∧ W i j ≤ 2 ∧ W i j = W j i) ∧ (∀ i, In n i → W i i = 0) ∧ (∀ i, In n i → br i = D i + sm n (W i)) ∧
  ∃ ds : Int → Nat, ∀ i, In n i → ds i ≤ 5 ∧ (D i > 0 ∨ ∃ j, In n j ∧ W i j > 0 ∧ ds j < ds i)
/-- what so many topplings of each plate take from a plate -/
def Lp (n : Nat) (W : Int → Int → Int) (br u : Int → Int) (i : Int) : Int := br i * u i - sm n (fun j => W i j * u j)
/-- these topplings settle the heap, and none does with fewer of any plate -/
def Stb (n : Nat) (W : Int → Int → Int) (br g u : Int → Int) : Prop :=
  (∀ i, In n i → 0 ≤ u i) ∧ (∀ i, In n i → g i - Lp n W br u i < br i) ∧ ∀ v : Int → Int, (∀ i, In n i → 0 ≤ v i) → (∀ i, In n i → g i - Lp n W br v i < br i) → ∀ i, In n i → u i ≤ v i
theorem Stb.uniq {n : Nat} {W : Int → Int → Int} {br g u v : Int → Int} (h1 : Stb n W br g u) (h2 : Stb n W br g v) : ∀ i, In n i → u i = v i := fun i hi => by
  have a := h1.2.2 v h2.1 h2.2.1 i hi
  have b := h2.2.2 u h1.1 h1.2.1 i hi
  omega
theorem Lp_congr {n : Nat} {W : Int → Int → Int} {br u v : Int → Int} (h : ∀ i, In n i → u i = v i) : ∀ i, In n i → Lp n W br u i = Lp n W br v i := fun i hi => by
  unfold Lp
  rw [h i hi, sm_congr (fun j hj => by rw [h j hj])]
theorem Lp_add {n : Nat} {W : Int → Int → Int} {br u v : Int → Int} (i : Int) : Lp n W br (fun j => u j + v j) i = Lp n W br u i + Lp n W br v i := by
  unfold Lp
  have e : sm n (fun j => W i j * (u j + v j)) = sm n (fun j => W i j * u j) + sm n (fun j => W i j * v j) := by
    rw [← sm_add]; exact sm_congr (fun j _ => Int.mul_add _ _ _)
  rw [e, Int.mul_add]; omega
theorem Lp_sub {n : Nat} {W : Int → Int → Int} {br u v : Int → Int} (i : Int) : Lp n W br (fun j => u j - v j) i = Lp n W br u i - Lp n W br v i := by
  unfold Lp
  have e : sm n (fun j => W i j * (u j - v j)) = sm n (fun j => W i j * u j) - sm n (fun j => W i j * v j) := by
    rw [← sm_sub]; exact sm_congr (fun j _ => Int.mul_sub _ _ _)
  rw [e, Int.mul_sub]; omega
theorem Lp_one {n : Nat} {W : Int → Int → Int} {br : Int → Int} (p k i : Int) (hp : In n p) : Lp n W br (fun j => if j = p then k else 0) i = (if i = p then br i * k else 0) - W i p * k := by
  unfold Lp
  have e : sm n (fun j => W i j * (if j = p then k else 0)) = sm n (fun j => if j = p then W i p * k else 0) := sm_congr (fun j _ => by
    by_cases h : j = p
    · subst h; simp
    · simp [h])
  rw [e, sm_one, if_pos hp]
  by_cases h : i = p <;> simp [h]
theorem Stb.congr {n : Nat} {W : Int → Int → Int} {br g g' u : Int → Int} (h : Stb n W br g u) (hg : ∀ i, In n i → g i = g' i) : Stb n W br g' u :=
  ⟨h.1, fun i hi => by rw [← hg i hi]; exact h.2.1 i hi, fun v h1 h2 => h.2.2 v h1 (fun i hi => by rw [hg i hi]; exact h2 i hi)⟩
theorem Stb.congr' {n : Nat} {W : Int → Int → Int} {br g u u' : Int → Int} (h : Stb n W br g u) (hu : ∀ i, In n i → u i = u' i) : Stb n W br g u' :=
  ⟨fun i hi => by rw [← hu i hi]; exact h.1 i hi, fun i hi => by rw [← Lp_congr hu i hi]; exact h.2.1 i hi, fun v h1 h2 i hi => by rw [← hu i hi]; exact h.2.2 v h1 h2 i hi⟩
/-- first this, then more on it: as all at once -/
theorem Stb.comp {n : Nat} {W : Int → Int → Int} {br g e u w : Int → Int} (he : ∀ i, In n i → 0 ≤ e i) (h1 : Stb n W br g u) (h2 : Stb n W br (fun i => g i - Lp n W br u i + e i) w) : Stb n W br (fun i => g i + e i) (fun i => u i + w i) := by
  refine ⟨fun i hi => ?_, fun i hi => ?_, fun v hv hs => ?_⟩
  · have := h1.1 i hi
    have := h2.1 i hi
    show 0 ≤ u i + w i
    omega
  · have := h2.2.1 i hi
    rw [Lp_add]
    have h3 : g i - Lp n W br u i + e i - Lp n W br w i < br i := this
    show g i + e i - _ < _
    omega
  · have hu : ∀ i, In n i → u i ≤ v i := h1.2.2 v hv (fun i hi => by
      have := hs i hi
      have := he i hi
      have h3 : g i + e i - Lp n W br v i < br i := hs i hi
      omega)
    have hw := h2.2.2 (fun j => v j - u j) (fun i hi => by have := hu i hi; show 0 ≤ v i - u i; omega) (fun i hi => by
      rw [Lp_sub]
      have h3 : g i + e i - Lp n W br v i < br i := hs i hi
      show g i - Lp n W br u i + e i - _ < _
      omega)
    intro i hi
    have h5 : w i ≤ v i - u i := hw i hi
    show u i + w i ≤ v i
    omega
/-- nothing to do -/
theorem Stb.none {n : Nat} {W : Int → Int → Int} {br g : Int → Int} (h : ∀ i, In n i → g i < br i) : Stb n W br g (fun _ => 0) := by
  have h0 : ∀ i, Lp n W br (fun _ => 0) i = 0 := fun i => by
    unfold Lp
    have : sm n (fun j => W i j * 0) = 0 := (sm_congr (fun j _ => Int.mul_zero _)).trans (sm_zero n)
    rw [this]; simp
  exact ⟨fun _ _ => Int.le_refl 0, fun i hi => by rw [h0]; have := h i hi; omega, fun v hv _ i hi => hv i hi⟩
/-- on the way: what has toppled so far is no more than must -/
def Way (n : Nat) (W : Int → Int → Int) (br g u : Int → Int) : Prop :=
  (∀ i, In n i → 0 ≤ u i) ∧ (∀ i, In n i → 0 ≤ g i - Lp n W br u i) ∧ ∀ v : Int → Int, (∀ i, In n i → 0 ≤ v i) → (∀ i, In n i → g i - Lp n W br v i < br i) → ∀ i, In n i → u i ≤ v i
theorem Way.start {n : Nat} {W : Int → Int → Int} {br g : Int → Int} (h : ∀ i, In n i → 0 ≤ g i) : Way n W br g (fun _ => 0) := by
  have h0 : ∀ i, Lp n W br (fun _ => 0) i = 0 := fun i => by
    unfold Lp
    have : sm n (fun j => W i j * 0) = 0 := (sm_congr (fun j _ => Int.mul_zero _)).trans (sm_zero n)
    rw [this]; simp
  exact ⟨fun _ _ => Int.le_refl 0, fun i hi => by rw [h0]; have := h i hi; omega, fun v hv _ i hi => hv i hi⟩
theorem Way.done {n : Nat} {W : Int → Int → Int} {br g u : Int → Int} (h : Way n W br g u) (hs : ∀ i, In n i → g i - Lp n W br u i < br i) : Stb n W br g u := ⟨h.1, hs, h.2.2⟩
theorem Way.congr {n : Nat} {W : Int → Int → Int} {br g u u' : Int → Int} (h : Way n W br g u) (hu : ∀ i, In n i → u i = u' i) : Way n W br g u' :=
  ⟨fun i hi => by rw [← hu i hi]; exact h.1 i hi, fun i hi => by rw [← Lp_congr hu i hi]; exact h.2.1 i hi, fun v h1 h2 i hi => by rw [← hu i hi]; exact h.2.2 v h1 h2 i hi⟩
/-- a plate topples so often, no oftener than it can -/
theorem Way.tip {n : Nat} {D : Int → Int} {W : Int → Int → Int} {br g u : Int → Int} (B : BW n D W br) (h : Way n W br g u) {p k : Int} (hp : In n p) (hk : 0 ≤ k) (hc : k * br p ≤ g p - Lp n W br u p) : Way n W br g (fun i => u i + (if i = p then k else 0)) := by
  obtain ⟨-, hD, hW, hd, -, -⟩ := B
  refine ⟨fun i hi => ?_, fun i hi => ?_, fun v hv hs i hi => ?_⟩
  · have := h.1 i hi
    show 0 ≤ u i + (if i = p then k else 0)
    split <;> omega
  · rw [Lp_add, Lp_one p k i hp]
    have h1 := h.2.1 i hi
    by_cases e : i = p
    · subst e
      rw [if_pos rfl, hd i hi, Int.mul_comm (br i) k]
      omega
    · rw [if_neg e]
      have h2 : 0 ≤ W i p * k := Int.mul_nonneg (hW i p hi hp).1 hk
      omega
  · have hu := h.2.2 v hv hs
    show u i + (if i = p then k else 0) ≤ v i
    by_cases e : i = p
    · subst e
      rw [if_pos rfl]
      have h1 := hs i hi
      have h2 : sm n (fun j => W i j * u j) ≤ sm n (fun j => W i j * v j) := sm_le (fun j hj => Int.mul_le_mul_of_nonneg_left (hu j hj) (hW i j hi hj).1)
      unfold Lp at hc h1
      rcases Int.lt_or_le (v i) (u i + k) with h3 | h3
      · exfalso
        have h0 : 0 ≤ k - 1 - (v i - u i) := by omega
        have hbr : 0 ≤ br i := by
          rcases Int.lt_or_le (br i) 0 with q | q
          · have h4 := hu i hi
            have h5 : br i * (v i - u i) ≤ 0 := Int.mul_nonpos_of_nonpos_of_nonneg (by omega) (by omega)
            rw [Int.mul_sub] at h5
            have h6 := h.2.1 i hi
            unfold Lp at h6
            have h7 := hv i hi
            omega
          · exact q
        have h4 : 0 ≤ br i * (k - 1 - (v i - u i)) := Int.mul_nonneg hbr h0
        have h5 : br i * (k - 1 - (v i - u i)) = k * br i - br i - br i * v i + br i * u i := by
          rw [Int.mul_sub, Int.mul_sub, Int.mul_sub, Int.mul_one, Int.mul_comm (br i) k]; omega
        omega
      · exact h3
    · rw [if_neg e]
      have := hu i hi
      omega
