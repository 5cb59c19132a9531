/-! minors solve for one plate; a bound for the determinant; the own of a heap -/
def nprd : Nat → (Nat → Int) → Int
  | 0, _ => 1
  | k + 1, f => nprd k f * f k
theorem nprd_shift : ∀ (k : Nat) (f : Nat → Int), nprd (k + 1) f = f 0 * nprd k (fun j => f (j + 1))
  | 0, f => by show 1 * f 0 = f 0 * 1; omega
  | k + 1, f => by
    show nprd (k + 1) f * f (k + 1) = f 0 * (nprd k (fun j => f (j + 1)) * f (k + 1))
    rw [nprd_shift k f, Int.mul_assoc]
theorem nprd_le : ∀ {k : Nat} {f g : Nat → Int}, (∀ j, j < k → 0 ≤ f j ∧ f j ≤ g j) → 0 ≤ nprd k f ∧ nprd k f ≤ nprd k g
  | 0, _, _, _ => ⟨by show (0 : Int) ≤ 1; decide, Int.le_refl _⟩
  | k + 1, f, g, h => by
    have ih := nprd_le (k := k) (fun j hj => h j (by omega))
    have hk := h k (by omega)
    refine ⟨Int.mul_nonneg ih.1 hk.1, ?_⟩
    show nprd k f * f k ≤ nprd k g * g k
    have h1 := Int.mul_le_mul_of_nonneg_right ih.2 hk.1
    have h2 := Int.mul_le_mul_of_nonneg_left hk.2 (Int.le_trans ih.1 ih.2)
    omega
theorem nprd_mul : ∀ (k : Nat) (p : Int) (f : Nat → Int), nprd k (fun j => p * f j) = p ^ k * nprd k f
  | 0, p, f => by rw [Int.pow_zero]; rfl
  | k + 1, p, f => by
    show nprd k (fun j => p * f j) * (p * f k) = p ^ (k + 1) * (nprd k f * f k)
    rw [nprd_mul k p f, Int.pow_succ]
    generalize p ^ k = A
    generalize nprd k f = C
    generalize f k = E
    grind
theorem LG.diag : ∀ {k : Nat} {a : Nat → Nat → Int}, LG k a → ∀ i, i < k → 0 < a i i := by
  intro k a h i hi
  obtain ⟨h1, h2, ds, h3⟩ := h
  have hs : nsm k (a i) = nsm k (fun j => if j = i then 0 else a i j) + a i i := by
    have e : nsm k (a i) = nsm k (fun j => 1 * (if j = i then 0 else a i j) + a i i * (if j = i then 1 else 0)) := nsm_congr (fun j _ => by
      by_cases q : j = i
      · rw [if_pos q, if_pos q, q]; omega
      · rw [if_neg q, if_neg q]; omega)
    rw [e, nsm_lin (x := 1) (y := a i i) (g := fun j => if j = i then 0 else a i j) (h := fun j => if j = i then 1 else 0) (fun j _ => rfl)]
    have one : ∀ t : Nat, i < t → nsm t (fun j => if j = i then (1 : Int) else 0) = 1 := by
      have zero : ∀ t : Nat, t ≤ i → nsm t (fun j => if j = i then (1 : Int) else 0) = 0 := by
        intro t
        induction t with
        | zero => intro _; rfl
        | succ t ih =>
          intro ht
          show nsm t (fun j => if j = i then (1 : Int) else 0) + (if t = i then 1 else 0) = 0
          rw [ih (by omega), if_neg (by omega)]; rfl
      intro t
      induction t with
      | zero => intro h; omega
      | succ t ih =>
        intro ht
        show nsm t (fun j => if j = i then (1 : Int) else 0) + (if t = i then 1 else 0) = 1
        by_cases q : t = i
        · rw [if_pos q, zero t (by omega)]; rfl
        · rw [if_neg q, ih (by omega)]; rfl
    rw [one k hi]
    omega
  have hn : ∀ j, j < k → (if j = i then 0 else a i j) ≤ 0 := fun j hj => by
    by_cases q : j = i
    · rw [if_pos q]; exact Int.le_refl 0
    · rw [if_neg q]; exact h1 i j hi hj (fun r => q r.symm)
  have h4 := nsm_npos hn
  have h5 := h2 i hi
  rcases h3 i hi with h6 | ⟨j, hj, hji, h7, -⟩
  · omega
  · have h8 := nsm_term hn j hj
    rw [if_neg hji] at h8
    omega
theorem LG.had : ∀ {k : Nat} {a : Nat → Nat → Int}, k ≤ 5 → LG k a → dtm k a ≤ nprd k (fun i => a i i)
  | 0, _, _, _ => Int.le_refl _
  | 1, a, _, h => by
    show 0 + a 0 0 * 1 ≤ 1 * a 0 0
    omega
  | k + 2, a, hk, h => by
    have hp := h.first
    have ih := LG.had (k := k + 1) (by omega) h.less
    have e : a 0 0 ^ (k + 1) * dtm (k + 2) a = a 0 0 * dtm (k + 1) (chi a) := chio (k := k + 1) hk (by omega) a
    have hd := h.less.diag
    have h1 := nprd_le (k := k + 1) (f := fun i => chi a i i) (g := fun i => a 0 0 * a (i + 1) (i + 1)) (fun i hi => ⟨Int.le_of_lt (hd i hi), by
      show a 0 0 * a (i + 1) (i + 1) - a (i + 1) 0 * a 0 (i + 1) ≤ a 0 0 * a (i + 1) (i + 1)
      have := Int.mul_nonneg_of_nonpos_of_nonpos (h.1 (i + 1) 0 (by omega) (by omega) (by omega)) (h.1 0 (i + 1) (by omega) (by omega) (by omega))
      omega⟩)
    have h2 := Int.le_trans ih h1.2
    rw [nprd_mul (k + 1) (a 0 0) (fun i => a (i + 1) (i + 1))] at h2
    have h3 := Int.mul_le_mul_of_nonneg_left h2 (Int.le_of_lt hp)
    rw [← e] at h3
    have hpw := pow_pos' hp (k + 1)
    rw [nprd_shift (k + 1) (fun i => a i i)]
    refine Int.le_of_mul_le_mul_left (a := a 0 0 ^ (k + 1)) ?_ hpw
    refine Int.le_trans h3 (Int.le_of_eq ?_)
    generalize a 0 0 ^ (k + 1) = A
    generalize nprd (k + 1) (fun i => a (i + 1) (i + 1)) = C
    generalize a 0 0 = E
    grind
theorem BW.det_le {n : Nat} {D : Int → Int} {W : Int → Int → Int} {br : Int → Int} (B : BW n D W br) : dtm n (enN W br) ≤ 100000 := by
  have h := B.LG.had B.1
  have h2 := nprd_le (k := n) (f := fun i => enN W br i i) (g := fun _ => 10) (fun i hi => by
    show 0 ≤ (if i = i then br i else _) ∧ (if i = i then br i else _) ≤ 10
    rw [if_pos rfl]
    have h1 := B.br (i := (i : Int)) ⟨by omega, by omega⟩
    have h2 := B.br10 (i := (i : Int)) ⟨by omega, by omega⟩
    omega)
  have h3 : nprd n (fun _ => (10 : Int)) ≤ 100000 := by
    have hn := B.1
    have hn2 : n = 0 ∨ n = 1 ∨ n = 2 ∨ n = 3 ∨ n = 4 ∨ n = 5 := by omega
    rcases hn2 with rfl | rfl | rfl | rfl | rfl | rfl <;> decide
  exact Int.le_trans h (Int.le_trans h2.2 h3)
/-- a minor with its sign -/
def cof (n : Nat) (W : Int → Int → Int) (br : Int → Int) (i j : Int) : Int := if (i + j) % 2 = 0 then dtm (n - 1) (mnr (enN W br) i.toNat j.toNat) else - dtm (n - 1) (mnr (enN W br) i.toNat j.toNat)
theorem nsm_sgs (i : Nat) (f g : Nat → Int) : ∀ k, nsm k (fun j => f j * (if (i + j) % 2 = 0 then g j else - g j)) = if i % 2 = 0 then sgs k (fun j => f j * g j) else - sgs k (fun j => f j * g j)
  | 0 => by show (0 : Int) = (if i % 2 = 0 then 0 else -0); split <;> rfl
  | k + 1 => by
    show nsm k (fun j => f j * (if (i + j) % 2 = 0 then g j else - g j)) + f k * (if (i + k) % 2 = 0 then g k else - g k) = if i % 2 = 0 then sgs k (fun j => f j * g j) + (if k % 2 = 0 then f k * g k else - (f k * g k)) else - (sgs k (fun j => f j * g j) + (if k % 2 = 0 then f k * g k else - (f k * g k)))
    rw [nsm_sgs i f g k]
    by_cases hi : i % 2 = 0
    · rw [if_pos hi, if_pos hi]
      by_cases hk : k % 2 = 0
      · rw [if_pos hk, if_pos (by omega)]
      · rw [if_neg hk, if_neg (by omega), Int.mul_neg]
    · rw [if_neg hi, if_neg hi]
      by_cases hk : k % 2 = 0
      · rw [if_pos hk, if_neg (by omega), Int.mul_neg]; omega
      · rw [if_neg hk, if_pos (by omega)]; omega
section Own
variable {n : Nat} {D : Int → Int} {W : Int → Int → Int} {br : Int → Int}
theorem Lp_en (B : BW n D W br) (u : Int → Int) (r : Nat) (hr : r < n) : Lp n W br u r = nsm n (fun j => enN W br r j * u j) := by
  have hr2 : In n (r : Int) := ⟨by omega, by omega⟩
  have e : nsm n (fun j => enN W br r j * u j) = nsm n (fun j : Nat => (fun x : Int => (if x = (r : Int) then br r * u r else 0) - W r x * u x) j) := nsm_congr (fun j hj => by
    show (if r = j then br r else - W r j) * u j = (if (j : Int) = (r : Int) then br r * u r else 0) - W r j * u j
    by_cases q : r = j
    · rw [if_pos q, if_pos (by omega), ← q, B.2.2.2.1 r hr2, Int.zero_mul]; omega
    · rw [if_neg q, if_neg (by omega), Int.neg_mul]; omega)
  rw [e]
  refine Eq.symm ((nsm_sm n (fun x : Int => (if x = (r : Int) then br r * u r else 0) - W r x * u x)).trans ?_)
  rw [sm_sub, sm_one, if_pos hr2]
  rfl
theorem Lp_cof (B : BW n D W br) {i r : Int} (hi : In n i) (hr : In n r) : Lp n W br (cof n W br i) r = if r = i then dtm n (enN W br) else 0 := by
  have hn5 := B.1
  obtain ⟨i', rfl⟩ : ∃ t : Nat, i = (t : Int) := ⟨i.toNat, by have := hi.1; omega⟩
  obtain ⟨r', rfl⟩ : ∃ t : Nat, r = (t : Int) := ⟨r.toNat, by have := hr.1; omega⟩
  have hi' : i' < n := by have := hi.2; omega
  have hr' : r' < n := by have := hr.2; omega
  rw [Lp_en B _ r' hr']
  obtain ⟨k, rfl⟩ : ∃ k, n = k + 1 := ⟨n - 1, by omega⟩
  have e : nsm (k + 1) (fun j => enN W br r' j * cof (k + 1) W br i' j) = nsm (k + 1) (fun j => enN W br r' j * (if (i' + j) % 2 = 0 then dtm k (mnr (enN W br) i' j) else - dtm k (mnr (enN W br) i' j))) := nsm_congr (fun j _ => by
    unfold cof
    rw [Int.toNat_natCast, Int.toNat_natCast, show k + 1 - 1 = k by omega]
    by_cases q : (i' + j) % 2 = 0
    · rw [if_pos q, if_pos (by omega)]
    · rw [if_neg q, if_neg (by omega)])
  rw [e, nsm_sgs i' (enN W br r') (fun j => dtm k (mnr (enN W br) i' j)) (k + 1), dtm_adj hn5 (enN W br) hr' hi']
  by_cases q : r' = i'
  · rw [if_pos q, if_pos (show (r' : Int) = (i' : Int) by omega)]
    by_cases p : i' % 2 = 0
    · rw [if_pos p, if_pos p]
    · rw [if_neg p, if_neg p]; omega
  · rw [if_neg q, if_neg (show ¬ (r' : Int) = (i' : Int) by omega)]
    split <;> rfl
/-- Z is the own of X -/
def OwR (n : Nat) (W : Int → Int → Int) (br X Z : Int → Int) : Prop := ∃ Y z u, (∀ i, In n i → br i - 1 ≤ Y i) ∧ (∀ i, In n i → Y i = X i - Lp n W br z i) ∧ Stb n W br Y u ∧ ∀ i, In n i → Z i = Y i - Lp n W br u i
theorem OwR.shift {X X' Z w : Int → Int} (h : OwR n W br X Z) (e : ∀ i, In n i → X i = X' i - Lp n W br w i) : OwR n W br X' Z := by
  obtain ⟨Y, z, u, h1, h2, h3, h4⟩ := h
  refine ⟨Y, fun i => z i + w i, u, h1, fun i hi => ?_, h3, h4⟩
  rw [Lp_add, h2 i hi, e i hi]; omega
theorem OwR.congr {X X' Z : Int → Int} (h : OwR n W br X Z) (e : ∀ i, In n i → X i = X' i) : OwR n W br X' Z := by
  obtain ⟨Y, z, u, h1, h2, h3, h4⟩ := h
  exact ⟨Y, z, u, h1, fun i hi => by rw [h2 i hi, e i hi], h3, h4⟩
theorem OwR.uniq (B : BW n D W br) {X Z Z' : Int → Int} (h : OwR n W br X Z) (h' : OwR n W br X Z') : ∀ i, In n i → Z i = Z' i := by
  obtain ⟨Y, z, u, h1, h2, h3, h4⟩ := h
  obtain ⟨Y', z', u', h1', h2', h3', h4'⟩ := h'
  intro i hi
  have hz : ∀ i, In n i → Y' i = Y i - Lp n W br (fun j => z' j - z j) i := fun i hi => by rw [Lp_sub, h2 i hi, h2' i hi]; omega
  rw [h4 i hi, h4' i hi]
  exact same_end B h1 h1' hz h3 h3' i hi
theorem OwR.rng (B : BW n D W br) {X Z : Int → Int} (h : OwR n W br X Z) {i : Int} (hi : In n i) : 0 ≤ Z i ∧ Z i < br i := by
  obtain ⟨Y, z, u, h1, h2, h3, h4⟩ := h
  rw [h4 i hi]
  have hY : ∀ i, In n i → 0 ≤ Y i := fun i hi => by
    have := h1 i hi
    have := (B.br hi).1
    omega
  exact ⟨h3.nonneg B hY i hi, h3.2.1 i hi⟩
/-- the own of X is one with X -/
theorem OwR.one {X Z : Int → Int} (h : OwR n W br X Z) : ∃ w, ∀ i, In n i → Z i = X i - Lp n W br w i := by
  obtain ⟨Y, z, u, h1, h2, h3, h4⟩ := h
  exact ⟨fun i => z i + u i, fun i hi => by rw [Lp_add, h4 i hi, h2 i hi]; omega⟩
/-- Z is the bare of X -/
def BaR (n : Nat) (W : Int → Int → Int) (br X Z : Int → Int) : Prop := ∃ O, OwR n W br (fun i => br i - 1 - X i) O ∧ ∀ i, In n i → Z i = br i - 1 - O i
theorem BaR.uniq (B : BW n D W br) {X X' Z Z' : Int → Int} (e : ∀ i, In n i → X i = X' i) (h : BaR n W br X Z) (h' : BaR n W br X' Z') : ∀ i, In n i → Z i = Z' i := by
  obtain ⟨O, h1, h2⟩ := h
  obtain ⟨O', h1', h2'⟩ := h'
  intro i hi
  rw [h2 i hi, h2' i hi, h1.uniq B (h1'.congr (fun i hi => by rw [e i hi])) i hi]
theorem BaR.rng (B : BW n D W br) {X Z : Int → Int} (h : BaR n W br X Z) {i : Int} (hi : In n i) : 0 ≤ Z i ∧ Z i < br i := by
  obtain ⟨O, h1, h2⟩ := h
  have := h1.rng B hi
  rw [h2 i hi]
  omega
/-- the class's filler -/
def FlR (n : Nat) (W : Int → Int → Int) (br f : Int → Int) : Prop := (∀ i, In n i → br i + 3 ≤ f i ∧ f i ≤ 22) ∧ ∃ z, ∀ i, In n i → f i = Lp n W br z i
/-- the reference's nothing -/
def NiR (n : Nat) (W : Int → Int → Int) (br f : Int → Int) : Prop := ∃ c z v, (∀ i, In n i → br i - 1 ≤ c i) ∧ (∀ i, In n i → c i = Lp n W br z i) ∧ Stb n W br c v ∧ ∀ i, In n i → f i = c i - Lp n W br v i
theorem NiR.own {f : Int → Int} (h : NiR n W br f) : OwR n W br (fun _ => 0) f := by
  obtain ⟨c, z, v, h1, h2, h3, h4⟩ := h
  refine ⟨c, fun i => 0 - z i, v, h1, fun i hi => ?_, h3, h4⟩
  have L0 : Lp n W br (fun _ => (0 : Int)) i = 0 := by
    unfold Lp
    have : sm n (fun j => W i j * 0) = 0 := (sm_congr (fun j _ => Int.mul_zero _)).trans (sm_zero n)
    rw [this]; simp
  rw [Lp_sub (u := fun _ => 0), L0, h2 i hi]
  show Lp n W br z i = 0 - (0 - Lp n W br z i)
  omega
/-- what is settled with nothing added is an own -/
theorem NiR.add {f e u w X : Int → Int} (h : NiR n W br f) (he : ∀ i, In n i → 0 ≤ e i) (hw : ∀ i, In n i → e i = X i - Lp n W br w i) (hu : Stb n W br (fun i => e i + f i) u) : OwR n W br X (fun i => e i + f i - Lp n W br u i) := by
  obtain ⟨c, z, v, h1, h2, h3, h4⟩ := h
  have hc := Stb.comp he h3 (w := u) (hu.congr (fun i hi => by show e i + f i = c i - Lp n W br v i + e i; rw [h4 i hi]; omega))
  refine ⟨fun i => c i + e i, fun i => w i - z i, _, fun i hi => ?_, fun i hi => ?_, hc, fun i hi => ?_⟩
  · have := h1 i hi
    have := he i hi
    show br i - 1 ≤ c i + e i
    omega
  · show c i + e i = X i - Lp n W br (fun j => w j - z j) i
    rw [Lp_sub, h2 i hi, hw i hi]; omega
  · show e i + f i - Lp n W br u i = c i + e i - Lp n W br (fun j => v j + u j) i
    rw [Lp_add, h4 i hi]; omega
end Own
