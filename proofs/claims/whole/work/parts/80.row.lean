/-- the set of the plates that are over -/
def ovr (n : Nat) (br g : Int → Int) : Int := bs n (fun i => decide (br i ≤ g i))
theorem ovr_congr {n : Nat} {br g h : Int → Int} (e : ∀ i, In n i → g i = h i) : ovr n br g = ovr n br h := bs_congr (fun i hi => by rw [e i hi])
/-- the heap behind so many topplings, each time of the least plate that is over -/
def gI (n : Nat) (W : Int → Int → Int) (br g : Int → Int) : Nat → Int → Int
  | 0 => g
  | k + 1 => fun i => gI n W br g k i - (if ovr n br (gI n W br g k) = 0 then 0 else Lp n W br (u1 (lsb (ovr n br (gI n W br g k)))) i)
theorem gI_congr {n : Nat} {W : Int → Int → Int} {br g h : Int → Int} (e : ∀ i, In n i → g i = h i) : ∀ k i, In n i → gI n W br g k i = gI n W br h k i
  | 0, i, hi => e i hi
  | k + 1, i, hi => by
    show gI n W br g k i - _ = gI n W br h k i - _
    rw [gI_congr e k i hi, ovr_congr (br := br) (gI_congr (W := W) (br := br) e k)]
/-- what row answers, and what it writes down -/
def RowR (n : Nat) (W : Int → Int → Int) (br g : Int → Int) (K : Nat) (z : Int) (L : Int → Int) : Prop :=
  K ≤ 60 ∧ (∀ j : Nat, j < K → ovr n br (gI n W br g j) ≠ 0) ∧ (K = 60 ∨ ovr n br (gI n W br g K) = 0) ∧ (∀ j : Nat, j < K → L j = lsb (ovr n br (gI n W br g j))) ∧ ∃ u, Stb n W br (gI n W br g K) u ∧ z = K + sm n u
theorem RowR.uniq {n : Nat} {W : Int → Int → Int} {br g h : Int → Int} {K K' : Nat} {z z' : Int} {L L' : Int → Int} (e : ∀ i, In n i → g i = h i) (h1 : RowR n W br g K z L) (h2 : RowR n W br h K' z' L') : K = K' ∧ z = z' ∧ ∀ j : Nat, j < K → L j = L' j := by
  obtain ⟨a1, b1, c1, d1, u, hu, e1⟩ := h1
  obtain ⟨a2, b2, c2, d2, v, hv, e2⟩ := h2
  have ho : ∀ j, ovr n br (gI n W br g j) = ovr n br (gI n W br h j) := fun j => ovr_congr (gI_congr e j)
  have hK : K = K' := by
    rcases Nat.lt_trichotomy K K' with q | q | q
    · rcases c1 with r | r
      · omega
      · exact absurd (by rw [← ho K]; exact r) (b2 K q)
    · exact q
    · rcases c2 with r | r
      · omega
      · exact absurd (by rw [ho K']; exact r) (b1 K' q)
  subst hK
  refine ⟨rfl, ?_, fun j hj => by rw [d1 j hj, d2 j hj, ho j]⟩
  rw [e1, e2, sm_congr (hu.uniq (hv.congr (fun i hi => (gI_congr e K i hi).symm)))]
