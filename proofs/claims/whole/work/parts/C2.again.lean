/-! heaps that come again: no set of plates stays unburnt; their least level -/
section Cag
variable {l : Launch} {G : GT} {d : Nat} {m : MM} {b : Nat} {n : Nat} {D : Int → Int} {W : Int → Int → Int} {br : Int → Int}
def Cag (n : Nat) (D : Int → Int) (W : Int → Int → Int) (br h : Int → Int) : Prop := ∀ B : Int → Bool, (∃ i, In n i ∧ B i = false) → ∃ i, In n i ∧ okB n D W br h B i
theorem Cag.congr {h h' : Int → Int} (c : Cag n D W br h) (e : ∀ i, In n i → h i = h' i) : Cag n D W br h' := fun B hB => by
  obtain ⟨i, hi, ho⟩ := c B hB
  exact ⟨i, hi, (okB_congr (e i hi)).mp ho⟩
theorem Cag.more {h h' : Int → Int} (c : Cag n D W br h) (e : ∀ i, In n i → h i ≤ h' i) : Cag n D W br h' := fun B hB => by
  obtain ⟨i, hi, h1, h2⟩ := c B hB
  exact ⟨i, hi, h1, by have := e i hi; omega⟩
theorem wT_mono (B : BW n D W br) {i : Int} (hi : In n i) {p q : Int → Bool} (h : ∀ j, In n j → p j = true → q j = true) : wT n W i p ≤ wT n W i q := by
  refine sm_le (fun j hj => ?_)
  have := (B.2.2.1 i j hi hj).1
  show (if p j = true then W i j else 0) ≤ (if q j = true then W i j else 0)
  by_cases e : p j = true
  · rw [if_pos e, if_pos (h j hj e)]; exact Int.le_refl _
  · rw [if_neg e]; split <;> omega
theorem bB_in {L : Int → Int} {k : Nat} {x : Int} : bB L (k + 1) x = true ↔ bB L k x = true ∨ x = L k := by
  show (bB L k x || decide (x = L k)) = true ↔ _
  rw [Bool.or_eq_true, decide_eq_true_eq]
theorem cag_of (B : BW n D W br) {h L : Int → Int} {K : Nat} (a : ∀ j : Nat, j < K → In n (L j) ∧ okB n D W br h (bB L j) (L j)) (hall : ∀ i, In n i → bB L K i = true) : Cag n D W br h := by
  intro S hS
  apply Classical.byContradiction
  intro hno
  have go : ∀ k : Nat, k ≤ K → ∀ i, In n i → bB L k i = true → S i = true := by
    intro k
    induction k with
    | zero => intro _ i _ q; exact absurd q (by show ¬ false = true; decide)
    | succ k ih =>
      intro hk i hi hb
      rcases bB_in.mp hb with q | q
      · exact ih (by omega) i hi q
      · subst q
        obtain ⟨h1, h2, h3⟩ := a k (by omega)
        cases hs : S (L k) with
        | true => rfl
        | false =>
          exfalso
          refine hno ⟨L k, h1, hs, ?_⟩
          have := wT_mono B h1 (ih (by omega))
          omega
  obtain ⟨i, hi, hf⟩ := hS
  have := go K (Nat.le_refl _) i hi (hall i hi)
  rw [hf] at this
  exact absurd this (by decide)
theorem NxB.ok {h : Int → Int} {p : Int → Bool} {z : Int} (a : NxB n D W br h p z) (hz : In n z) : okB n D W br h p z := by
  rcases a with ⟨h1, -⟩ | ⟨-, h2, -⟩
  · have := hz.1; omega
  · exact h2
theorem FiR.cag (B : BW n D W br) {h L : Int → Int} {K : Nat} (f : FiR n D W br h K L) : K = n ↔ Cag n D W br h := by
  constructor
  · intro e
    exact cag_of B (fun j hj => ⟨(f.1 j hj).1, (f.1 j hj).2.ok (f.1 j hj).1⟩) ((FiR.all f.1).mpr e)
  · intro c
    refine (FiR.all f.1).mp (fun i hi => ?_)
    cases hb : bB L K i with
    | true => rfl
    | false =>
      exfalso
      obtain ⟨j, hj, ho⟩ := c (bB L K) ⟨i, hi, hb⟩
      rcases f.2 with ⟨-, h2⟩ | ⟨h2, -⟩
      · exact h2 j hj ho
      · have := h2.1; omega
/-- a heap that comes again has an order in which all burn -/
theorem Cag.row {h : Int → Int} (c : Cag n D W br h) : ∃ L : Int → Int, (∀ j : Nat, j < n → In n (L j) ∧ okB n D W br h (bB L j) (L j)) ∧ ∀ i, In n i → bB L n i = true := by
  have cnt1 : ∀ t : Nat, sm t (fun _ => (1 : Int)) = t := by
    intro t
    induction t with
    | zero => rfl
    | succ t ih => show sm t _ + 1 = _; rw [ih]; omega
  have go : ∀ k : Nat, k ≤ n → ∃ L : Int → Int, (∀ j : Nat, j < k → In n (L j) ∧ okB n D W br h (bB L j) (L j)) ∧ sm n (fun i => if bB L k i = true then 1 else 0) = k := by
    intro k
    induction k with
    | zero => intro _; exact ⟨fun _ => 0, fun j hj => by omega, by show sm n (fun i => if false = true then (1 : Int) else 0) = ((0 : Nat) : Int); rw [sm_congr (g := fun _ => 0) (fun i _ => if_neg (by decide)), sm_zero]; rfl⟩
    | succ k ih =>
      intro hk
      obtain ⟨L, a, s⟩ := ih (by omega)
      have hex : ∃ i, In n i ∧ bB L k i = false := by
        apply Classical.byContradiction
        intro q
        have : sm n (fun i => if bB L k i = true then (1 : Int) else 0) = sm n (fun _ => 1) := sm_congr (fun i hi => by
          cases hb : bB L k i with
          | true => rfl
          | false => exact absurd ⟨i, hi, hb⟩ q)
        rw [s, cnt1] at this
        omega
      obtain ⟨p, hp, ho⟩ := c (bB L k) hex
      have e0 : ∀ j : Nat, j ≤ k → bB (fun x => if x = (k : Int) then p else L x) j = bB L j := fun j hj => bB_congr (fun t ht => by show (if (t : Int) = (k : Int) then p else L t) = L t; rw [if_neg (by omega)])
      refine ⟨fun x => if x = (k : Int) then p else L x, fun j hj => ?_, ?_⟩
      · rw [e0 j (by omega)]
        by_cases q : j = k
        · subst q
          show In n (if (j : Int) = (j : Int) then p else L j) ∧ okB n D W br h (bB L j) (if (j : Int) = (j : Int) then p else L j)
          rw [if_pos rfl]
          exact ⟨hp, ho⟩
        · show In n (if (j : Int) = (k : Int) then p else L j) ∧ okB n D W br h (bB L j) (if (j : Int) = (k : Int) then p else L j)
          rw [if_neg (by omega)]
          exact a j (by omega)
      · have e1 : sm n (fun i => if bB (fun x => if x = (k : Int) then p else L x) (k + 1) i = true then (1 : Int) else 0) = sm n (fun i => if i = p then (if bB L k i = true then (1 : Int) else 0) + 1 else (if bB L k i = true then (1 : Int) else 0)) := sm_congr (fun i hi => by
          show (if (bB (fun x => if x = (k : Int) then p else L x) k i || decide (i = (if (k : Int) = (k : Int) then p else L k))) = true then (1 : Int) else 0) = _
          rw [e0 k (Nat.le_refl _), if_pos rfl]
          by_cases q : i = p
          · rw [if_pos q, q, ho.1]
            simp
          · rw [if_neg q]
            simp [q])
        rw [e1, sm_upd n _ p 1 hp, s]
        omega
  obtain ⟨L, a, s⟩ := go n (Nat.le_refl _)
  refine ⟨L, a, fun i hi => ?_⟩
  cases hb : bB L n i with
  | true => rfl
  | false =>
    exfalso
    have h2 := sm_le (n := n) (f := fun j => if bB L n j = true then (1 : Int) else 0) (g := fun j => 1 + (if j = i then -1 else 0)) (fun j _ => by
      by_cases q : j = i
      · rw [q, hb, if_pos rfl]; decide
      · rw [if_neg q]; split <;> decide)
    rw [s, sm_add, cnt1, sm_one, if_pos hi] at h2
    omega
theorem sum_in {L f : Int → Int} {k : Nat} (hp : In n (L k)) (h0 : bB L k (L k) = false) : sm n (fun i => if bB L (k + 1) i = true then f i else 0) = sm n (fun i => if bB L k i = true then f i else 0) + f (L k) := by
  have e1 : sm n (fun i => if bB L (k + 1) i = true then f i else 0) = sm n (fun i => if i = L k then (if bB L k i = true then f i else 0) + f (L k) else (if bB L k i = true then f i else 0)) := sm_congr (fun i hi => by
    by_cases q : i = L k
    · rw [if_pos (bB_in.mpr (Or.inr q)), if_pos q, q, h0]
      show f (L k) = 0 + f (L k)
      omega
    · rw [if_neg q]
      cases hb : bB L k i with
      | true => rw [if_pos (bB_in.mpr (Or.inl hb)), if_pos rfl]
      | false => rw [if_neg (fun c => (bB_in.mp c).elim (fun g => absurd (hb.symm.trans g) (by decide)) q), if_neg (by decide)])
  rw [e1, sm_upd n _ (L k) (f (L k)) hp]
def ptl (n : Nat) (D : Int → Int) (W : Int → Int → Int) (br h : Int → Int) (p : Int → Bool) : Int := 2 * sm n (fun i => if p i = true then h i else 0) - 2 * sm n (fun i => if p i = true then br i - D i else 0) + sm n (fun i => if p i = true then wT n W i p else 0)
theorem ptl_step (B : BW n D W br) {h L : Int → Int} {k : Nat} (hp : In n (L k)) (h0 : bB L k (L k) = false) : ptl n D W br h (bB L (k + 1)) = ptl n D W br h (bB L k) + 2 * (h (L k) - (br (L k) - D (L k) - wT n W (L k) (bB L k))) := by
  unfold ptl
  have e1 := sum_in (f := h) hp h0
  have e2 := sum_in (f := fun i => br i - D i) hp h0
  have e3 := sum_in (f := fun i => wT n W i (bB L (k + 1))) hp h0
  have e4 : ∀ i, wT n W i (bB L (k + 1)) = wT n W i (bB L k) + W i (L k) := fun i => sum_in (f := W i) hp h0
  have e5 : sm n (fun i => if bB L k i = true then wT n W i (bB L (k + 1)) else 0) = sm n (fun i => if bB L k i = true then wT n W i (bB L k) else 0) + wT n W (L k) (bB L k) := by
    unfold wT
    rw [← sm_add]
    refine sm_congr (fun i hi => ?_)
    have := e4 i
    unfold wT at this
    cases hb : bB L k i with
    | true => rw [if_pos rfl, if_pos rfl, if_pos rfl, this, (B.2.2.1 i (L k) hi hp).2.2]
    | false => rfl
  have e6 := e4 (L k)
  have e7 := B.2.2.2.1 (L k) hp
  rw [e1, e2, e3, e5, e6, e7]
  omega
theorem ptl_all (B : BW n D W br) {h : Int → Int} {p : Int → Bool} (hp : ∀ i, In n i → p i = true) : ptl n D W br h p = 2 * sm n h - (sm n br - sm n D) := by
  unfold ptl
  rw [sm_congr (f := fun i => if p i = true then h i else 0) (g := h) (fun i hi => if_pos (hp i hi)), sm_congr (f := fun i => if p i = true then br i - D i else 0) (g := fun i => br i - D i) (fun i hi => if_pos (hp i hi)), sm_congr (f := fun i => if p i = true then wT n W i p else 0) (g := fun i => br i - D i) (fun i hi => by
    rw [if_pos (hp i hi)]
    have h1 := B.2.2.2.2.1 i hi
    have h2 : wT n W i p = sm n (W i) := sm_congr (fun j hj => if_pos (hp j hj))
    omega), sm_sub]
  omega
theorem ptl_none {h : Int → Int} {L : Int → Int} : ptl n D W br h (bB L 0) = 0 := by
  have e : ∀ f : Int → Int, sm n (fun i => if bB L 0 i = true then f i else 0) = 0 := fun f => by
    rw [sm_congr (g := fun _ => 0) (fun i _ => if_neg (by show ¬ false = true; decide)), sm_zero]
  unfold ptl
  rw [e h, e (fun i => br i - D i), e (fun i => wT n W i (bB L 0))]
  rfl
theorem Cag.level (B : BW n D W br) {h : Int → Int} (c : Cag n D W br h) : sm n br - sm n D ≤ 2 * sm n h := by
  obtain ⟨L, a, hall⟩ := c.row
  have go : ∀ k : Nat, k ≤ n → 0 ≤ ptl n D W br h (bB L k) := by
    intro k
    induction k with
    | zero => intro _; rw [ptl_none]; exact Int.le_refl 0
    | succ k ih =>
      intro hk
      have := ih (by omega)
      obtain ⟨h1, h2, h3⟩ := a k (by omega)
      rw [ptl_step B h1 h2]
      omega
  have := go n (Nat.le_refl _)
  rw [ptl_all B hall] at this
  omega
theorem cag_full (B : BW n D W br) : Cag n D W br (fun i => br i - 1) := by
  intro S hS
  obtain ⟨ds, hds⟩ := B.2.2.2.2.2
  have go : ∀ (t : Nat) (i : Int), ds i ≤ t → In n i → S i = false → ∃ i, In n i ∧ okB n D W br (fun i => br i - 1) S i := by
    intro t
    induction t with
    | zero =>
      intro i ht hi hs
      rcases (hds i hi).2 with h | ⟨j, hj, h1, h2⟩
      · exact ⟨i, hi, hs, by have := (wT_rng B hi S n (Nat.le_refl _)).1; show br i - (D i + wT n W i S) ≤ br i - 1; omega⟩
      · omega
    | succ t ih =>
      intro i ht hi hs
      rcases (hds i hi).2 with h | ⟨j, hj, h1, h2⟩
      · exact ⟨i, hi, hs, by have := (wT_rng B hi S n (Nat.le_refl _)).1; show br i - (D i + wT n W i S) ≤ br i - 1; omega⟩
      · cases hb : S j with
        | false => exact ih j (by omega) hj hb
        | true =>
          refine ⟨i, hi, hs, ?_⟩
          have h3 := sm_term (n := n) (f := fun j => if S j = true then W i j else 0) (fun t ht => by
            have := (B.2.2.1 i t hi ht).1
            show 0 ≤ (if S t = true then W i t else 0)
            split <;> omega) j hj
          have h4 : (if S j = true then W i j else 0) = W i j := if_pos hb
          have h5 : wT n W i S = sm n (fun j => if S j = true then W i j else 0) := rfl
          have h6 := (B.2.1 i hi).1
          show br i - (D i + wT n W i S) ≤ br i - 1
          rw [h4] at h3
          omega
  obtain ⟨i, hi, hs⟩ := hS
  exact go (ds i) i (Nat.le_refl _) hi hs
/-- one of that level -/
theorem cag_least (B : BW n D W br) : ∃ h, (∀ i, In n i → 0 ≤ h i ∧ h i < br i) ∧ Cag n D W br h ∧ 2 * sm n h = sm n br - sm n D := by
  obtain ⟨L, a, hall⟩ := (cag_full B).row
  have go : ∀ k : Nat, k ≤ n → ∃ h : Int → Int, (∀ j : Nat, j < k → h (L j) = br (L j) - D (L j) - wT n W (L j) (bB L j)) := by
    intro k
    induction k with
    | zero => intro _; exact ⟨fun _ => 0, fun j hj => by omega⟩
    | succ k ih =>
      intro hk
      obtain ⟨h, hh⟩ := ih (by omega)
      have hk0 := (a k (by omega)).2.1
      refine ⟨fun x => if x = L k then br (L k) - D (L k) - wT n W (L k) (bB L k) else h x, fun j hj => ?_⟩
      by_cases q : j = k
      · subst q
        exact if_pos rfl
      · have ne : L j ≠ L k := fun e => by
          have h5 : ∀ t : Nat, j < t → t ≤ k → bB L t (L j) = true := by
            intro t
            induction t with
            | zero => intro g; omega
            | succ t iht =>
              intro g1 g2
              by_cases g3 : j = t
              · subst g3; exact bB_in.mpr (Or.inr rfl)
              · exact bB_in.mpr (Or.inl (iht (by omega) (by omega)))
          have h6 := h5 k (by omega) (Nat.le_refl _)
          rw [e, hk0] at h6
          exact absurd h6 (by decide)
        show (if L j = L k then _ else h (L j)) = _
        rw [if_neg ne]
        exact hh j (by omega)
  obtain ⟨h, hh⟩ := go n (Nat.le_refl _)
  refine ⟨h, fun i hi => ?_, cag_of B (fun j hj => ⟨(a j hj).1, (a j hj).2.1, by rw [hh j hj]; omega⟩) hall, ?_⟩
  · have hex : ∀ k : Nat, k ≤ n → bB L k i = true → ∃ j : Nat, j < k ∧ i = L j := by
      intro k
      induction k with
      | zero => intro _ q; exact absurd q (by show ¬ false = true; decide)
      | succ k ih =>
        intro hk q
        rcases bB_in.mp q with g | g
        · obtain ⟨j, hj, e⟩ := ih (by omega) g
          exact ⟨j, by omega, e⟩
        · exact ⟨k, by omega, g⟩
    obtain ⟨j, hj, e⟩ := hex n (Nat.le_refl _) (hall i hi)
    subst e
    obtain ⟨h1, h2, h3⟩ := a j hj
    rw [hh j hj]
    have h4 : wT n W (L j) (bB L j) ≤ sm n (W (L j)) := sm_le (fun t ht => by
      have := (B.2.2.1 (L j) t h1 ht).1
      show (if bB L j t = true then W (L j) t else 0) ≤ W (L j) t
      split <;> omega)
    have h5 := B.2.2.2.2.1 (L j) h1
    have h6 : br (L j) - (D (L j) + wT n W (L j) (bB L j)) ≤ br (L j) - 1 := h3
    omega
  · have go2 : ∀ k : Nat, k ≤ n → ptl n D W br h (bB L k) = 0 := by
      intro k
      induction k with
      | zero => intro _; exact ptl_none
      | succ k ih =>
        intro hk
        have h1 := ih (by omega)
        have h2 := a k (by omega)
        rw [ptl_step B h2.1 h2.2.1, h1, hh k (by omega)]
        omega
    have := go2 n (Nat.le_refl _)
    rw [ptl_all B hall] at this
    omega
end Cag
