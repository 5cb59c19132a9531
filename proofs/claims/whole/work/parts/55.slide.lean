/-- the slide from one grain: what topples -/
def Sld (n : Nat) (W : Int → Int → Int) (br g : Int → Int) (p : Int) (w : Int → Int) : Prop := ∃ u, Stb n W br g u ∧ Stb n W br (fun i => g i - Lp n W br u i + (if i = p then 1 else 0)) w
theorem Sld.uniq {n : Nat} {W : Int → Int → Int} {br g w w' : Int → Int} {p : Int} (h1 : Sld n W br g p w) (h2 : Sld n W br g p w') : ∀ i, In n i → w i = w' i := by
  obtain ⟨u, a1, a2⟩ := h1
  obtain ⟨v, b1, b2⟩ := h2
  have e := a1.uniq b1
  exact a2.uniq (b2.congr (fun i hi => by
    show g i - Lp n W br v i + _ = g i - Lp n W br u i + _
    rw [Lp_congr e i hi]))
theorem Sld.congr {n : Nat} {W : Int → Int → Int} {br g g' w : Int → Int} {p : Int} (h : Sld n W br g p w) (hg : ∀ i, In n i → g i = g' i) : Sld n W br g' p w := by
  obtain ⟨u, a1, a2⟩ := h
  exact ⟨u, a1.congr hg, a2.congr (fun i hi => by
    show g i - Lp n W br u i + _ = g' i - Lp n W br u i + _
    rw [hg i hi])⟩
/-- a settled heap has few grains -/
theorem settled_sum {n : Nat} {D : Int → Int} {W : Int → Int → Int} {br r : Int → Int} (B : BW n D W br) (h : ∀ i, In n i → r i < br i) : sm n r ≤ 60 := by
  have h1 := sm_le (n := n) (f := r) (g := fun _ => 12) (fun i hi => by have := h i hi; have := B.br hi; omega)
  have h2 : ∀ k : Nat, sm k (fun _ => (12 : Int)) = 12 * k := by
    intro k
    induction k with
    | zero => rfl
    | succ k ih => show sm k _ + 12 = _; rw [ih]; omega
  rw [h2] at h1
  have := B.1
  omega
theorem Stb.nonneg {n : Nat} {D : Int → Int} {W : Int → Int → Int} {br g u : Int → Int} (B : BW n D W br) (h : Stb n W br g u) (hg : ∀ i, In n i → 0 ≤ g i) : ∀ i, In n i → 0 ≤ g i - Lp n W br u i := by
  -- by least action: a plate below 0 could have toppled once less
  intro p hp
  rcases Int.lt_or_le (g p - Lp n W br u p) 0 with hneg | hok
  · exfalso
    obtain ⟨h0, h1, h2⟩ := h
    have hbr := B.br hp
    have hup : 1 ≤ u p := by
      rcases Int.lt_or_le (u p) 1 with q | q
      · have e0 : u p = 0 := by have := h0 p hp; omega
        have h3 : 0 ≤ sm n (fun j => W p j * u j) := sm_nonneg (fun j hj => Int.mul_nonneg (B.2.2.1 p j hp hj).1 (h0 j hj))
        have h4 := hg p hp
        unfold Lp at hneg
        rw [e0] at hneg
        omega
      · exact q
    have h5 := h2 (fun i => u i - (if i = p then 1 else 0)) (fun i hi => by
      have := h0 i hi
      show 0 ≤ u i - (if i = p then 1 else 0)
      by_cases e : i = p
      · rw [if_pos e, e]; omega
      · rw [if_neg e]; omega) (fun i hi => by
      rw [Lp_sub, Lp_one p 1 i hp]
      have := h1 i hi
      by_cases e : i = p
      · subst e
        rw [if_pos rfl, B.2.2.2.1 i hi]
        omega
      · rw [if_neg e]
        have := (B.2.2.1 i p hi hp).1
        omega) p hp
    have h6 : u p ≤ u p - (if p = p then 1 else 0) := h5
    rw [if_pos rfl] at h6
    omega
  · exact hok
section Slide
variable {l : Launch} {G : GT} {d : Nat} {m : MM} {b : Nat} {n : Nat} {D : Int → Int} {W : Int → Int → Int} {br : Int → Int}
theorem c_slideFrom (B : BW n D W br) (X : CX n D W br b m) {r : Int → Int} (hr : ∀ i, 0 ≤ i → i < 5 → m 33 i = r i) (hr0 : ∀ i, In n i → 0 ≤ r i ∧ r i < br i) {x : Int} (hx : In n x) : CV l G Y_S_slideFrom (d + 3) [.inr (.inr 0), .inl x] m (RestX n D W br (fun i => r i + (if i = x then 1 else 0)) 35 m) := by
  have hn5 := B.1
  have hbx := B.br hx
  have hrx := hr0 x hx
  refine e_S_slideFrom x (fun _ _ => ⟨d, _, by omega, c_take (a := 35) (Or.inr (Or.inl rfl)) (h := 33) (len := 5) rfl (by decide) (by decide) (by decide) (by decide), fun m1 h1 _ => ?_⟩)
  obtain ⟨f1, t1, t2, t3⟩ := h1
  have e1 : m1 36 x = r x := by rw [(t1 x hx.1 (by omega)).1, hr x hx.1 (by omega)]
  refine ⟨d, _, by omega, c_put (a := 35) (Or.inr (Or.inl rfl)) (by omega) (by rw [e1]; omega), fun m2 h2 _ => ?_⟩
  have f2 : Fr [35, 36, 37] m m2 := by rw [h2]; exact Fr_up f1 (by simp)
  have X2 := X.fr f2 (by decide) (by decide)
  have g2 : ∀ i, 0 ≤ i → i < 5 → m2 36 i = r i + (if i = x then 1 else 0) := fun i i0 i5 => by
    rw [h2, up_row]
    by_cases e : i = x
    · rw [if_pos e, if_pos e, e, e1]
    · rw [if_neg e, if_neg e, (t1 i i0 i5).1, hr i i0 i5]; omega
  have hsum : sm n (fun i => r i + (if i = x then 1 else 0)) ≤ 61 := by
    have := settled_sum B (fun i hi => (hr0 i hi).2)
    rw [sm_add, sm_one, if_pos hx]
    omega
  refine ⟨b, X2.2.1, X2.1, d + 2, _, by omega, c_calm0 (a := 35) (Or.inr (Or.inl rfl)) B X2.2.2 X2.1 (g := fun i => r i + (if i = x then 1 else 0)) g2 (fun i hi => by
    have := (hr0 i hi).1
    show 0 ≤ r i + (if i = x then 1 else 0)
    split <;> omega) (N := 61) hsum (by decide) (fun i i0 i5 => by rw [h2, up_ne (by decide)]; exact (t1 i i0 i5).2) (by rw [h2, up_ne (by decide)]; exact t2) (by rw [h2, up_ne (by decide)]; exact t3), fun m3 h3 _ => ⟨f2.tr h3.1, h3.2⟩⟩
end Slide
