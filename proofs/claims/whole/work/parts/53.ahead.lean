/-- the class's table of now -/
def CX (n : Nat) (D : Int → Int) (W : Int → Int → Int) (br : Int → Int) (b : Nat) (m : MM) : Prop := isB b ∧ m 0 5 = b ∧ BX n D W br b m
theorem CX.fr {n : Nat} {D : Int → Int} {W : Int → Int → Int} {br : Int → Int} {b : Nat} {m m' : MM} (X : CX n D W br b m) {S : List Nat} (h : Fr S m m') (h0 : 0 ∉ S) (hS : ∀ k ∈ S, k < 7 ∨ 24 < k) : CX n D W br b m' := by
  obtain ⟨hb, h5, hX⟩ := X
  have hk : ∀ j, j ≤ 4 → b + j ∉ S := fun j hj hm => by
    have := hS _ hm
    rcases hb with rfl | rfl <;> omega
  exact ⟨hb, by rw [h 0 h0]; exact h5, hX.fr h (hk 0 (by omega)) (hk 2 (by omega)) (hk 3 (by omega)) (hk 4 (by omega))⟩
/-- what sand says when a heap was taken and has settled -/
def RestX (n : Nat) (D : Int → Int) (W : Int → Int → Int) (br g : Int → Int) (a : Nat) (m m' : MM) : Prop :=
  Fr [a, a + 1, a + 2] m m' ∧ ∃ u, Stb n W br g u ∧ (∀ i, In n i → m' (a + 1) i = g i - Lp n W br u i) ∧ (∀ i, 0 ≤ i → i < 5 → ¬ In n i → m' (a + 1) i = g i) ∧ (∀ i, In n i → m' (a + 2) i = u i) ∧ (∀ i, 0 ≤ i → i < 5 → ¬ In n i → m' (a + 2) i = 0) ∧ m' a 2 = sm n u ∧ m' a 3 = sm n (fun i => D i * u i)
section Ahead
variable {l : Launch} {G : GT} {d : Nat} {m : MM} {a b : Nat} {n : Nat} {D : Int → Int} {W : Int → Int → Int} {br : Int → Int}
/-- calm, of sand that was just taken, and to which some was put -/
theorem c_calm0 (ha : isS a) (B : BW n D W br) (X : BX n D W br b m) (hb : isB b) {g : Int → Int} (hgm : ∀ i, 0 ≤ i → i < 5 → m (a + 1) i = g i) (hg : ∀ i, In n i → 0 ≤ g i) {N : Int} (hN : sm n g ≤ N) (hN3 : N ≤ 30000) (ho : ∀ i, 0 ≤ i → i < 5 → m (a + 2) i = 0) (h2 : m a 2 = 0) (h3 : m a 3 = 0) :
    CV l G Y_Sand_calm (d + 2) [.inr (.inr a), .inr (.inr b)] m (RestX n D W br g a m) := by
  have hn5 := B.1
  have hgi : ∀ i, In n i → m (a + 1) i = g i := fun i hi => hgm i hi.1 (by omega)
  refine (c_calm ha hb B X (fun i hi => by rw [hgi i hi]; exact hg i hi) (N := N) (by rw [sm_congr hgi]; exact hN) hN3 (fun i hi => by rw [ho i hi.1 (by omega)]; decide) (by rw [h2]; decide) (by rw [h3]; decide)).imp (fun m' h => ?_)
  obtain ⟨u, hu, f, c1, c2, c3, c4, c5, c6⟩ := h
  refine ⟨f, u, hu.congr hgi, fun i hi => by rw [c1 i hi, hgi i hi], fun i i0 i5 hi => by rw [c2 i hi, hgm i i0 i5], fun i hi => by rw [c3 i hi, ho i hi.1 (by omega)]; omega, fun i i0 i5 hi => by rw [c4 i hi, ho i i0 i5], by rw [c5, h2]; omega, by rw [c6, h3]; omega⟩
theorem c_settleAhead (B : BW n D W br) (X : CX n D W br b m) (hg : ∀ i, In n i → 0 ≤ m 25 i) {N : Int} (hN : sm n (m 25) ≤ N) (hN3 : N ≤ 30000) : CV l G Y_S_settleAhead (d + 3) [.inr (.inr 0)] m (RestX n D W br (m 25) 32 m) := by
  refine e_S_settleAhead (fun _ => ⟨d, _, by omega, c_take (a := 32) (Or.inl rfl) (h := 25) (len := 8) rfl (by decide) (by decide) (by decide) (by decide), fun m1 h1 _ => ?_⟩)
  obtain ⟨f1, t1, t2, t3⟩ := h1
  have X1 := X.fr f1 (by decide) (by decide)
  refine ⟨b, X1.2.1, X1.1, d + 2, _, by omega, c_calm0 (a := 32) (Or.inl rfl) B X1.2.2 X1.1 (g := m 25) (fun i i0 i5 => (t1 i i0 i5).1) hg hN hN3 (fun i i0 i5 => (t1 i i0 i5).2) t2 t3, fun m2 h2 _ => ?_⟩
  exact ⟨f1.tr h2.1, h2.2⟩
theorem has_if {x : Int} (X : BX n D W br b m) : (if 0 ≤ x ∧ x < m b 0 then (1 : Int) else 0) = if In n x then 1 else 0 := by rw [X.1]
theorem c_restX (B : BW n D W br) (X : CX n D W br b m) (hg : ∀ i, In n i → 0 ≤ m 25 i) {N : Int} (hN : sm n (m 25) ≤ N) (hN3 : N ≤ 30000) {x : Int} : CI l G Y_S_rest (d + 4) [.inr (.inr 0), .inl x] m (fun z m' => Fr [32, 33, 34] m m' ∧ (In n x → ∃ u, Stb n W br (m 25) u ∧ z = m 25 x - Lp n W br u x) ∧ (¬ In n x → z = -1)) := by
  refine e_S_rest x (fun _ _ => ⟨b, X.2.1, X.1, d, _, by omega, c_has X.1, fun z m1 hz _ _ => ?_⟩)
  obtain ⟨rfl, rfl⟩ := hz
  rw [has_if X.2.2]
  have hn5 := B.1
  by_cases h : In n x
  · rw [if_pos h]
    refine ⟨fun _ => ⟨d + 3, _, by omega, c_settleAhead B X hg hN hN3, fun m1 h1 _ => ⟨by omega, h1.1, fun _ => ?_, fun q => absurd h q⟩⟩, fun c => absurd (by decide) c⟩
    obtain ⟨u, hu, r, -⟩ := h1.2
    exact ⟨u, hu, r x h⟩
  · rw [if_neg h]
    exact ⟨fun c => absurd rfl c, fun _ => ⟨Fr.rf, fun q => absurd q h, fun _ => rfl⟩⟩
theorem c_oftenX (B : BW n D W br) (X : CX n D W br b m) (hg : ∀ i, In n i → 0 ≤ m 25 i) {N : Int} (hN : sm n (m 25) ≤ N) (hN3 : N ≤ 30000) {x : Int} : CI l G Y_S_often (d + 4) [.inr (.inr 0), .inl x] m (fun z m' => Fr [32, 33, 34] m m' ∧ (In n x → ∃ u, Stb n W br (m 25) u ∧ z = u x) ∧ (¬ In n x → z = -1)) := by
  refine e_S_often x (fun _ _ => ⟨b, X.2.1, X.1, d, _, by omega, c_has X.1, fun z m1 hz _ _ => ?_⟩)
  obtain ⟨rfl, rfl⟩ := hz
  rw [has_if X.2.2]
  have hn5 := B.1
  by_cases h : In n x
  · rw [if_pos h]
    refine ⟨fun _ => ⟨d + 3, _, by omega, c_settleAhead B X hg hN hN3, fun m1 h1 _ => ⟨by omega, h1.1, fun _ => ?_, fun q => absurd h q⟩⟩, fun c => absurd (by decide) c⟩
    obtain ⟨u, hu, -, -, r, -⟩ := h1.2
    exact ⟨u, hu, r x h⟩
  · rw [if_neg h]
    exact ⟨fun c => absurd rfl c, fun _ => ⟨Fr.rf, fun q => absurd q h, fun _ => rfl⟩⟩
theorem c_spiltX (B : BW n D W br) (X : CX n D W br b m) (hg : ∀ i, In n i → 0 ≤ m 25 i) {N : Int} (hN : sm n (m 25) ≤ N) (hN3 : N ≤ 30000) : CI l G Y_S_spilt (d + 4) [.inr (.inr 0)] m (fun z m' => Fr [32, 33, 34] m m' ∧ ∃ u, Stb n W br (m 25) u ∧ z = sm n (fun i => D i * u i)) := by
  refine e_S_spilt (fun _ => ⟨d + 3, _, by omega, c_settleAhead B X hg hN hN3, fun m1 h1 _ => ?_⟩)
  obtain ⟨u, hu, -, -, -, -, -, r⟩ := h1.2
  exact ⟨h1.1, u, hu, r⟩
end Ahead
