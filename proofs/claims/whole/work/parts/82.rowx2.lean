section RowX2
variable {l : Launch} {G : GT} {d : Nat} {m : MM} {b : Nat} {n : Nat} {D : Int → Int} {W : Int → Int → Int} {br : Int → Int}
theorem bs5_range {n : Nat} (hn : n ≤ 5) (p : Int → Bool) : 0 ≤ bs n p ∧ bs n p < 32 := by
  have h := bs_range p
  have hn2 : n = 0 ∨ n = 1 ∨ n = 2 ∨ n = 3 ∨ n = 4 ∨ n = 5 := by omega
  rcases hn2 with rfl | rfl | rfl | rfl | rfl | rfl <;> omega
theorem ovr_range (hn : n ≤ 5) (g : Int → Int) : 0 ≤ ovr n br g ∧ ovr n br g < 32 := bs5_range hn _
/-- row of the class behind k topplings -/
def RwX (n : Nat) (W : Int → Int → Int) (br : Int → Int) (N : Int) (m m1 : MM) (k : Nat) : Prop :=
  Fr [32, 33, 34, 67, 68] m m1 ∧ (∀ i, In n i → m1 33 i = gI n W br (m 25) k i) ∧ (∀ i, In n i → 0 ≤ m1 34 i ∧ m1 34 i ≤ k) ∧ m1 32 2 = k ∧ (0 ≤ m1 32 3 ∧ m1 32 3 ≤ 12 * (k : Int)) ∧ m1 67 1 = k ∧ (∀ j : Nat, j < k → m1 68 j = lsb (ovr n br (gI n W br (m 25) j)) ∧ ovr n br (gI n W br (m 25) j) ≠ 0) ∧ (∀ i, In n i → 0 ≤ gI n W br (m 25) k i) ∧ sm n (gI n W br (m 25) k) ≤ N
theorem c_rowX (B : BW n D W br) (X : CX n D W br b m) (hg : ∀ i, In n i → 0 ≤ m 25 i) {N : Int} (hN : sm n (m 25) ≤ N) (hN3 : N ≤ 30000) : CI l G Y_S_row (d + 3) [.inr (.inr 0)] m (fun z m' => ∃ K : Nat, Fr [32, 33, 34, 67, 68] m m' ∧ m' 67 1 = K ∧ RowR n W br (m 25) K z (m' 68)) := by
  have hn5 := B.1
  have fin : ∀ (k : Nat) (m1 : MM), k ≤ 60 → RwX n W br N m m1 k → (k = 60 ∨ ovr n br (gI n W br (m 25) k) = 0) → CV l G Y_Sand_calm (d + 2) [.inr (.inr 32), .inr (.inr b)] m1 (fun m' => ∃ K : Nat, Fr [32, 33, 34, 67, 68] m m' ∧ m' 67 1 = K ∧ RowR n W br (m 25) K (m' 32 2) (m' 68)) := by
    intro k m1 hk h h0
    obtain ⟨f, g1, o1, t1, d1, c1, l1, p1, s1⟩ := h
    have X1 := X.fr f (by decide) (by decide)
    refine (c_calm (a := 32) (Or.inl rfl) X1.1 B X1.2.2 (fun i hi => ?_) (N := N) ?_ hN3 (fun i hi => ?_) (by omega) (by omega)).imp (fun m' h => ?_)
    · show 0 ≤ m1 33 i
      rw [g1 i hi]; exact p1 i hi
    · show sm n (m1 33) ≤ N
      rw [sm_congr g1]; exact s1
    · show -100000000 ≤ m1 34 i ∧ m1 34 i ≤ 100000000
      have := o1 i hi
      omega
    · obtain ⟨u, hu, fc, q1, -, -, -, q2, -⟩ := h
      have e67 : m' 67 = m1 67 := fc 67 (by decide)
      have e68 : m' 68 = m1 68 := fc 68 (by decide)
      exact ⟨k, f.tr (fc.mono (by simp)), by rw [e67]; exact c1, hk, fun j hj => (l1 j hj).2, h0, fun j hj => by rw [e68]; exact (l1 j hj).1, u, hu.congr g1, by rw [q2, t1]⟩
  have loop : ∀ (j k : Nat) (m1 : MM), k + j = 60 → RwX n W br N m m1 k → Wq l G false Y_S_row (d + 3) (QI fun z m' => ∃ K : Nat, Fr [32, 33, 34, 67, 68] m m' ∧ m' 67 1 = K ∧ RowR n W br (m 25) K z (m' 68)) 35 [(0, .inr (.inr 0)), (1, .inl (ovr n br (gI n W br (m 25) k))), (2, .inl (k : Int))] [] m1 := by
    intro j
    induction j with
    | zero =>
      intro k m1 hk h
      have hX := X.fr h.1 (by decide) (by decide)
      exact s_S_row_35 _ _ (fun _ _ _ => ⟨fun _ => ⟨b, hX.2.1, hX.1, d + 2, _, by omega, fin k m1 (by omega) h (Or.inl (by omega)), fun m2 h2 _ => h2⟩, fun c => absurd (show (k : Int) ≥ 60 by omega) c⟩)
    | succ j ih =>
      intro k m1 hk h
      have hX := X.fr h.1 (by decide) (by decide)
      have ho := ovr_range (br := br) hn5 (gI n W br (m 25) k)
      refine s_S_row_35 _ _ (fun _ _ _ => ⟨fun c => absurd c (by omega), fun _ => ⟨fun c => ⟨b, hX.2.1, hX.1, d + 2, _, by omega, fin k m1 (by omega) h (Or.inr c), fun m2 h2 _ => h2⟩, fun c => ⟨d, _, by omega, c_ntz (by omega), fun z m2 hz _ _ => ?_⟩⟩⟩)
      obtain ⟨rfl, rfl⟩ := hz
      obtain ⟨f, g1, o1, t1, d1, c1, l1, p1, s1⟩ := h
      have hp : In n (lsb (ovr n br (gI n W br (m 25) k))) := (bs_lsb hn5 (fun i => decide (br i ≤ gI n W br (m 25) k i)) c).1
      have hgt : ∀ i, In n i → gI n W br (m 25) k i ≤ N := fun i hi => Int.le_trans (sm_term p1 i hi) s1
      have hgs : ∀ i, gI n W br (m 25) (k + 1) i = gI n W br (m 25) k i - Lp n W br (u1 (lsb (ovr n br (gI n W br (m 25) k)))) i := fun i => gI_succ c i
      have hst := gI_step B c p1
      obtain ⟨p, hpe⟩ : ∃ p, p = lsb (ovr n br (gI n W br (m 25) k)) := ⟨_, rfl⟩
      rw [← hpe] at hp hgs ⊢
      have hDp := B.2.1 p hp
      have T : CV l G Y_Sand_tip (d + 1) [.inr (.inr 32), .inr (.inr b), .inl p, .inl 1] m1 (TipQ n D W br 32 p 1 m1) := by
        refine c_tip (Or.inl rfl) hX.1 B hX.2.2 hp (by decide) (fun i hi => ?_) ?_ (by omega) (by omega)
        · show -1000000000 ≤ m1 33 i ∧ m1 33 i ≤ 1000000000
          rw [g1 i hi]
          have := hgt i hi
          have := p1 i hi
          omega
        · show -1000000000 ≤ m1 34 p ∧ m1 34 p ≤ 1000000000
          have := o1 p hp
          omega
      refine ⟨b, hX.2.1, hX.1, d + 1, _, by omega, T, fun m2 ht _ => ?_⟩
      obtain ⟨f2, q1, -, q3, q4, q5⟩ := ht
      have q1' : ∀ i, In n i → m2 33 i = m1 33 i - (if i = p then br p * 1 else 0) + W p i * 1 := q1
      have q3' : ∀ i, m2 34 i = m1 34 i + (if i = p then 1 else 0) := q3
      have e67 : m2 67 1 = k := by rw [f2 67 (by decide)]; exact c1
      have e68 : m2 68 = m1 68 := f2 68 (by decide)
      refine ⟨d, _, by omega, c_lyingPut (by omega), fun m3 h3 _ => ?_⟩
      rw [e67] at h3
      have N1 : RwX n W br N m m3 (k + 1) := by
        subst h3
        refine ⟨Fr_up (Fr_up (f.tr (f2.mono (by simp))) (by simp)) (by simp), fun i hi => ?_, fun i hi => ?_, ?_, ?_, ?_, fun j hj => ?_, hst.1, Int.le_trans hst.2 s1⟩
        · rw [up_ne (by decide), up_ne (by decide), q1' i hi, g1 i hi, hgs i, Lp_u1 B hp hi]
          omega
        · rw [up_ne (by decide), up_ne (by decide), q3' i]
          have := o1 i hi
          split <;> omega
        · rw [up_ne (by decide), up_ne (by decide), q4, t1]
          rfl
        · rw [up_ne (by decide), up_ne (by decide), q5]
          omega
        · rw [up_at]
          rfl
        · rw [up_ne (by decide), up_row]
          by_cases e : (j : Int) = k
          · rw [if_pos e]
            have e2 : j = k := by omega
            rw [e2]
            exact ⟨hpe, c⟩
          · rw [if_neg e, e68]
            exact l1 j (by omega)
      have hX3 := X.fr N1.1 (by decide) (by decide)
      refine ⟨b, hX3.2.1, hX3.1, d, _, by omega, c_overfull hX3.1 hn5 hX3.2.2 (h := 33) (len := 5) rfl (by decide) (by decide), fun z m4 hz _ _ => ⟨by omega, ?_⟩⟩
      obtain ⟨rfl, rfl⟩ := hz
      have e : bs n (fun i => decide (br i ≤ m3 33 i)) = ovr n br (gI n W br (m 25) (k + 1)) := ovr_congr N1.2.1
      rw [e]
      exact ih (k + 1) _ (by omega) N1
  refine e_S_row (fun _ => ⟨d, _, by omega, e_Lying_clear (P := fun m' => m' = up m 67 1 0) (fun _ _ h => h), fun m1 h1 _ => ?_⟩)
  have e25 : m1 25 = m 25 := by rw [h1]; exact up_ne (by decide)
  have f0 : Fr [32, 33, 34, 67, 68] m m1 := by rw [h1]; exact Fr_up Fr.rf (by simp)
  have e671 : m1 67 1 = 0 := by rw [h1]; exact up_at
  refine ⟨d, _, by omega, c_take (a := 32) (Or.inl rfl) (h := 25) (len := 8) rfl (by decide) (by decide) (by decide) (by decide), fun m2 h2 _ => ?_⟩
  obtain ⟨f1, t1, t2, t3⟩ := h2
  have f : Fr [32, 33, 34, 67, 68] m m2 := f0.tr (f1.mono (by simp))
  have X2 := X.fr f (by decide) (by decide)
  have t1' : ∀ i, 0 ≤ i → i < 5 → m2 33 i = m1 25 i ∧ m2 34 i = 0 := t1
  rw [e25] at t1'
  have N1 : RwX n W br N m m2 0 := by
    refine ⟨f, fun i hi => (t1' i hi.1 (by omega)).1, fun i hi => ?_, t2, ?_, ?_, fun j hj => absurd hj (by omega), hg, hN⟩
    · rw [(t1' i hi.1 (by omega)).2]
      exact ⟨Int.le_refl _, Int.le_refl _⟩
    · rw [t3]; decide
    · rw [f1 67 (by decide)]; exact e671
  refine ⟨b, X2.2.1, X2.1, d, _, by omega, c_overfull X2.1 hn5 X2.2.2 (h := 33) (len := 5) rfl (by decide) (by decide), fun z m3 hz _ _ => ?_⟩
  obtain ⟨rfl, rfl⟩ := hz
  have e : bs n (fun i => decide (br i ≤ m2 33 i)) = ovr n br (gI n W br (m 25) 0) := ovr_congr N1.2.1
  rw [e]
  exact loop 60 0 _ (by omega) N1
end RowX2
