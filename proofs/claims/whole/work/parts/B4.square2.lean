theorem swp_lt {q k w s : Nat} (hk : k < q) (hw : w < q) (hs : s < q) : swp k w s < q := by
  unfold swp
  by_cases h1 : s = k
  · rw [if_pos h1]; exact hw
  · rw [if_neg h1]
    by_cases h2 : s = w
    · rw [if_pos h2]; exact hk
    · rw [if_neg h2]; exact hs
theorem swp_ge {k w s : Nat} (hw : k < w) (hs : k ≤ s) : k ≤ swp k w s := by
  unfold swp
  by_cases h1 : s = k
  · rw [if_pos h1]; omega
  · rw [if_neg h1]
    by_cases h2 : s = w
    · rw [if_pos h2]; exact Nat.le_refl _
    · rw [if_neg h2]; exact hs
section Sq2
variable {l : Launch} {G : GT} {d : Nat} {m : MM} {n : Nat} {D : Int → Int} {W : Int → Int → Int} {br : Int → Int}
/-- before step k; A' is A with rows exchanged -/
def SqI (q k : Nat) (A A' : Nat → Nat → Int) (M : Int → Int) (sg last : Int) : Prop :=
  (∀ i j, i < q → j < q → -10 ≤ A' i j ∧ A' i j ≤ 10) ∧ (sg = 1 ∨ sg = -1) ∧ dtm q A = sg * dtm q A' ∧ (∀ s, 1 ≤ s → s ≤ k → dtm s A' ≠ 0) ∧ last = dtm k A' ∧ ∀ i j : Nat, k ≤ i → i < q → k ≤ j → j < q → M ((i : Int) * q + j) = dtm (k + 1) (bord k A' i j)
theorem bord_rng {q k : Nat} {A' : Nat → Nat → Int} (h : ∀ i j, i < q → j < q → -10 ≤ A' i j ∧ A' i j ≤ 10) (hk : k < q) (hq : q ≤ 5) {i j : Nat} (hi : i < q) (hj : j < q) : -12000000 ≤ dtm (k + 1) (bord k A' i j) ∧ dtm (k + 1) (bord k A' i j) ≤ 12000000 := by
  have h1 := dtm_bound (k := k + 1) (a := bord k A' i j) (fun s t hs ht => by
    unfold bord
    exact h _ _ (by split <;> omega) (by split <;> omega))
  have h2 := fct_le (k := k + 1) (by omega)
  omega
theorem dtm_rng {q k : Nat} {A' : Nat → Nat → Int} (h : ∀ i j, i < q → j < q → -10 ≤ A' i j ∧ A' i j ≤ 10) (hk : k ≤ q) (hq : q ≤ 5) : -12000000 ≤ dtm k A' ∧ dtm k A' ≤ 12000000 := by
  have h1 := dtm_bound (k := k) (a := A') (fun s t hs ht => h s t (by omega) (by omega))
  have h2 := fct_le (k := k) (by omega)
  omega
theorem c_elim {q : Nat} (hq : q ≤ 5) (A : Nat → Nat → Int) {m0 : MM} {k : Nat} : ∀ (s : Nat) (k : Nat) (A' : Nat → Nat → Int) (sg last : Int) (m1 : MM), k + s = q → Fr [99] m0 m1 → SqI q k A A' (m1 99) sg last → Wq l G false Y_M_squareOf (d + 1) (QI fun z m' => Fr [99] m0 m' ∧ z = dtm q A) 58 [(0, .inr (.inr 70)), (3, .inl (q : Int)), (4, .inr (.inl last)), (6, .inl sg), (7, .inl (k : Int))] [] m1 := by
  intro s
  induction s with
  | zero =>
    intro k A' sg last m1 hks f I
    obtain ⟨i1, i2, i3, i4, i5, i6⟩ := I
    have e : k = q := by omega
    have hr := dtm_rng i1 (Nat.le_refl q) hq
    rw [e] at i5
    have ez : sg * last = dtm q A := by rw [i3, i5]
    have hb : -12000000 ≤ sg * last ∧ sg * last ≤ 12000000 := by
      rw [i5]
      rcases i2 with r | r <;> rw [r] <;> omega
    exact s_M_squareOf_58 _ _ _ _ (fun _ _ _ _ _ => ⟨fun _ => ⟨by constructor <;> omega, by omega, f, ez⟩, fun c => absurd (show (k : Int) ≥ q by omega) c⟩)
  | succ s ih =>
    intro k A' sg last m1 hks f I
    have I' := I
    obtain ⟨i1, i2, i3, i4, i5, i6⟩ := I'
    have hlast : last ≠ 0 := by
      rw [i5]
      by_cases hk0 : k = 0
      · rw [hk0]; show (1 : Int) ≠ 0; decide
      · exact i4 k (by omega) (Nat.le_refl _)
    have qN : 0 ≤ (q : Int) ∧ (q : Int) ≤ 5 := by omega
    refine s_M_squareOf_58 _ _ _ _ (fun _ _ _ _ _ => ⟨fun c => absurd c (by omega), fun _ => ?_⟩)
    -- the rows below are cleared
    have rows : ∀ (B' : Nat → Nat → Int) (sg' : Int) (mc : MM), Fr [99] m0 mc → SqI q k A B' (mc 99) sg' last → dtm (k + 1) (bord k B' k k) ≠ 0 → ∀ (t : Nat) (i : Nat) (m2 : MM), i + t = q → k < i → Fr [99] mc m2 → (∀ r j : Nat, k ≤ r → r < q → k ≤ j → j < q → m2 99 ((r : Int) * q + j) = if k < r ∧ r < i ∧ k < j then dtm (k + 2) (bord (k + 1) B' r j) else mc 99 ((r : Int) * q + j)) →
        Wq l G false Y_M_squareOf (d + 1) (QI fun z m' => Fr [99] m0 m' ∧ z = dtm q A) 132 [(0, .inr (.inr 70)), (3, .inl (q : Int)), (4, .inr (.inl last)), (6, .inl sg'), (7, .inl (k : Int)), (9, .inl (i : Int))] [] m2 := by
      intro B' sg' mc fc J hpv t
      obtain ⟨j1, j2, j3, j4, j5, j6⟩ := J
      have lead : dtm (k + 1) (bord k B' k k) = dtm (k + 1) B' := dtm_congr (fun a c ha hc => by
        unfold bord
        have f1 : ∀ x : Nat, x < k + 1 → (if x < k then x else k) = x := fun x hx => by split <;> omega
        rw [f1 a ha, f1 c hc])
      induction t with
      | zero =>
        intro i m2 hit hki f2 hv
        have ekk : m2 99 ((k : Int) * q + k) = dtm (k + 1) (bord k B' k k) := by
          rw [hv k k (Nat.le_refl _) (by omega) (Nat.le_refl _) (by omega), if_neg (by omega)]
          exact j6 k k (Nat.le_refl _) (by omega) (Nat.le_refl _) (by omega)
        have ib := idx qN (i := (k : Int)) (j := (k : Int)) (by omega) (by omega)
        refine s_M_squareOf_132 _ _ _ _ _ (fun _ _ _ _ _ _ => ⟨fun _ => ⟨by omega, by omega, by omega, by omega, ?_⟩, fun c => absurd (show (i : Int) ≥ q by omega) c⟩)
        have := ih (k + 1) B' sg' (dtm (k + 1) (bord k B' k k)) m2 (by omega) (Fr.tr fc f2) ⟨j1, j2, j3, fun s h1 h2 => by
          by_cases e : s = k + 1
          · rw [e, ← lead]; exact hpv
          · exact j4 s h1 (by omega), lead, fun a c h1 h2 h3 h4 => by
          rw [hv a c (by omega) h2 (by omega) h4, if_pos ⟨by omega, by omega, by omega⟩]⟩
        rw [ekk]
        exact this
      | succ t iht =>
        intro i m2 hit hki f2 hv
        have hiq : i < q := by omega
        have hk3 : k ≤ 3 := by omega
        have eold : ∀ r j : Nat, k ≤ r → r < q → k ≤ j → j < q → ¬ (k < r ∧ r < i ∧ k < j) → m2 99 ((r : Int) * q + j) = dtm (k + 1) (bord k B' r j) := fun r j h1 h2 h3 h4 h5 => by
          rw [hv r j h1 h2 h3 h4, if_neg h5]
          exact j6 r j h1 h2 h3 h4
        have clr : CV l G Y_M_clear d [.inr (.inr 70), .inl (q : Int), .inl (k : Int), .inl (i : Int), .inr (.inl last)] m2 (fun m' => Fr [99] m2 m' ∧ ∀ s t, 0 ≤ s → s < (q : Int) → 0 ≤ t → t < (q : Int) → m' 99 (s * q + t) = if s = (i : Int) ∧ (k : Int) < t then dtm (k + 2) (bord (k + 1) B' i t.toNat) else m2 99 (s * q + t)) := by
          refine c_clear qN (by omega) (by omega) hlast (fun t => dtm (k + 2) (bord (k + 1) B' i t.toNat)) (fun s t s0 s1 t0 t1 hst => ?_) (fun t h1 h2 => ?_)
          · obtain ⟨s', rfl⟩ : ∃ x : Nat, s = (x : Int) := ⟨s.toNat, by omega⟩
            obtain ⟨t', rfl⟩ : ∃ x : Nat, t = (x : Int) := ⟨t.toNat, by omega⟩
            rw [hv s' t' (by omega) (by omega) (by omega) (by omega)]
            by_cases e : k < s' ∧ s' < i ∧ k < t'
            · rw [if_pos e]
              exact bord_rng j1 (k := k + 1) (by omega) hq (by omega) (by omega)
            · rw [if_neg e, j6 s' t' (by omega) (by omega) (by omega) (by omega)]
              exact bord_rng j1 (k := k) (by omega) hq (by omega) (by omega)
          · obtain ⟨t', rfl⟩ : ∃ x : Nat, t = (x : Int) := ⟨t.toNat, by omega⟩
            show (-12000000 ≤ dtm (k + 2) (bord (k + 1) B' i (t' : Int).toNat) ∧ dtm (k + 2) (bord (k + 1) B' i (t' : Int).toNat) ≤ 12000000) ∧ _ = dtm (k + 2) (bord (k + 1) B' i (t' : Int).toNat) * last
            rw [Int.toNat_natCast]
            refine ⟨bord_rng j1 (k := k + 1) (by omega) hq hiq (by omega), ?_⟩
            rw [eold i t' (by omega) hiq (by omega) (by omega) (by omega), eold k k (by omega) (by omega) (by omega) (by omega) (by omega), eold i k (by omega) hiq (by omega) (by omega) (by omega), eold k t' (by omega) (by omega) (by omega) (by omega) (by omega), j5]
            exact (jac hk3 B' (fun h3 => by
              have h1 := j4 1 (by omega) (by omega)
              have e : dtm 1 B' = 0 + B' 0 0 * 1 := rfl
              intro r
              rw [e, r] at h1
              exact h1 rfl) i t').symm
        refine s_M_squareOf_132 _ _ _ _ _ (fun _ _ _ _ _ _ => ⟨fun c => absurd c (by omega), fun _ => ⟨d, _, by omega, clr, fun m3 h3 _ => ⟨by omega, ?_⟩⟩⟩)
        obtain ⟨f3, v3⟩ := h3
        refine iht (i + 1) m3 (by omega) (by omega) (f2.tr f3) (fun r j h1 h2 h3 h4 => ?_)
        rw [v3 r j (by omega) (by omega) (by omega) (by omega), Int.toNat_natCast]
        by_cases e : r = i
        · by_cases e2 : k < j
          · rw [if_pos ⟨by omega, by omega⟩, if_pos ⟨by omega, by omega, e2⟩, e]
          · rw [if_neg (fun r2 => by omega), if_neg (fun r2 => by omega), hv r j h1 h2 h3 h4, if_neg (fun r2 => by omega)]
        · rw [if_neg (fun r2 => by omega), hv r j h1 h2 h3 h4]
          by_cases e3 : k < r ∧ r < i ∧ k < j
          · rw [if_pos e3, if_pos ⟨e3.1, by omega, e3.2.2⟩]
          · rw [if_neg e3, if_neg (fun r2 => e3 ⟨r2.1, by omega, r2.2.2⟩)]
    -- the pivot
    have piv : ∀ (t w : Nat), w + t = q → k ≤ w → (∀ i, k ≤ i → i < w → dtm (k + 1) (bord k A' i k) = 0) → Wq l G false Y_M_squareOf (d + 1) (QI fun z m' => Fr [99] m0 m' ∧ z = dtm q A) 68 [(0, .inr (.inr 70)), (3, .inl (q : Int)), (4, .inr (.inl last)), (6, .inl sg), (7, .inl (k : Int)), (8, .inl (w : Int))] [] m1 := by
      intro t
      induction t with
      | zero =>
        intro w hwt hkw hz
        have ew : w = q := by omega
        rw [ew] at hz
        have hdet : dtm q A = 0 := by rw [i3, no_pivot k hq (by omega) i4 hz, Int.mul_zero]
        exact s_M_squareOf_68 _ _ _ _ _ (fun _ _ _ _ _ _ => ⟨fun _ => ⟨fun c => absurd (show (w : Int) = q by omega) c, fun _ => ⟨f, hdet.symm⟩⟩, fun c => absurd (show (w : Int) ≥ q by omega) c⟩)
      | succ t iht =>
        intro w hwt hkw hz
        have ib := idx qN (i := (w : Int)) (j := (k : Int)) (by omega) (by omega)
        have ewk := i6 w k hkw (by omega) (Nat.le_refl _) (by omega)
        refine s_M_squareOf_68 _ _ _ _ _ (fun _ _ _ _ _ _ => ⟨fun c => absurd c (by omega), fun _ => ⟨by omega, by omega, by omega, ?_⟩⟩)
        rw [ewk]
        refine ⟨fun c => ⟨fun _ => ⟨fun c2 => ⟨by omega, ?_⟩, fun c2 => ⟨by omega, ?_⟩⟩, fun c2 => absurd (show (w : Int) ≠ q by omega) c2⟩, fun c => ⟨by omega, iht (w + 1) (by omega) (by omega) (fun i h1 h2 => ?_)⟩⟩
        · have ewk2 : w = k := by omega
          rw [ewk2] at c
          have := rows A' sg m1 f I c (q - (k + 1)) (k + 1) m1 (by omega) (by omega) Fr.rf (fun r j h1 h2 h3 h4 => by rw [if_neg (fun x => by omega)])
          exact this
        · have hkw2 : k < w := by omega
          refine ⟨d, _, by omega, c_swapRows qN (k := (k : Int)) (w := (w : Int)) (by omega) (by omega) (by omega), fun m2 h2 _ => ⟨by omega, ?_⟩⟩
          obtain ⟨f2, v2⟩ := h2
          have hsp : ∀ s, s < q → swp k w s < q := fun s hs => swp_lt (by omega) (by omega) hs
          have J : SqI q k A (fun i j => A' (swp k w i) j) (m2 99) (-sg) last := by
            refine ⟨fun i j hi hj => i1 _ _ (hsp i hi) hj, by omega, ?_, fun s h1 h2 => ?_, ?_, fun i j h1 h2 h3 h4 => ?_⟩
            · rw [dtm_swp hq hkw2 (by omega) A', i3, Int.neg_mul_neg]
            · have e : dtm s (fun i j => A' (swp k w i) j) = dtm s A' := dtm_congr (fun a c ha hc => by
                show A' (swp k w a) c = A' a c
                rw [show swp k w a = a by unfold swp; rw [if_neg (by omega), if_neg (by omega)]])
              rw [e]
              exact i4 s h1 h2
            · rw [i5]
              exact dtm_congr (fun a c ha hc => by
                show A' a c = A' (swp k w a) c
                rw [show swp k w a = a by unfold swp; rw [if_neg (by omega), if_neg (by omega)]])
            · have e : dtm (k + 1) (bord k (fun i j => A' (swp k w i) j) i j) = dtm (k + 1) (bord k A' (swp k w i) j) := dtm_congr (fun a c ha hc => by
                show A' (swp k w (if a < k then a else i)) (if c < k then c else j) = A' (if a < k then a else swp k w i) (if c < k then c else j)
                by_cases ea : a < k
                · rw [if_pos ea, if_pos ea, show swp k w a = a by unfold swp; rw [if_neg (by omega), if_neg (by omega)]]
                · rw [if_neg ea, if_neg ea])
              rw [e, v2 i j (by omega) (by omega) (by omega) (by omega)]
              have es : (if (i : Int) = (k : Int) then (w : Int) else if (i : Int) = (w : Int) then (k : Int) else (i : Int)) = ((swp k w i : Nat) : Int) := by
                unfold swp
                by_cases g1 : i = k
                · rw [if_pos g1, if_pos (by omega)]
                · rw [if_neg g1, if_neg (by omega)]
                  by_cases g2 : i = w
                  · rw [if_pos g2, if_pos (by omega)]
                  · rw [if_neg g2, if_neg (by omega)]
              rw [es]
              exact i6 (swp k w i) j (swp_ge hkw2 h1) (hsp i h2) h3 h4
          have hp2 : dtm (k + 1) (bord k (fun i j => A' (swp k w i) j) k k) ≠ 0 := by
            have e : dtm (k + 1) (bord k (fun i j => A' (swp k w i) j) k k) = dtm (k + 1) (bord k A' w k) := dtm_congr (fun a c ha hc => by
              show A' (swp k w (if a < k then a else k)) (if c < k then c else k) = A' (if a < k then a else w) (if c < k then c else k)
              by_cases ea : a < k
              · rw [if_pos ea, if_pos ea, show swp k w a = a by unfold swp; rw [if_neg (by omega), if_neg (by omega)]]
              · rw [if_neg ea, if_neg ea, show swp k w k = w by unfold swp; rw [if_pos rfl]])
            rw [e]
            exact c
          exact rows _ (-sg) m2 (f.tr f2) J hp2 (q - (k + 1)) (k + 1) m2 (by omega) (by omega) Fr.rf (fun r j h1 h2 h3 h4 => by rw [if_neg (fun x => by omega)])
        · by_cases e : i = w
          · rw [e]; exact Classical.not_not.mp c
          · exact hz i h1 (by omega)
    exact piv s.succ k (by omega) (Nat.le_refl _) (fun i h1 h2 => absurd h2 (by omega))
theorem c_squareOf (B : BW n D W br) (X : BM n D W br m) {R C : Int} (hR : Sub n R) (hC : Sub n C) (e : cnt R 5 = cnt C 5) : CI l G Y_M_squareOf (d + 2) [.inr (.inr 70), .inl R, .inl C] m (fun z m' => Fr [99] m m' ∧ z = MnV W br R C) := by
  have hn5 := B.1
  have hR32 := hR.rng hn5
  have hC32 := hC.rng hn5
  have hq := cnt_le R 5
  have hbc := (nt_1 hR32).1
  unfold MnV
  generalize hqq : cnt R 5 = q at hq hbc e
  generalize hA : (fun i j => enN W br (nt R i) (nt C j)) = A
  refine e_M_squareOf R C (fun _ _ _ => ⟨d, _, by omega, c_bitsOf hR32, fun z m1 hz _ _ => ?_⟩)
  obtain ⟨rfl, rfl⟩ := hz
  rw [← hbc]
  have hq2 : (0 : Int) ≤ (q : Int) * q ∧ (q : Int) * q ≤ 25 := by
    have : q = 0 ∨ q = 1 ∨ q = 2 ∨ q = 3 ∨ q = 4 ∨ q = 5 := by omega
    rcases this with rfl | rfl | rfl | rfl | rfl | rfl <;> decide
  have fill : ∀ (s : Nat) (x : Int) (m1 : MM), x + s = (q : Int) * q → 0 ≤ x → Fr [99] m m1 → (∀ i j : Nat, i < q → j < q → (i : Int) * q + j < x → m1 99 ((i : Int) * q + j) = A i j) → Wq l G false Y_M_squareOf (d + 2) (QI fun z m' => Fr [99] m m' ∧ z = dtm q A) 8 [(0, .inr (.inr 70)), (1, .inl R), (2, .inl C), (3, .inl (q : Int)), (4, .inl x)] [] m1 := by
    intro s
    induction s with
    | zero =>
      intro x m1 hxs x0 f hv
      refine s_M_squareOf_8 _ _ _ _ (fun _ _ _ _ _ => ⟨by omega, fun _ => ?_, fun c => absurd (show x ≥ (q : Int) * q by omega) c⟩)
      refine c_elim (l := l) (G := G) (d := d + 1) hq A (k := 0) q 0 A 1 1 m1 (by omega) f ⟨fun i j hi hj => ?_, Or.inl rfl, by omega, fun s h1 h2 => by omega, rfl, fun i j h1 h2 h3 h4 => ?_⟩
      · rw [← hA]
        exact enN_rng B (hR.nt hn5 (by omega)) (hC.nt hn5 (by omega))
      · have hlt : (i : Int) * q + j < x := by
          have h5 := Int.mul_le_mul_of_nonneg_right (show (i : Int) ≤ (q : Int) - 1 by omega) (show (0 : Int) ≤ (q : Int) by omega)
          rw [Int.sub_mul, Int.one_mul] at h5
          omega
        rw [hv i j h2 h4 hlt]
        have e1 : dtm (0 + 1) (bord 0 A i j) = 0 + A i j * 1 := rfl
        rw [e1]; omega
    | succ s ih =>
      intro x m1 hxs x0 f hv
      have X1 := X.fro (S := [99]) (I := []) ⟨fun c hc _ => f c hc, fun i _ => by rw [f 70 (by decide)]⟩ (by decide) (by decide) (by decide) (by decide) (by decide)
      have q0 : 0 < q := by
        rcases Nat.eq_zero_or_pos q with h | h
        · rw [h] at hxs
          have : ((0 : Nat) : Int) * ((0 : Nat) : Int) = 0 := rfl
          omega
        · exact h
      have ei : 0 ≤ x / (q : Int) := Int.ediv_nonneg x0 (by omega)
      have ei2 : x / (q : Int) < q := Int.ediv_lt_of_lt_mul (by omega) (by omega)
      have ej : 0 ≤ x % (q : Int) := Int.emod_nonneg x (by omega)
      have ej2 : x % (q : Int) < q := Int.emod_lt_of_pos x (by omega)
      have exx : x / (q : Int) * q + x % (q : Int) = x := by have := Int.mul_ediv_add_emod x q; rw [Int.mul_comm]; exact this
      obtain ⟨i', hi'⟩ : ∃ t : Nat, x / (q : Int) = (t : Int) := ⟨(x / (q : Int)).toNat, by omega⟩
      obtain ⟨j', hj'⟩ : ∃ t : Nat, x % (q : Int) = (t : Int) := ⟨(x % (q : Int)).toNat, by omega⟩
      rw [hi'] at ei ei2 exx
      rw [hj'] at ej ej2 exx
      refine s_M_squareOf_8 _ _ _ _ (fun _ _ _ _ _ => ⟨by omega, fun c => absurd c (by omega), fun _ => ⟨by omega, ?_⟩⟩)
      rw [Int.tdiv_eq_ediv_of_nonneg x0, Int.tmod_eq_emod_of_nonneg x0, hi', hj']
      refine ⟨d + 1, _, by omega, c_nthOf hR32 (j := i') (by omega), fun z m2 hz _ _ => ?_⟩
      obtain ⟨rfl, rfl⟩ := hz
      refine ⟨by omega, d + 1, _, by omega, c_nthOf hC32 (j := j') (by omega), fun z m2 hz _ _ => ?_⟩
      obtain ⟨rfl, rfl⟩ := hz
      refine ⟨d + 1, _, by omega, c_entry B X1 (hR.nt hn5 (by omega)) (hC.nt hn5 (by omega)), fun z m2 hz _ _ => ⟨by omega, ?_⟩⟩
      obtain ⟨rfl, rfl⟩ := hz
      rintro m2 rfl
      refine ⟨by omega, ih (x + 1) _ (by omega) (by omega) (Fr_up f (by simp)) (fun i j hi hj hlt => ?_)⟩
      rw [up_row]
      by_cases g : (i : Int) * q + j = x
      · rw [if_pos g]
        have g2 : (i : Int) * q + j = (i' : Int) * q + j' := by omega
        obtain ⟨g3, g4⟩ := idx_inj (N := (q : Int)) (by omega) (by omega) g2
        rw [← hA, show i = i' by omega, show j = j' by omega]
      · rw [if_neg g]
        exact hv i j hi hj (by omega)
  exact fill ((q : Int) * q).toNat 0 m (by omega) (by omega) Fr.rf (fun i j hi hj hlt => by
    have := Int.mul_nonneg (show (0 : Int) ≤ (i : Int) by omega) (show (0 : Int) ≤ (q : Int) by omega)
    omega)
end Sq2
