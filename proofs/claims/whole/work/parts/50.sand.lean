/-! Contracts: the board's questions, and sand. -/
/-- all cells but these stay -/
def Fr (S : List Nat) (m m' : MM) : Prop := ∀ b, b ∉ S → m' b = m b
theorem Fr.rf {S : List Nat} {m : MM} : Fr S m m := fun _ _ => rfl
theorem Fr.tr {S : List Nat} {m m1 m2 : MM} (h1 : Fr S m m1) (h2 : Fr S m1 m2) : Fr S m m2 := fun b hb => (h2 b hb).trans (h1 b hb)
theorem Fr.mono {S T : List Nat} {m m1 : MM} (h : Fr S m m1) (hs : ∀ b ∈ S, b ∈ T) : Fr T m m1 := fun b hb => h b (fun q => hb (hs b q))
theorem Fr_up {S : List Nat} {m m1 : MM} {a : Nat} {i v : Int} (h : Fr S m m1) (ha : a ∈ S) : Fr S m (up m1 a i v) := fun b hb => by
  rw [up_ne (fun e => hb (by rw [e]; exact ha))]
  exact h b hb
theorem up_at {m : MM} {a : Nat} {i v : Int} : up m a i v a i = v := by simp [up]
theorem up_off {m : MM} {a : Nat} {i j v : Int} (h : j ≠ i) : up m a i v a j = m a j := by simp [up, h]
theorem up_row {m : MM} {a : Nat} {i j v : Int} : up m a i v a j = if j = i then v else m a j := by simp [up]
/-- what the class knows of a table -/
def BX (n : Nat) (D : Int → Int) (W : Int → Int → Int) (br : Int → Int) (b : Nat) (m : MM) : Prop :=
  m b 0 = n ∧ (∀ i, In n i → m (b + 3) i = D i) ∧ (∀ i, In n i → m (b + 4) i = br i) ∧ ∀ i j, In n i → In n j → m (b + 2) (i * 5 + j) = W i j
theorem BX.fr {n : Nat} {D : Int → Int} {W : Int → Int → Int} {br : Int → Int} {b : Nat} {m m' : MM} (X : BX n D W br b m) {S : List Nat} (h : Fr S m m') (h0 : b ∉ S) (h2 : b + 2 ∉ S) (h3 : b + 3 ∉ S) (h4 : b + 4 ∉ S) : BX n D W br b m' := by
  obtain ⟨x0, x3, x4, x2⟩ := X
  exact ⟨by rw [h b h0]; exact x0, fun i hi => by rw [h _ h3]; exact x3 i hi, fun i hi => by rw [h _ h4]; exact x4 i hi, fun i j hi hj => by rw [h _ h2]; exact x2 i j hi hj⟩
theorem sb_ne {a b : Nat} (ha : isS a) (hb : isB b) : ∀ k, k ≤ 8 → ∀ j, j ≤ 2 → b + k ≠ a + j := by
  intro k hk j hj
  rcases ha with rfl | rfl | rfl | rfl <;> rcases hb with rfl | rfl <;> omega
theorem sb_S {a b : Nat} (ha : isS a) (hb : isB b) : ∀ k, k ≤ 8 → b + k ∉ [a, a + 1, a + 2] := by
  intro k hk h
  simp only [List.mem_cons, List.not_mem_nil, or_false] at h
  have := sb_ne ha hb k hk
  rcases h with h | h | h
  · exact this 0 (by omega) h
  · exact this 1 (by omega) h
  · exact this 2 (by omega) h
theorem BX.sand {n : Nat} {D : Int → Int} {W : Int → Int → Int} {br : Int → Int} {a b : Nat} {m m' : MM} (X : BX n D W br b m) (ha : isS a) (hb : isB b) (h : Fr [a, a + 1, a + 2] m m') : BX n D W br b m' :=
  X.fr h (sb_S ha hb 0 (by omega)) (sb_S ha hb 2 (by omega)) (sb_S ha hb 3 (by omega)) (sb_S ha hb 4 (by omega))
theorem BW.br {n : Nat} {D : Int → Int} {W : Int → Int → Int} {br : Int → Int} (B : BW n D W br) {i : Int} (hi : In n i) : 0 < br i ∧ br i ≤ 12 := by
  obtain ⟨hn, hD, hW, hd, hb, ds, hds⟩ := B
  have h1 := hD i hi
  have h2 : sm n (W i) ≤ 10 := by
    have := sm_le (n := n) (f := W i) (g := fun _ => 2) (fun j hj => (hW i j hi hj).2.1)
    have h3 : ∀ k : Nat, sm k (fun _ => (2 : Int)) = 2 * k := by
      intro k
      induction k with
      | zero => rfl
      | succ k ih => show sm k _ + 2 = _; rw [ih]; omega
    rw [h3] at this
    omega
  have h0 := sm_nonneg (n := n) (f := W i) (fun j hj => (hW i j hi hj).1)
  rw [hb i hi]
  refine ⟨?_, by omega⟩
  rcases (hds i hi).2 with h | ⟨j, hj, hw, -⟩
  · omega
  · have := sm_term (n := n) (f := W i) (fun j hj => (hW i j hi hj).1) j hj
    omega
section Con
variable {l : Launch} {G : GT} {d : Nat} {m : MM} {a b : Nat} {n : Nat} {D : Int → Int} {W : Int → Int → Int} {br : Int → Int}
theorem c_has (hb : isB b) {x : Int} : CI l G Y_Board_has d [.inr (.inr b), .inl x] m (fun z m' => z = (if 0 ≤ x ∧ x < m b 0 then 1 else 0) ∧ m = m') := by
  refine e_Board_has x b hb (fun _ _ => ⟨fun c => ⟨?_, rfl⟩, fun c => ⟨fun c2 => ⟨?_, rfl⟩, fun c2 => ⟨?_, rfl⟩⟩⟩)
  · rw [if_neg (by omega)]
  · rw [if_neg (by omega)]
  · rw [if_pos (by omega)]
theorem c_put (ha : isS a) {x v : Int} (hx : 0 ≤ x ∧ x < 5) (hv : inR (m (a + 1) x + v)) : CV l G Y_Sand_put d [.inr (.inr a), .inl x, .inl v] m (fun m' => m' = up m (a + 1) x (m (a + 1) x + v)) :=
  e_Sand_put x v a ha (fun _ _ _ => ⟨fun c => absurd hx.1 (by omega), fun _ => ⟨fun c => absurd hx.2 (by omega), fun _ => ⟨hx, hv, hx, fun _ h => h⟩⟩⟩)
theorem c_take (ha : isS a) {h len : Nat} (hl : q_lay h = .inr (0, len)) (h5 : 5 ≤ len) (hlt : len < 2147483648) (h1 : h ≠ a + 1) (h2 : h ≠ a + 2) :
    CV l G Y_Sand_take d [.inr (.inr a), .inr (.inr h)] m (fun m' => Fr [a, a + 1, a + 2] m m' ∧ (∀ i, 0 ≤ i → i < 5 → m' (a + 1) i = m h i ∧ m' (a + 2) i = 0) ∧ m' a 2 = 0 ∧ m' a 3 = 0) := by
  refine e_Sand_take a h len ha hl hlt (fun _ => ?_)
  have loop : ∀ (k : Nat) (i : Int) (m1 : MM), i + k = 5 → 0 ≤ i → Fr [a + 1, a + 2] m m1 → (∀ j, 0 ≤ j → j < i → m1 (a + 1) j = m h j ∧ m1 (a + 2) j = 0) →
      Wq l G false Y_Sand_take d (QV fun m' => Fr [a, a + 1, a + 2] m m' ∧ (∀ i, 0 ≤ i → i < 5 → m' (a + 1) i = m h i ∧ m' (a + 2) i = 0) ∧ m' a 2 = 0 ∧ m' a 3 = 0) 2 [(0, .inr (.inr a)), (1, .inr (.inr h)), (2, .inl i)] [] m1 := by
    intro k
    induction k with
    | zero =>
      intro i m1 hik h0 hf hj
      refine s_Sand_take_2 i a h len ha hl hlt (fun _ _ => ⟨fun _ => ?_, fun c => absurd (show i ≥ 5 by omega) c⟩)
      rintro m2 rfl m3 rfl
      refine ⟨Fr_up (Fr_up (hf.mono (fun b hb => List.mem_cons_of_mem _ hb)) (by simp)) (by simp), fun j j0 j1 => ?_, ?_, up_at⟩
      · rw [up_ne (by omega), up_ne (by omega), up_ne (by omega), up_ne (by omega)]
        exact hj j j0 (by omega)
      · rw [up_off (by decide), up_at]
    | succ k ih =>
      intro i m1 hik h0 hf hj
      refine s_Sand_take_2 i a h len ha hl hlt (fun _ _ => ⟨fun c => absurd c (by omega), fun _ => ⟨⟨by omega, hlt⟩, fun c => absurd c (by omega), fun _ => ⟨by omega, by omega, ?_⟩⟩⟩)
      rintro m2 rfl
      refine ⟨by omega, ?_⟩
      rintro m3 rfl
      refine ⟨by omega, ih (i + 1) _ (by omega) (by omega) (Fr_up (Fr_up hf (by simp)) (by simp)) (fun j j0 j1 => ?_)⟩
      have hh : m1 h = m h := hf h (by simp [h1, h2])
      by_cases e : j = i
      · subst e
        refine ⟨?_, up_at⟩
        rw [up_ne (by omega), up_at, hh]
      · have := hj j j0 (by omega)
        refine ⟨?_, ?_⟩
        · rw [up_ne (by omega), up_off e]; exact this.1
        · rw [up_off e, up_ne (by omega)]; exact this.2
  exact loop 5 0 m (by omega) (by omega) Fr.rf (fun j _ _ => by omega)
end Con
