/-! level of the class -/
section LevelX3
variable {l : Launch} {G : GT} {d : Nat} {m : MM} {b : Nat} {n : Nat} {D : Int → Int} {W : Int → Int → Int} {br : Int → Int}
theorem lvN_rng (B : BW n D W br) (a : Int) : 0 ≤ lvN n D W br a ∧ lvN n D W br a ≤ 100000 := by
  have hp := prd_le B (k := n) (Nat.le_refl _)
  have hp5 := pow10 B.1
  unfold lvN
  rw [← ms_lay (br := br) (k := n) (fun h => ind (Cag n D W br h ∧ sm n h = a)) (fun j hj => (B.br hj).1)]
  refine ⟨sm_nonneg (fun y _ => (ind_rng _).1), ?_⟩
  have h1 := (sm_bound (k := (prd br n).toNat) (f := fun y => ind (Cag n D W br (lay br n y) ∧ sm n (lay br n y) = a)) (M := 1) (fun y _ => by have := ind_rng (Cag n D W br (lay br n y) ∧ sm n (lay br n y) = a); show -1 ≤ ind _ ∧ ind _ ≤ 1; omega)).2
  omega
theorem lvN_big (B : BW n D W br) {a : Int} (ha : 46 ≤ a) : lvN n D W br a = 0 := by
  unfold lvN
  rw [ms_congr (F' := fun _ => 0) (fun h hh => ind_no (fun q => ?_)), ms_zero]
  have h1 := (sm_bound (k := n) (f := h) (M := 9) (fun i hi => by have := hh.1 i hi; have := B.br10 hi; omega)).2
  have := B.1
  have := q.2
  omega
/-- what the class has counted -/
def LvC (n : Nat) (D : Int → Int) (W : Int → Int → Int) (br : Int → Int) (m : MM) : Prop := m 45 3 ≠ 0 → ∀ a, 0 ≤ a → a < 46 → m 46 a = lvN n D W br a
theorem cnB_none : ∀ k : Nat, cnB (fun _ => false) k = 0
  | 0 => rfl
  | k + 1 => by
    show cnB (fun _ => false) k + (if false = true then 1 else 0) = 0
    rw [cnB_none k]; rfl
theorem c_ofLevel (B : BW n D W br) (hb : isB b) (X : BX n D W br b m) (H : LvC n D W br m) {x : Int} (hx : 0 ≤ x) : CI l G Y_Fire_ofLevel (d + 16) [.inr (.inr 45), .inr (.inr b), .inl x] m (fun z m' => Fro 45 [46, 48, 49, 50, 51, 52, 53] [3] m m' ∧ LvC n D W br m' ∧ z = lvN n D W br x) := by
  have hn5 := B.1
  refine e_Fire_ofLevel x b hb (fun _ _ => ⟨fun c => ⟨fun c2 => absurd c2 (by omega), fun _ => ⟨fun c3 => ⟨Fro.rf, H, (lvN_big B (by omega)).symm⟩, fun c3 => ⟨by omega, Fro.rf, H, H c x hx (by omega)⟩⟩⟩, fun c => ?_⟩)
  refine ⟨d, _, by omega, c_fill (h := 46) (len := 46) rfl (by decide) (by decide), fun m1 hm1 _ => ?_⟩
  obtain ⟨f1, v1⟩ := hm1
  refine ⟨d, _, by omega, c_fill (h := 48) (len := 46) rfl (by decide) (by decide), fun m2 hm2 _ => ?_⟩
  obtain ⟨f2, v2⟩ := hm2
  intro m3 e3
  have f3 : Fr [46, 48, 49, 50, 51, 52, 53] m m3 := by rw [e3]; exact Fr_up ((f1.mono (by simp)).tr (f2.mono (by simp))) (by simp)
  have X3 : BX n D W br b m3 := X.fr f3 (by rcases hb with rfl | rfl <;> decide) (by rcases hb with rfl | rfl <;> decide) (by rcases hb with rfl | rfl <;> decide) (by rcases hb with rfl | rfl <;> decide)
  have e46 : ∀ a, 0 ≤ a → a < 46 → m3 46 a = 0 := fun a a0 a1 => by
    rw [e3, up_ne (by decide), f2 46 (by decide)]
    exact v1 a a0 a1
  have cf := c_countFrom (l := l) (G := G) B hb n (d := d + 2 * (5 - n)) (m := m3) (p := fun _ => false) (q := fun _ => false) (th := br) (g := fun x => if x = 0 then 1 else 0) (t := 0) (by omega) (Nat.zero_le _) X3 (fun i hi _ => ⟨Int.le_refl _, by
    rw [if_pos rfl]
    have : wT n W i (fun _ => false) = 0 := by
      unfold wT
      rw [sm_congr (g := fun _ => 0) (fun j _ => if_neg (show ¬ false = true by decide)), sm_zero]
    unfold loB
    omega⟩) (fun a ha => if_neg (by omega)) (fun a => by
    rw [cnB_none, Int.pow_zero]
    show 0 ≤ (if a = 0 then (1 : Int) else 0) ∧ (if a = 0 then (1 : Int) else 0) ≤ 1
    split <;> decide) (fun a a0 a1 => by
    show m3 48 a = if a = 0 then 1 else 0
    rw [e3, up_row]
    by_cases q : a = 0
    · rw [if_pos q, if_pos q]
    · rw [if_neg q, if_neg q]
      exact v2 a a0 a1) (fun a a0 a1 => by
    rw [e46 a a0 a1, TL_root]
    have := lvN_rng B a
    omega)
  rw [bs_none] at cf
  refine ⟨d + 2 * (5 - n) + 2 * n + 5, _, by omega, cf, fun m4 hm4 _ => ?_⟩
  obtain ⟨f4, -, v4⟩ := hm4
  have f34 : Fr [46, 48, 49, 50, 51, 52, 53] m m4 := f3.tr (f4.mono (by simp))
  intro m5 e5
  have f5 : Fro 45 [46, 48, 49, 50, 51, 52, 53] [3] m m5 := by
    rw [e5]
    exact Fro_upo ⟨fun c hc _ => f34 c hc, fun i _ => by rw [f34 45 (by decide)]⟩ (by simp)
  have h5 : ∀ a, 0 ≤ a → a < 46 → m5 46 a = lvN n D W br a := fun a a0 a1 => by
    rw [e5, up_ne (by decide), v4 a a0 a1, e46 a a0 a1, TL_root]
    omega
  have H5 : LvC n D W br m5 := fun _ => h5
  exact ⟨fun c2 => absurd c2 (by omega), fun _ => ⟨fun c3 => ⟨f5, H5, (lvN_big B (by omega)).symm⟩, fun c3 => ⟨by omega, f5, H5, h5 x hx (by omega)⟩⟩⟩
theorem c_levelX (B : BW n D W br) (X : CX n D W br b m) (H : LvC n D W br m) {x : Int} : CI l G Y_S_level (d + 17) [.inr (.inr 0), .inl x] m (fun z m' => Fro 45 [46, 48, 49, 50, 51, 52, 53] [3] m m' ∧ LvC n D W br m' ∧ (0 ≤ x → z = lvN n D W br x) ∧ (¬ 0 ≤ x → z = -1)) := by
  refine e_S_level x (fun _ _ => ⟨fun c => ⟨b, X.2.1, X.1, d + 16, _, by omega, c_ofLevel B X.1 X.2.2 H c, fun z m1 hz _ _ => ?_⟩, fun c => ⟨Fro.rf, H, fun q => absurd q c, fun _ => rfl⟩⟩)
  obtain ⟨h1, h2, h3⟩ := hz
  exact ⟨h1, h2, fun _ => h3, fun q => absurd c q⟩
end LevelX3
