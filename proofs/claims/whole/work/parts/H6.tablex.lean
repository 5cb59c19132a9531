/-! table of the class -/
def FrW (b : Nat) (m m' : MM) : Prop := ∀ a i, ¬ rgY b a i → ¬ (a = 0 ∧ (i = 1 ∨ i = 3 ∨ i = 4 ∨ i = 5 ∨ i = 6)) → m' a i = m a i
/-- what the class's table leaves -/
def PtX (T : Int → Int) (N : Int) (b0 b : Nat) (m : MM) (z : Int) (m' : MM) : Prop :=
  (∃ f, TaR T N (.inl f) ∧ z = -1 ∧ m' 0 3 = f.1 ∧ m' 0 4 = f.2 ∧ m' 0 1 = 0 ∧ m' 0 5 = b0 ∧ m' 0 6 = b ∧ FrW b m m') ∨ ∃ Z cs, TaR T N (.inr (Z, cs)) ∧ z = Z 1 ∧ ZI N Z cs ∧ okZ Z ∧ ∃ mE, FrW b m mE ∧ mE 0 3 = 0 ∧ mE 0 4 = -1 ∧ mE 0 1 = 0 ∧ mE 0 5 = b ∧ mE 0 6 = b0 ∧ BdX b Z cs mE ∧ BX (zn Z) (ZD Z) (ZW Z) (zbr Z) b mE ∧ (∀ i, In (zn Z) i → FaR (zn Z) (ZD Z) (ZW Z) i (mE (b + 5) i)) ∧ BgX (zn Z) (ZD Z) (ZW Z) (zbr Z) b mE m'
section TableX
variable {l : Launch} {G : GT} {d : Nat} {m : MM} {b0 b : Nat} {T : Int → Int} {N : Int}
theorem c_tableX (hG : GVok G) (h5 : m 0 5 = b0 ∧ isB b0) (h6 : m 0 6 = b ∧ isB b) (hK : KyX m) (hN : m 0 1 = N ∧ 0 ≤ N ∧ N ≤ 1600) (hT : ∀ t, 0 ≤ t → t < N → m 1 t = T t ∧ 0 ≤ T t ∧ T t ≤ 255) : CI l G Y_S_table (d + 58) [.inr (.inr 0)] m (PtX T N b0 b m) := by
  have nb := isB_ne h6.2
  generalize hQ : PtX T N b0 b m = Q
  refine e_S_table (fun _ => ⟨b, h6.1, h6.2, ?_⟩)
  rw [hN.1]
  refine ⟨d + 57, _, by omega, c_readX hG h6.2 hK hN.2 hT, fun z m1 h1 _ _ m2 e2 m3 e3 m4 e4 => ?_⟩
  obtain ⟨f1, R', hR', h1⟩ := h1
  have k : ∀ a, a ≠ 0 → m4 a = m1 a := fun a ha => by rw [e4, up_ne ha, e3, up_ne ha, e2, up_ne ha]
  have k0 : ∀ i : Int, i ≠ 1 → i ≠ 3 → i ≠ 4 → m4 0 i = m 0 i := fun i c1 c3 c4 => by
    rw [e4, up_off c1, e3, up_off c4, e2, up_off c3, f1 0 i (fun g => by unfold rgY at g; omega)]
  have k3 : m4 0 3 = m1 2 6 := by rw [e4, up_off (by decide), e3, up_off (by decide), e2, up_at]
  have k4 : m4 0 4 = m1 2 7 := by rw [e4, up_off (by decide), e3, up_at, e2, up_ne (by decide)]
  have k1 : m4 0 1 = 0 := by rw [e4, up_at]
  have f4 : FrW b m m4 := fun a i h1 h2 => by
    by_cases c : a = 0
    · subst c
      exact k0 i (fun q => h2 ⟨rfl, by omega⟩) (fun q => h2 ⟨rfl, by omega⟩) (fun q => h2 ⟨rfl, by omega⟩)
    · rw [k a c, f1 a i h1]
  have j5 : m4 0 5 = b0 := by rw [k0 5 (by decide) (by decide) (by decide)]; exact h5.1
  have j6 : m4 0 6 = b := by rw [k0 6 (by decide) (by decide) (by decide)]; exact h6.1
  rcases h1 with ⟨f, e, hz, hf1, hf2⟩ | ⟨Z, cs, e, hz, hZ, ok, q6, q7, B1, X1, hF⟩
  · refine ⟨fun c => absurd hz c, fun _ => ?_⟩
    rw [← hQ]
    rw [e] at hR'
    exact Or.inl ⟨f, hR', rfl, by rw [k3]; exact hf1, by rw [k4]; exact hf2, k1, j5, j6, f4⟩
  · refine ⟨fun _ => ⟨b0, j5, h5.2, b, j6, h6.2, fun m5 e5 m6 e6 => ?_⟩, fun c => absurd (by rw [hz]; decide) c⟩
    obtain ⟨hBV, hzn⟩ := hZ.2.bv
    have BWz : BW (zn Z) (ZD Z) (ZW Z) (zbr Z) := hBV.bw (fun _ _ => rfl) ok
    have kA : ∀ a, a ≠ 0 → m6 a = m1 a := fun a ha => by rw [e6, up_ne ha, e5, up_ne ha, k a ha]
    have g0 : ∀ i : Int, i ≠ 5 → i ≠ 6 → m6 0 i = m4 0 i := fun i c5 c6 => by rw [e6, up_off c6, e5, up_off c5]
    have g5 : m6 0 5 = b := by rw [e6, up_off (by decide), e5, up_at]
    have g6 : m6 0 6 = b0 := by rw [e6, up_at]
    have X6 : BX (zn Z) (ZD Z) (ZW Z) (zbr Z) b m6 := by
      unfold BX
      rw [kA b (by omega), kA (b + 3) (by omega), kA (b + 4) (by omega), kA (b + 2) (by omega)]
      exact X1
    have B6 : BdX b Z cs m6 := by
      unfold BdX CF
      rw [kA b (by omega), kA 2 (by omega), kA 6 (by omega), kA (b + 1) (by omega), kA (b + 2) (by omega), kA (b + 3) (by omega), kA (b + 6) (by omega), kA (b + 6 + 1) (by omega)]
      exact B1
    have f6 : FrW b m m6 := fun a i h1 h2 => by
      by_cases c : a = 0
      · subst c
        rw [g0 i (fun q => h2 ⟨rfl, by omega⟩) (fun q => h2 ⟨rfl, by omega⟩)]
        exact f4 0 i h1 h2
      · rw [kA a c, f1 a i h1]
    refine ⟨d + 5, _, by omega, c_begin BWz ⟨h6.2, g5, X6⟩, fun m7 h7 _ => ?_⟩
    have hfr := h7.1
    have n05 : m7 0 5 = b := by rw [hfr 0 (by decide)]; exact g5
    have nb0 : m7 b = m6 b := hfr b (by rcases h6.2 with rfl | rfl <;> decide)
    refine ⟨b, n05, h6.2, ?_⟩
    rw [nb0, B6.1.1, ← hQ]
    rw [e] at hR'
    exact Or.inr ⟨Z, cs, hR', rfl, hZ, ok, m6, f6, by rw [g0 3 (by decide) (by decide), k3]; exact q6, by rw [g0 4 (by decide) (by decide), k4]; exact q7, by rw [g0 1 (by decide) (by decide)]; exact k1, g5, g6, B6, X6, fun i hi => by rw [kA (b + 5) (by omega)]; exact hF i hi, h7⟩
end TableX
