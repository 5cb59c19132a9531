/-! the law, call by call: what changes nothing -/
section Law1
variable {l : Launch} {G : GT} {m : MM} {Q : Option MV → MM → Nat → Prop}
theorem l_fault {x3 c : Int} (hx : 0 ≤ x3 ∧ x3 + 6 ≤ (g_L G : Int)) (hL : g_L G ≤ 3072) (hI : Inv c m) (hc : 0 ≤ c ∧ c ≤ 511) (L : ∀ m1, Inv (c + 1) m1 → Wq l G true Y_Law 400 Q 1542 [(0, .inr (.inr 1000)), (1, .inr (.inr 0)), (2, .inr (.inr 70)), (3, .inl x3)] [] m1) : Wq l G true Y_Law 400 Q 363 [(0, .inr (.inr 1000)), (1, .inr (.inr 0)), (2, .inr (.inr 70)), (3, .inl x3)] [] m := by
  obtain ⟨n, D, W, br, b, b', fs, lk, hd, hI⟩ := hI
  have B := hI.1.1
  have X := hI.1.2.1
  have hn5 := B.1
  obtain ⟨hE, hS, hAR, -, hBox⟩ := hI.2.2.2.1
  have hg := hS.1
  have hN := hS.2.1
  have hEn : ∀ i, In n i → m 25 i = m 90 i := fun i hi => hE i hi.1 (by have := hi.2; omega)
  refine s_Law_363 x3 (fun _ _ => ⟨by unfold inR; omega, by omega, 0, _, by decide, c_faultX, fun z m1 h1 _ _ => ?_⟩)
  obtain ⟨rfl, rfl⟩ := h1
  refine ⟨by unfold inR; omega, by omega, 0, _, by decide, c_faultM, fun z2 m2 h2 _ _ => ?_⟩
  obtain ⟨rfl, rfl⟩ := h2
  have I2 := hI.up1
  refine ⟨fun _ => L _ I2, fun q => q ?_⟩
  rw [hI.2.2.1.1.1, hI.2.2.1.1.2]
theorem l_plate {x3 c : Int} (hx : 0 ≤ x3 ∧ x3 + 6 ≤ (g_L G : Int)) (hL : g_L G ≤ 3072) (hI : Inv c m) (hc : 0 ≤ c ∧ c ≤ 511) (L : ∀ m1, Inv (c + 1) m1 → Wq l G true Y_Law 400 Q 1542 [(0, .inr (.inr 1000)), (1, .inr (.inr 0)), (2, .inr (.inr 70)), (3, .inl x3)] [] m1) : Wq l G true Y_Law 400 Q 386 [(0, .inr (.inr 1000)), (1, .inr (.inr 0)), (2, .inr (.inr 70)), (3, .inl x3)] [] m := by
  obtain ⟨n, D, W, br, b, b', fs, lk, hd, hI⟩ := hI
  have B := hI.1.1
  have X := hI.1.2.1
  have hn5 := B.1
  obtain ⟨hE, hS, hAR, -, hBox⟩ := hI.2.2.2.1
  have hg := hS.1
  have hN := hS.2.1
  have hEn : ∀ i, In n i → m 25 i = m 90 i := fun i hi => hE i hi.1 (by have := hi.2; omega)
  refine s_Law_386 x3 (fun _ _ => ⟨by unfold inR; omega, by omega, by unfold inR; omega, by omega, 3, _, by decide, c_plateX (d := 0) B X, fun z m1 h1 _ _ => ?_⟩)
  obtain ⟨rfl, rfl⟩ := h1
  refine ⟨by unfold inR; omega, by omega, by unfold inR; omega, by omega, 2, _, by decide, c_plateM (d := 0) B hI.1.2.2.1, fun z2 m2 h2 _ _ => ?_⟩
  obtain ⟨rfl, rfl⟩ := h2
  have I2 := hI.up1
  refine ⟨fun _ => L _ I2, fun q => q ?_⟩
  unfold plV
  by_cases c : In n (g_x G ((x3 + 1)).toNat)
  · rw [if_pos c, if_pos c, hEn _ c]
  · rw [if_neg c, if_neg c]
theorem l_wide {x3 c : Int} (hx : 0 ≤ x3 ∧ x3 + 6 ≤ (g_L G : Int)) (hL : g_L G ≤ 3072) (hI : Inv c m) (hc : 0 ≤ c ∧ c ≤ 511) (L : ∀ m1, Inv (c + 1) m1 → Wq l G true Y_Law 400 Q 1542 [(0, .inr (.inr 1000)), (1, .inr (.inr 0)), (2, .inr (.inr 70)), (3, .inl x3)] [] m1) : Wq l G true Y_Law 400 Q 419 [(0, .inr (.inr 1000)), (1, .inr (.inr 0)), (2, .inr (.inr 70)), (3, .inl x3)] [] m := by
  obtain ⟨n, D, W, br, b, b', fs, lk, hd, hI⟩ := hI
  have B := hI.1.1
  have X := hI.1.2.1
  have hn5 := B.1
  obtain ⟨hE, hS, hAR, -, hBox⟩ := hI.2.2.2.1
  have hg := hS.1
  have hN := hS.2.1
  have hEn : ∀ i, In n i → m 25 i = m 90 i := fun i hi => hE i hi.1 (by have := hi.2; omega)
  refine s_Law_419 x3 (fun _ _ => ⟨by unfold inR; omega, by omega, by unfold inR; omega, by omega, 2, _, by decide, c_wideX (d := 0) B X, fun z m1 h1 _ _ => ?_⟩)
  obtain ⟨rfl, rfl⟩ := h1
  refine ⟨by unfold inR; omega, by omega, by unfold inR; omega, by omega, 2, _, by decide, c_wideM (d := 0) B hI.1.2.2.1, fun z2 m2 h2 _ _ => ?_⟩
  obtain ⟨rfl, rfl⟩ := h2
  have I2 := hI.up1
  refine ⟨fun _ => L _ I2, fun q => q ?_⟩
  rfl
theorem l_over {x3 c : Int} (hx : 0 ≤ x3 ∧ x3 + 6 ≤ (g_L G : Int)) (hL : g_L G ≤ 3072) (hI : Inv c m) (hc : 0 ≤ c ∧ c ≤ 511) (L : ∀ m1, Inv (c + 1) m1 → Wq l G true Y_Law 400 Q 1542 [(0, .inr (.inr 1000)), (1, .inr (.inr 0)), (2, .inr (.inr 70)), (3, .inl x3)] [] m1) : Wq l G true Y_Law 400 Q 649 [(0, .inr (.inr 1000)), (1, .inr (.inr 0)), (2, .inr (.inr 70)), (3, .inl x3)] [] m := by
  obtain ⟨n, D, W, br, b, b', fs, lk, hd, hI⟩ := hI
  have B := hI.1.1
  have X := hI.1.2.1
  have hn5 := B.1
  obtain ⟨hE, hS, hAR, -, hBox⟩ := hI.2.2.2.1
  have hg := hS.1
  have hN := hS.2.1
  have hEn : ∀ i, In n i → m 25 i = m 90 i := fun i hi => hE i hi.1 (by have := hi.2; omega)
  refine s_Law_649 x3 (fun _ _ => ⟨1, _, by decide, c_overX (d := 0) B X, fun z m1 h1 _ _ => ?_⟩)
  obtain ⟨rfl, rfl⟩ := h1
  refine ⟨1, _, by decide, c_overM (d := 0) B hI.1.2.2.1, fun z2 m2 h2 _ _ => ?_⟩
  obtain ⟨rfl, rfl⟩ := h2
  have I2 := hI.up1
  refine ⟨fun _ => L _ I2, fun q => q ?_⟩
  exact bs_congr (fun i hi => by rw [hEn i hi])
theorem l_many {x3 c : Int} (hx : 0 ≤ x3 ∧ x3 + 6 ≤ (g_L G : Int)) (hL : g_L G ≤ 3072) (hI : Inv c m) (hc : 0 ≤ c ∧ c ≤ 511) (L : ∀ m1, Inv (c + 1) m1 → Wq l G true Y_Law 400 Q 1542 [(0, .inr (.inr 1000)), (1, .inr (.inr 0)), (2, .inr (.inr 70)), (3, .inl x3)] [] m1) : Wq l G true Y_Law 400 Q 819 [(0, .inr (.inr 1000)), (1, .inr (.inr 0)), (2, .inr (.inr 70)), (3, .inl x3)] [] m := by
  obtain ⟨n, D, W, br, b, b', fs, lk, hd, hI⟩ := hI
  have B := hI.1.1
  have X := hI.1.2.1
  have hn5 := B.1
  obtain ⟨hE, hS, hAR, -, hBox⟩ := hI.2.2.2.1
  have hg := hS.1
  have hN := hS.2.1
  have hEn : ∀ i, In n i → m 25 i = m 90 i := fun i hi => hE i hi.1 (by have := hi.2; omega)
  refine s_Law_819 x3 (fun _ _ => ⟨0, _, by decide, c_manyX B hI.2.2.2.2.2.2.1.2, fun z m1 h1 _ _ => ?_⟩)
  obtain ⟨rfl, rfl⟩ := h1
  refine ⟨0, _, by decide, c_manyM hI.2.2.2.2.2.2.2.2.2.2, fun z2 m2 h2 _ _ => ?_⟩
  obtain ⟨rfl, rfl⟩ := h2
  have I2 := hI.up1
  refine ⟨fun _ => L _ I2, fun q => q ?_⟩
  rfl
theorem l_like {x3 c : Int} (hx : 0 ≤ x3 ∧ x3 + 6 ≤ (g_L G : Int)) (hL : g_L G ≤ 3072) (hI : Inv c m) (hc : 0 ≤ c ∧ c ≤ 511) (L : ∀ m1, Inv (c + 1) m1 → Wq l G true Y_Law 400 Q 1542 [(0, .inr (.inr 1000)), (1, .inr (.inr 0)), (2, .inr (.inr 70)), (3, .inl x3)] [] m1) : Wq l G true Y_Law 400 Q 1144 [(0, .inr (.inr 1000)), (1, .inr (.inr 0)), (2, .inr (.inr 70)), (3, .inl x3)] [] m := by
  obtain ⟨n, D, W, br, b, b', fs, lk, hd, hI⟩ := hI
  have B := hI.1.1
  have X := hI.1.2.1
  have hn5 := B.1
  obtain ⟨hE, hS, hAR, -, hBox⟩ := hI.2.2.2.1
  have hg := hS.1
  have hN := hS.2.1
  have hEn : ∀ i, In n i → m 25 i = m 90 i := fun i hi => hE i hi.1 (by have := hi.2; omega)
  refine s_Law_1144 x3 (fun _ _ => ⟨by unfold inR; omega, by omega, 3, _, by decide, c_likeX (d := 0) B X, fun z m1 h1 _ _ => ?_⟩)
  obtain ⟨rfl, rfl⟩ := h1
  refine ⟨by unfold inR; omega, by omega, 2, _, by decide, c_likeM (d := 0) B hI.1.2.2.1, fun z2 m2 h2 _ _ => ?_⟩
  obtain ⟨rfl, rfl⟩ := h2
  have I2 := hI.up1
  refine ⟨fun _ => L _ I2, fun q => q ?_⟩
  rfl
theorem l_mean {x3 c : Int} (hx : 0 ≤ x3 ∧ x3 + 6 ≤ (g_L G : Int)) (hL : g_L G ≤ 3072) (hI : Inv c m) (hc : 0 ≤ c ∧ c ≤ 511) (L : ∀ m1, Inv (c + 1) m1 → Wq l G true Y_Law 400 Q 1542 [(0, .inr (.inr 1000)), (1, .inr (.inr 0)), (2, .inr (.inr 70)), (3, .inl x3)] [] m1) : Wq l G true Y_Law 400 Q 1078 [(0, .inr (.inr 1000)), (1, .inr (.inr 0)), (2, .inr (.inr 70)), (3, .inl x3)] [] m := by
  obtain ⟨n, D, W, br, b, b', fs, lk, hd, hI⟩ := hI
  have B := hI.1.1
  have X := hI.1.2.1
  have hn5 := B.1
  obtain ⟨hE, hS, hAR, -, hBox⟩ := hI.2.2.2.1
  have hg := hS.1
  have hN := hS.2.1
  have hEn : ∀ i, In n i → m 25 i = m 90 i := fun i hi => hE i hi.1 (by have := hi.2; omega)
  refine s_Law_1078 x3 (fun _ _ => ⟨by unfold inR; omega, by omega, by unfold inR; omega, by omega, by unfold inR; omega, by omega, 3, _, by decide, c_meanX (d := 0) B X hI.2.2.2.2.2.2.1.1 hI.2.2.2.2.2.2.1.2, fun z m1 h1 _ _ => ?_⟩)
  obtain ⟨rfl, rfl⟩ := h1
  refine ⟨by unfold inR; omega, by omega, by unfold inR; omega, by omega, by unfold inR; omega, by omega, 3, _, by decide, c_meanM (d := 0) B hI.1.2.2.1 hI.2.2.2.2.2.2.2.2.2.2, fun z2 m2 h2 _ _ => ?_⟩
  obtain ⟨rfl, f2⟩ := h2
  have I2 := (hI.fx f2 (by decide) (by decide)).up1
  refine ⟨fun _ => L _ I2, fun q => q ?_⟩
  rfl
theorem l_parts {x3 c : Int} (hx : 0 ≤ x3 ∧ x3 + 6 ≤ (g_L G : Int)) (hL : g_L G ≤ 3072) (hI : Inv c m) (hc : 0 ≤ c ∧ c ≤ 511) (L : ∀ m1, Inv (c + 1) m1 → Wq l G true Y_Law 400 Q 1542 [(0, .inr (.inr 1000)), (1, .inr (.inr 0)), (2, .inr (.inr 70)), (3, .inl x3)] [] m1) : Wq l G true Y_Law 400 Q 1121 [(0, .inr (.inr 1000)), (1, .inr (.inr 0)), (2, .inr (.inr 70)), (3, .inl x3)] [] m := by
  obtain ⟨n, D, W, br, b, b', fs, lk, hd, hI⟩ := hI
  have B := hI.1.1
  have X := hI.1.2.1
  have hn5 := B.1
  obtain ⟨hE, hS, hAR, -, hBox⟩ := hI.2.2.2.1
  have hg := hS.1
  have hN := hS.2.1
  have hEn : ∀ i, In n i → m 25 i = m 90 i := fun i hi => hE i hi.1 (by have := hi.2; omega)
  refine s_Law_1121 x3 (fun _ _ => ⟨by unfold inR; omega, by omega, 0, _, by decide, c_partsX B hI.2.2.2.2.2.2.2.1, fun z m1 h1 _ _ => ?_⟩)
  obtain ⟨rfl, rfl⟩ := h1
  refine ⟨by unfold inR; omega, by omega, 4, _, by decide, c_partsM (d := 0) B hI.1.2.2.1, fun z2 m2 h2 _ _ => ?_⟩
  obtain ⟨f2, rfl⟩ := h2
  have I2 := (hI.fx f2 (by decide) (by decide)).up1
  refine ⟨fun _ => L _ I2, fun q => q ?_⟩
  rfl
theorem l_odds {x3 c : Int} (hx : 0 ≤ x3 ∧ x3 + 6 ≤ (g_L G : Int)) (hL : g_L G ≤ 3072) (hI : Inv c m) (hc : 0 ≤ c ∧ c ≤ 511) (L : ∀ m1, Inv (c + 1) m1 → Wq l G true Y_Law 400 Q 1542 [(0, .inr (.inr 1000)), (1, .inr (.inr 0)), (2, .inr (.inr 70)), (3, .inl x3)] [] m1) : Wq l G true Y_Law 400 Q 1223 [(0, .inr (.inr 1000)), (1, .inr (.inr 0)), (2, .inr (.inr 70)), (3, .inl x3)] [] m := by
  obtain ⟨n, D, W, br, b, b', fs, lk, hd, hI⟩ := hI
  have B := hI.1.1
  have X := hI.1.2.1
  have hn5 := B.1
  obtain ⟨hE, hS, hAR, -, hBox⟩ := hI.2.2.2.1
  have hg := hS.1
  have hN := hS.2.1
  have hEn : ∀ i, In n i → m 25 i = m 90 i := fun i hi => hE i hi.1 (by have := hi.2; omega)
  refine s_Law_1223 x3 (fun _ _ => ⟨by unfold inR; omega, by omega, by unfold inR; omega, by omega, 3, _, by decide, c_oddsX (d := 0) X hI.2.1.2.2.2.1.1 ⟨hI.2.1.2.2.2.1.2.2.1, hI.2.1.2.2.2.1.2.2.2⟩, fun z m1 h1 _ _ => ?_⟩)
  obtain ⟨rfl, rfl⟩ := h1
  refine ⟨by unfold inR; omega, by omega, by unfold inR; omega, by omega, 1, _, by decide, c_oddsM (d := 0) hI.1.2.2.1 hI.2.1.2.2.2.1.2.1 ⟨hI.2.1.2.2.2.1.2.2.1, hI.2.1.2.2.2.1.2.2.2⟩, fun z2 m2 h2 _ _ => ?_⟩
  obtain ⟨rfl, rfl⟩ := h2
  have I2 := hI.up1
  refine ⟨fun _ => L _ I2, fun q => q ?_⟩
  rfl
theorem l_lies {x3 c : Int} (hx : 0 ≤ x3 ∧ x3 + 6 ≤ (g_L G : Int)) (hL : g_L G ≤ 3072) (hI : Inv c m) (hc : 0 ≤ c ∧ c ≤ 511) (L : ∀ m1, Inv (c + 1) m1 → Wq l G true Y_Law 400 Q 1542 [(0, .inr (.inr 1000)), (1, .inr (.inr 0)), (2, .inr (.inr 70)), (3, .inl x3)] [] m1) : Wq l G true Y_Law 400 Q 1256 [(0, .inr (.inr 1000)), (1, .inr (.inr 0)), (2, .inr (.inr 70)), (3, .inl x3)] [] m := by
  obtain ⟨n, D, W, br, b, b', fs, lk, hd, hI⟩ := hI
  have B := hI.1.1
  have X := hI.1.2.1
  have hn5 := B.1
  obtain ⟨hE, hS, hAR, -, hBox⟩ := hI.2.2.2.1
  have hg := hS.1
  have hN := hS.2.1
  have hEn : ∀ i, In n i → m 25 i = m 90 i := fun i hi => hE i hi.1 (by have := hi.2; omega)
  refine s_Law_1256 x3 (fun _ _ => ⟨by unfold inR; omega, by omega, 0, _, by decide, c_liesX hI.2.2.2.2.1.1.2.2, fun z m1 h1 _ _ => ?_⟩)
  obtain ⟨rfl, rfl⟩ := h1
  refine ⟨by unfold inR; omega, by omega, 1, _, by decide, c_liesM (d := 0) (by rw [← hI.2.2.2.2.1.1.1]; exact hI.2.2.2.2.1.1.2), fun z2 m2 h2 _ _ => ?_⟩
  obtain ⟨rfl, rfl⟩ := h2
  have I2 := hI.up1
  refine ⟨fun _ => L _ I2, fun q => q ?_⟩
  unfold lyV
  rw [← hI.2.2.2.2.1.1.1]
  by_cases c : 0 ≤ (g_x G ((x3 + 1)).toNat) ∧ (g_x G ((x3 + 1)).toNat) < m 67 1
  · rw [if_pos c, if_pos c]; exact hI.2.2.2.2.1.2 _ c.1 c.2
  · rw [if_neg c, if_neg c]
theorem l_rest {x3 c : Int} (hx : 0 ≤ x3 ∧ x3 + 6 ≤ (g_L G : Int)) (hL : g_L G ≤ 3072) (hI : Inv c m) (hc : 0 ≤ c ∧ c ≤ 511) (L : ∀ m1, Inv (c + 1) m1 → Wq l G true Y_Law 400 Q 1542 [(0, .inr (.inr 1000)), (1, .inr (.inr 0)), (2, .inr (.inr 70)), (3, .inl x3)] [] m1) : Wq l G true Y_Law 400 Q 662 [(0, .inr (.inr 1000)), (1, .inr (.inr 0)), (2, .inr (.inr 70)), (3, .inl x3)] [] m := by
  obtain ⟨n, D, W, br, b, b', fs, lk, hd, hI⟩ := hI
  have B := hI.1.1
  have X := hI.1.2.1
  have hn5 := B.1
  obtain ⟨hE, hS, hAR, -, hBox⟩ := hI.2.2.2.1
  have hg := hS.1
  have hN := hS.2.1
  have hEn : ∀ i, In n i → m 25 i = m 90 i := fun i hi => hE i hi.1 (by have := hi.2; omega)
  have hN3 : (495 : Int) + 20 * c ≤ 14000 := by omega
  refine s_Law_662 x3 (fun _ _ => ⟨by unfold inR; omega, by omega, 4, _, by decide, c_restX (d := 0) B X hg hN (by omega), fun z m1 h1 _ _ => ?_⟩)
  obtain ⟨f1, a1, a2⟩ := h1
  have I1 := hI.fx f1 (by decide) (by decide)
  have e25 : m1 25 = m 25 := f1 25 (by decide)
  have e90 : m1 90 = m 90 := f1 90 (by decide)
  have hg1 : ∀ i, In n i → 0 ≤ m1 90 i := fun i hi => by rw [e90, ← hEn i hi]; exact hg i hi
  have hN1 : sm n (m1 90) ≤ 495 + 20 * c := by rw [e90, ← sm_congr hEn]; exact hN
  refine ⟨by unfold inR; omega, by omega, 4, _, by decide, c_restM (d := 0) I1.1.1 I1.1.2.2.1 hg1 hN1 (by omega), fun z2 m2 h2 _ _ => ?_⟩
  obtain ⟨f2, u2, hu2, e2⟩ := h2
  have I2 := I1.fm f2 (by decide) (by decide)
  refine ⟨fun _ => L _ I2, fun q => q ?_⟩
  have hE1 : ∀ i, In n i → m 25 i = m1 90 i := fun i hi => by rw [e90]; exact hEn i hi
  by_cases c : In n (g_x G ((x3 + 1)).toNat)
  · obtain ⟨u1, hu1, e1⟩ := a1 c
    have eu := (hu1.congr hE1).uniq hu2
    rw [e1, e2, if_pos c, hE1 _ c, Lp_congr eu _ c]
  · rw [a2 c, e2, if_neg c]
theorem l_often {x3 c : Int} (hx : 0 ≤ x3 ∧ x3 + 6 ≤ (g_L G : Int)) (hL : g_L G ≤ 3072) (hI : Inv c m) (hc : 0 ≤ c ∧ c ≤ 511) (L : ∀ m1, Inv (c + 1) m1 → Wq l G true Y_Law 400 Q 1542 [(0, .inr (.inr 1000)), (1, .inr (.inr 0)), (2, .inr (.inr 70)), (3, .inl x3)] [] m1) : Wq l G true Y_Law 400 Q 685 [(0, .inr (.inr 1000)), (1, .inr (.inr 0)), (2, .inr (.inr 70)), (3, .inl x3)] [] m := by
  obtain ⟨n, D, W, br, b, b', fs, lk, hd, hI⟩ := hI
  have B := hI.1.1
  have X := hI.1.2.1
  have hn5 := B.1
  obtain ⟨hE, hS, hAR, -, hBox⟩ := hI.2.2.2.1
  have hg := hS.1
  have hN := hS.2.1
  have hEn : ∀ i, In n i → m 25 i = m 90 i := fun i hi => hE i hi.1 (by have := hi.2; omega)
  have hN3 : (495 : Int) + 20 * c ≤ 14000 := by omega
  refine s_Law_685 x3 (fun _ _ => ⟨by unfold inR; omega, by omega, 4, _, by decide, c_oftenX (d := 0) B X hg hN (by omega), fun z m1 h1 _ _ => ?_⟩)
  obtain ⟨f1, a1, a2⟩ := h1
  have I1 := hI.fx f1 (by decide) (by decide)
  have e25 : m1 25 = m 25 := f1 25 (by decide)
  have e90 : m1 90 = m 90 := f1 90 (by decide)
  have hg1 : ∀ i, In n i → 0 ≤ m1 90 i := fun i hi => by rw [e90, ← hEn i hi]; exact hg i hi
  have hN1 : sm n (m1 90) ≤ 495 + 20 * c := by rw [e90, ← sm_congr hEn]; exact hN
  refine ⟨by unfold inR; omega, by omega, 4, _, by decide, c_oftenM (d := 0) I1.1.1 I1.1.2.2.1 hg1 hN1 (by omega), fun z2 m2 h2 _ _ => ?_⟩
  obtain ⟨f2, u2, hu2, e2⟩ := h2
  have I2 := I1.fm f2 (by decide) (by decide)
  refine ⟨fun _ => L _ I2, fun q => q ?_⟩
  have hE1 : ∀ i, In n i → m 25 i = m1 90 i := fun i hi => by rw [e90]; exact hEn i hi
  by_cases c : In n (g_x G ((x3 + 1)).toNat)
  · obtain ⟨u1, hu1, e1⟩ := a1 c
    have eu := (hu1.congr hE1).uniq hu2
    rw [e1, e2, if_pos c, eu _ c]
  · rw [a2 c, e2, if_neg c]
theorem l_spilt {x3 c : Int} (hx : 0 ≤ x3 ∧ x3 + 6 ≤ (g_L G : Int)) (hL : g_L G ≤ 3072) (hI : Inv c m) (hc : 0 ≤ c ∧ c ≤ 511) (L : ∀ m1, Inv (c + 1) m1 → Wq l G true Y_Law 400 Q 1542 [(0, .inr (.inr 1000)), (1, .inr (.inr 0)), (2, .inr (.inr 70)), (3, .inl x3)] [] m1) : Wq l G true Y_Law 400 Q 708 [(0, .inr (.inr 1000)), (1, .inr (.inr 0)), (2, .inr (.inr 70)), (3, .inl x3)] [] m := by
  obtain ⟨n, D, W, br, b, b', fs, lk, hd, hI⟩ := hI
  have B := hI.1.1
  have X := hI.1.2.1
  have hn5 := B.1
  obtain ⟨hE, hS, hAR, -, hBox⟩ := hI.2.2.2.1
  have hg := hS.1
  have hN := hS.2.1
  have hEn : ∀ i, In n i → m 25 i = m 90 i := fun i hi => hE i hi.1 (by have := hi.2; omega)
  have hN3 : (495 : Int) + 20 * c ≤ 14000 := by omega
  refine s_Law_708 x3 (fun _ _ => ⟨4, _, by decide, c_spiltX (d := 0) B X hg hN (by omega), fun z m1 h1 _ _ => ?_⟩)
  obtain ⟨f1, u1, hu1, e1⟩ := h1
  have I1 := hI.fx f1 (by decide) (by decide)
  have e25 : m1 25 = m 25 := f1 25 (by decide)
  have e90 : m1 90 = m 90 := f1 90 (by decide)
  have hg1 : ∀ i, In n i → 0 ≤ m1 90 i := fun i hi => by rw [e90, ← hEn i hi]; exact hg i hi
  have hN1 : sm n (m1 90) ≤ 495 + 20 * c := by rw [e90, ← sm_congr hEn]; exact hN
  refine ⟨4, _, by decide, c_spiltM (d := 0) I1.1.1 I1.1.2.2.1 hg1 hN1 (by omega), fun z2 m2 h2 _ _ => ?_⟩
  obtain ⟨f2, u2, hu2, e2⟩ := h2
  have I2 := I1.fm f2 (by decide) (by decide)
  refine ⟨fun _ => L _ I2, fun q => q ?_⟩
  have hE1 : ∀ i, In n i → m 25 i = m1 90 i := fun i hi => by rw [e90]; exact hEn i hi
  have eu := (hu1.congr hE1).uniq hu2
  rw [e1, e2]
  exact sm_congr (fun i hi => by rw [eu i hi])
theorem l_rounds {x3 c : Int} (hx : 0 ≤ x3 ∧ x3 + 6 ≤ (g_L G : Int)) (hL : g_L G ≤ 3072) (hI : Inv c m) (hc : 0 ≤ c ∧ c ≤ 511) (L : ∀ m1, Inv (c + 1) m1 → Wq l G true Y_Law 400 Q 1542 [(0, .inr (.inr 1000)), (1, .inr (.inr 0)), (2, .inr (.inr 70)), (3, .inl x3)] [] m1) : Wq l G true Y_Law 400 Q 734 [(0, .inr (.inr 1000)), (1, .inr (.inr 0)), (2, .inr (.inr 70)), (3, .inl x3)] [] m := by
  obtain ⟨n, D, W, br, b, b', fs, lk, hd, hI⟩ := hI
  have B := hI.1.1
  have X := hI.1.2.1
  have hn5 := B.1
  obtain ⟨hE, hS, hAR, -, hBox⟩ := hI.2.2.2.1
  have hg := hS.1
  have hN := hS.2.1
  have hEn : ∀ i, In n i → m 25 i = m 90 i := fun i hi => hE i hi.1 (by have := hi.2; omega)
  have hN3 : (495 : Int) + 20 * c ≤ 14000 := by omega
  refine s_Law_734 x3 (fun _ _ => ⟨2, _, by decide, c_roundsX (d := 0) B X hg hN (by omega), fun z m1 h1 _ _ => ?_⟩)
  obtain ⟨f1, K1, r1⟩ := h1
  have I1 := hI.fx f1 (by decide) (by decide)
  have e25 : m1 25 = m 25 := f1 25 (by decide)
  have e90 : m1 90 = m 90 := f1 90 (by decide)
  have hg1 : ∀ i, In n i → 0 ≤ m1 90 i := fun i hi => by rw [e90, ← hEn i hi]; exact hg i hi
  have hN1 : sm n (m1 90) ≤ 495 + 20 * c := by rw [e90, ← sm_congr hEn]; exact hN
  refine ⟨2, _, by decide, c_roundsM (d := 0) I1.1.1 I1.1.2.2.1 hg1 hN1 (by omega), fun z2 m2 h2 _ _ => ?_⟩
  obtain ⟨f2, K2, r2⟩ := h2
  have I2 := I1.fm f2 (by decide) (by decide)
  refine ⟨fun _ => L _ I2, fun q => q ?_⟩
  have hE1 : ∀ i, In n i → m 25 i = m1 90 i := fun i hi => by rw [e90]; exact hEn i hi
  exact RndR.uniq hE1 r1 r2
theorem l_law {x3 c : Int} (hx : 0 ≤ x3 ∧ x3 + 6 ≤ (g_L G : Int)) (hL : g_L G ≤ 3072) (hI : Inv c m) (hc : 0 ≤ c ∧ c ≤ 511) (L : ∀ m1, Inv (c + 1) m1 → Wq l G true Y_Law 400 Q 1542 [(0, .inr (.inr 1000)), (1, .inr (.inr 0)), (2, .inr (.inr 70)), (3, .inl x3)] [] m1) : Wq l G true Y_Law 400 Q 1200 [(0, .inr (.inr 1000)), (1, .inr (.inr 0)), (2, .inr (.inr 70)), (3, .inl x3)] [] m := by
  obtain ⟨n, D, W, br, b, b', fs, lk, hd, hI⟩ := hI
  have B := hI.1.1
  have X := hI.1.2.1
  have hn5 := B.1
  obtain ⟨hE, hS, hAR, -, hBox⟩ := hI.2.2.2.1
  have hg := hS.1
  have hN := hS.2.1
  have hEn : ∀ i, In n i → m 25 i = m 90 i := fun i hi => hE i hi.1 (by have := hi.2; omega)
  have hN3 : (495 : Int) + 20 * c ≤ 14000 := by omega
  refine s_Law_1200 x3 (fun _ _ => ⟨by unfold inR; omega, by omega, 3, _, by decide, c_lawX (d := 0) B X hg hN (by omega), fun z m1 h1 _ _ => ?_⟩)
  obtain ⟨f1, r1⟩ := h1
  have I1 := hI.fx f1 (by decide) (by decide)
  have e25 : m1 25 = m 25 := f1 25 (by decide)
  have e90 : m1 90 = m 90 := f1 90 (by decide)
  have hg1 : ∀ i, In n i → 0 ≤ m1 90 i := fun i hi => by rw [e90, ← hEn i hi]; exact hg i hi
  have hN1 : sm n (m1 90) ≤ 495 + 20 * c := by rw [e90, ← sm_congr hEn]; exact hN
  refine ⟨by unfold inR; omega, by omega, 3, _, by decide, c_lawM (d := 0) I1.1.1 I1.1.2.2.1 hg1 hN1 (by omega), fun z2 m2 h2 _ _ => ?_⟩
  obtain ⟨f2, r2⟩ := h2
  have I2 := I1.fm f2 (by decide) (by decide)
  refine ⟨fun _ => L _ I2, fun q => q ?_⟩
  have hE1 : ∀ i, In n i → m 25 i = m1 90 i := fun i hi => by rw [e90]; exact hEn i hi
  exact LwR.uniq hE1 r1 r2
end Law1
