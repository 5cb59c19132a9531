/-! the law, call by call: slides, orders, ranks -/
section Cong
variable {n : Nat} {D : Int → Int} {W : Int → Int → Int} {br : Int → Int}
theorem RkR.congr {X Y : Int → Int} {T z : Int} (a : RkR n W br X T z) (e : ∀ i, In n i → X i = Y i) : RkR n W br Y T z := by
  have e' : ∀ i, In n i → Y i = X i := fun i hi => (e i hi).symm
  rcases a with ⟨h1, h2⟩ | ⟨k, h0, h3, h4, h5, h6⟩
  · exact Or.inl ⟨fun k k0 k1 q => h1 k k0 k1 (q.congr e'), h2⟩
  · exact Or.inr ⟨k, h0, h3, h4.congr e, fun j j0 j1 q => h5 j j0 j1 (q.congr e'), h6⟩
theorem StO.one {s : Int → Int} {c : Int} (h : StO n c s) (hn : n ≤ 5) (hc : c ≤ 512) : (∀ i, In n i → s i ≤ 10735) ∧ ∀ i, 0 ≤ i → i < 5 → 0 ≤ s i ∧ s i ≤ 10735 := by
  have a : ∀ i, In n i → s i ≤ 10735 := fun i hi => by
    have := sm_term h.1 i hi
    have := h.2.1
    omega
  refine ⟨a, fun i i0 i1 => ?_⟩
  by_cases q : In n i
  · exact ⟨h.1 i q, a i q⟩
  · rw [h.2.2.2.2.2 i q i0 i1]; decide
end Cong
section Law2
variable {l : Launch} {G : GT} {m : MM} {Q : Option MV → MM → Nat → Prop}
theorem l_far {x3 c : Int} (hx : 0 ≤ x3 ∧ x3 + 6 ≤ (g_L G : Int)) (hL : g_L G ≤ 3072) (hI : Inv c m) (hc : 0 ≤ c ∧ c ≤ 511) (L : ∀ m1, Inv (c + 1) m1 → Wq l G true Y_Law 400 Q 1542 [(0, .inr (.inr 1000)), (1, .inr (.inr 0)), (2, .inr (.inr 70)), (3, .inl x3)] [] m1) : Wq l G true Y_Law 400 Q 452 [(0, .inr (.inr 1000)), (1, .inr (.inr 0)), (2, .inr (.inr 70)), (3, .inl x3)] [] m := by
  obtain ⟨n, D, W, br, b, b', fs, lk, hd, hI⟩ := hI
  have B := hI.1.1
  have X := hI.1.2.1
  have hn5 := B.1
  obtain ⟨hE, hS, hAR, -, hBox⟩ := hI.2.2.2.1
  have hg := hS.1
  have hN := hS.2.1
  have hEn : ∀ i, In n i → m 25 i = m 90 i := fun i hi => hE i hi.1 (by have := hi.2; omega)
  refine s_Law_452 x3 (fun _ _ => ⟨by unfold inR; omega, by omega, 1, _, by decide, c_farX (d := 0) B X hI.1.2.2.2.2, fun z m1 h1 _ _ => ?_⟩)
  obtain ⟨rfl, a1, a2⟩ := h1
  refine ⟨by unfold inR; omega, by omega, 2, _, by decide, c_farM (d := 0) B hI.1.2.2.1 (fun hp => ⟨_, a1 hp⟩), fun z2 m2 h2 _ _ => ?_⟩
  obtain ⟨rfl, b1, b2⟩ := h2
  have I2 := hI.up1
  refine ⟨fun _ => L _ I2, fun q => q ?_⟩
  by_cases c : In n (g_x G ((x3 + 1)).toNat)
  · exact FaR.uniq (a1 c) (b1 c)
  · rw [a2 c, b2 c]
theorem l_slide {x3 c : Int} (hx : 0 ≤ x3 ∧ x3 + 6 ≤ (g_L G : Int)) (hL : g_L G ≤ 3072) (hI : Inv c m) (hc : 0 ≤ c ∧ c ≤ 511) (L : ∀ m1, Inv (c + 1) m1 → Wq l G true Y_Law 400 Q 1542 [(0, .inr (.inr 1000)), (1, .inr (.inr 0)), (2, .inr (.inr 70)), (3, .inl x3)] [] m1) : Wq l G true Y_Law 400 Q 747 [(0, .inr (.inr 1000)), (1, .inr (.inr 0)), (2, .inr (.inr 70)), (3, .inl x3)] [] m := by
  obtain ⟨n, D, W, br, b, b', fs, lk, hd, hI⟩ := hI
  have B := hI.1.1
  have X := hI.1.2.1
  have hn5 := B.1
  obtain ⟨hE, hS, hAR, -, hBox⟩ := hI.2.2.2.1
  have hg := hS.1
  have hN := hS.2.1
  have hEn : ∀ i, In n i → m 25 i = m 90 i := fun i hi => hE i hi.1 (by have := hi.2; omega)
  have hN3 : (495 : Int) + 20 * c ≤ 14000 := by omega
  refine s_Law_747 x3 (fun _ _ => ⟨by unfold inR; omega, by omega, by unfold inR; omega, by omega, 4, _, by decide, c_slideX (d := 0) B X hg hN (by omega), fun z m1 h1 _ _ => ?_⟩)
  obtain ⟨f1, a1, a2⟩ := h1
  have I1 := hI.fx f1 (by decide) (by decide)
  have e25 : m1 25 = m 25 := f1 25 (by decide)
  have e90 : m1 90 = m 90 := f1 90 (by decide)
  have hg1 : ∀ i, In n i → 0 ≤ m1 90 i := fun i hi => by rw [e90, ← hEn i hi]; exact hg i hi
  have hN1 : sm n (m1 90) ≤ 495 + 20 * c := by rw [e90, ← sm_congr hEn]; exact hN
  refine ⟨by unfold inR; omega, by omega, by unfold inR; omega, by omega, 5, _, by decide, c_slideM (d := 0) I1.1.1 I1.1.2.2.1 hg1 hN1 (by omega), fun z2 m2 h2 _ _ => ?_⟩
  obtain ⟨f2, b1, b2⟩ := h2
  have I2 := I1.fm f2 (by decide) (by decide)
  refine ⟨fun _ => L _ I2, fun q => q ?_⟩
  have hE1 : ∀ i, In n i → m 25 i = m1 90 i := fun i hi => by rw [e90]; exact hEn i hi
  by_cases c : In n (g_x G ((x3 + 1)).toNat) ∧ 0 ≤ (g_x G ((x3 + 2)).toNat) ∧ (g_x G ((x3 + 2)).toNat) ≤ 2
  · obtain ⟨w1, s1, e1⟩ := a1 c
    obtain ⟨w2, s2, e2⟩ := b1 c
    have ew := (s1.congr hE1).uniq s2
    rw [e1, e2, sm_congr ew, bs_congr (p := fun i => decide (0 < w1 i)) (q := fun i => decide (0 < w2 i)) (fun i hi => by rw [ew i hi]), sm_congr (f := fun i => D i * w1 i) (g := fun i => D i * w2 i) (fun i hi => by rw [ew i hi])]
  · rw [a2 c, b2 c]
theorem l_steepest {x3 c : Int} (hx : 0 ≤ x3 ∧ x3 + 6 ≤ (g_L G : Int)) (hL : g_L G ≤ 3072) (hI : Inv c m) (hc : 0 ≤ c ∧ c ≤ 511) (L : ∀ m1, Inv (c + 1) m1 → Wq l G true Y_Law 400 Q 1542 [(0, .inr (.inr 1000)), (1, .inr (.inr 0)), (2, .inr (.inr 70)), (3, .inl x3)] [] m1) : Wq l G true Y_Law 400 Q 780 [(0, .inr (.inr 1000)), (1, .inr (.inr 0)), (2, .inr (.inr 70)), (3, .inl x3)] [] m := by
  obtain ⟨n, D, W, br, b, b', fs, lk, hd, hI⟩ := hI
  have B := hI.1.1
  have X := hI.1.2.1
  have hn5 := B.1
  obtain ⟨hE, hS, hAR, -, hBox⟩ := hI.2.2.2.1
  have hg := hS.1
  have hN := hS.2.1
  have hEn : ∀ i, In n i → m 25 i = m 90 i := fun i hi => hE i hi.1 (by have := hi.2; omega)
  have hN3 : (495 : Int) + 20 * c ≤ 14000 := by omega
  refine s_Law_780 x3 (fun _ _ => ⟨4, _, by decide, c_steepestX (d := 0) B X hg hN (by omega), fun z m1 h1 _ _ => ?_⟩)
  obtain ⟨f1, t1, s1, e1⟩ := h1
  have I1 := hI.fx f1 (by decide) (by decide)
  have e25 : m1 25 = m 25 := f1 25 (by decide)
  have e90 : m1 90 = m 90 := f1 90 (by decide)
  have hg1 : ∀ i, In n i → 0 ≤ m1 90 i := fun i hi => by rw [e90, ← hEn i hi]; exact hg i hi
  have hN1 : sm n (m1 90) ≤ 495 + 20 * c := by rw [e90, ← sm_congr hEn]; exact hN
  refine ⟨5, _, by decide, c_steepestM (d := 0) I1.1.1 I1.1.2.2.1 hg1 hN1 (by omega), fun z2 m2 h2 _ _ => ?_⟩
  obtain ⟨f2, t2, s2, e2⟩ := h2
  have I2 := I1.fm f2 (by decide) (by decide)
  refine ⟨fun _ => L _ I2, fun q => q ?_⟩
  have hE1 : ∀ i, In n i → m 25 i = m1 90 i := fun i hi => by rw [e90]; exact hEn i hi
  rw [e1, e2, stp_congr ((s1.congr hE1).uniq s2)]
theorem l_quiet {x3 c : Int} (hx : 0 ≤ x3 ∧ x3 + 6 ≤ (g_L G : Int)) (hL : g_L G ≤ 3072) (hI : Inv c m) (hc : 0 ≤ c ∧ c ≤ 511) (L : ∀ m1, Inv (c + 1) m1 → Wq l G true Y_Law 400 Q 1542 [(0, .inr (.inr 1000)), (1, .inr (.inr 0)), (2, .inr (.inr 70)), (3, .inl x3)] [] m1) : Wq l G true Y_Law 400 Q 793 [(0, .inr (.inr 1000)), (1, .inr (.inr 0)), (2, .inr (.inr 70)), (3, .inl x3)] [] m := by
  obtain ⟨n, D, W, br, b, b', fs, lk, hd, hI⟩ := hI
  have B := hI.1.1
  have X := hI.1.2.1
  have hn5 := B.1
  obtain ⟨hE, hS, hAR, -, hBox⟩ := hI.2.2.2.1
  have hg := hS.1
  have hN := hS.2.1
  have hEn : ∀ i, In n i → m 25 i = m 90 i := fun i hi => hE i hi.1 (by have := hi.2; omega)
  have hN3 : (495 : Int) + 20 * c ≤ 14000 := by omega
  refine s_Law_793 x3 (fun _ _ => ⟨4, _, by decide, c_quietX (d := 0) B X hg hN (by omega), fun z m1 h1 _ _ => ?_⟩)
  obtain ⟨f1, t1, s1, e1⟩ := h1
  have I1 := hI.fx f1 (by decide) (by decide)
  have e25 : m1 25 = m 25 := f1 25 (by decide)
  have e90 : m1 90 = m 90 := f1 90 (by decide)
  have hg1 : ∀ i, In n i → 0 ≤ m1 90 i := fun i hi => by rw [e90, ← hEn i hi]; exact hg i hi
  have hN1 : sm n (m1 90) ≤ 495 + 20 * c := by rw [e90, ← sm_congr hEn]; exact hN
  refine ⟨5, _, by decide, c_quietM (d := 0) I1.1.1 I1.1.2.2.1 hg1 hN1 (by omega), fun z2 m2 h2 _ _ => ?_⟩
  obtain ⟨f2, t2, s2, e2⟩ := h2
  have I2 := I1.fm f2 (by decide) (by decide)
  refine ⟨fun _ => L _ I2, fun q => q ?_⟩
  have hE1 : ∀ i, In n i → m 25 i = m1 90 i := fun i hi => by rw [e90]; exact hEn i hi
  have et := (s1.congr hE1).uniq s2
  rw [e1, e2]
  exact bs_congr (fun i hi => by rw [et i hi])
theorem l_levels {x3 c : Int} (hx : 0 ≤ x3 ∧ x3 + 6 ≤ (g_L G : Int)) (hL : g_L G ≤ 3072) (hI : Inv c m) (hc : 0 ≤ c ∧ c ≤ 511) (L : ∀ m1, Inv (c + 1) m1 → Wq l G true Y_Law 400 Q 1542 [(0, .inr (.inr 1000)), (1, .inr (.inr 0)), (2, .inr (.inr 70)), (3, .inl x3)] [] m1) : Wq l G true Y_Law 400 Q 855 [(0, .inr (.inr 1000)), (1, .inr (.inr 0)), (2, .inr (.inr 70)), (3, .inl x3)] [] m := by
  obtain ⟨n, D, W, br, b, b', fs, lk, hd, hI⟩ := hI
  have B := hI.1.1
  have X := hI.1.2.1
  have hn5 := B.1
  obtain ⟨hE, hS, hAR, -, hBox⟩ := hI.2.2.2.1
  have hg := hS.1
  have hN := hS.2.1
  have hEn : ∀ i, In n i → m 25 i = m 90 i := fun i hi => hE i hi.1 (by have := hi.2; omega)
  refine s_Law_855 x3 (fun _ _ => ⟨by unfold inR; omega, by omega, 3, _, by decide, c_levelsX (d := 0) B X, fun z m1 h1 _ _ => ?_⟩)
  obtain ⟨rfl, a0, a1, a2⟩ := h1
  refine ⟨by unfold inR; omega, by omega, 3, _, by decide, c_levelsM (d := 0) B hI.1.2.2.1, fun z2 m2 h2 _ _ => ?_⟩
  obtain ⟨f2, b0, b1, b2⟩ := h2
  have I2 := hI.fm f2 (by decide) (by decide)
  refine ⟨fun _ => L _ I2, fun q => q ?_⟩
  by_cases c0 : (g_x G ((x3 + 1)).toNat) = 0
  · exact LvR.uniq (a0 c0) (b0 c0)
  · by_cases c1 : (g_x G ((x3 + 1)).toNat) = 1
    · rw [a1 c1, b1 c1]
    · rw [a2 (by omega), b2 (by omega)]
theorem l_nought {x3 c : Int} (hx : 0 ≤ x3 ∧ x3 + 6 ≤ (g_L G : Int)) (hL : g_L G ≤ 3072) (hI : Inv c m) (hc : 0 ≤ c ∧ c ≤ 511) (L : ∀ m1, Inv (c + 1) m1 → Wq l G true Y_Law 400 Q 1542 [(0, .inr (.inr 1000)), (1, .inr (.inr 0)), (2, .inr (.inr 70)), (3, .inl x3)] [] m1) : Wq l G true Y_Law 400 Q 891 [(0, .inr (.inr 1000)), (1, .inr (.inr 0)), (2, .inr (.inr 70)), (3, .inl x3)] [] m := by
  obtain ⟨n, D, W, br, b, b', fs, lk, hd, hI⟩ := hI
  have B := hI.1.1
  have X := hI.1.2.1
  have hn5 := B.1
  obtain ⟨hE, hS, hAR, -, hBox⟩ := hI.2.2.2.1
  have hg := hS.1
  have hN := hS.2.1
  have hEn : ∀ i, In n i → m 25 i = m 90 i := fun i hi => hE i hi.1 (by have := hi.2; omega)
  have hN3 : (495 : Int) + 20 * c ≤ 14000 := by omega
  refine s_Law_891 x3 (fun _ _ => ⟨by unfold inR; omega, by omega, 4, _, by decide, c_noughtX (d := 0) B X hI.2.2.2.2.2.2.2.2.1, fun z m1 h1 _ _ => ?_⟩)
  obtain ⟨f1, a1, a2⟩ := h1
  have I1 := hI.fx f1 (by decide) (by decide)
  have e25 : m1 25 = m 25 := f1 25 (by decide)
  have e90 : m1 90 = m 90 := f1 90 (by decide)
  refine ⟨by unfold inR; omega, by omega, 2, _, by decide, c_noughtM (d := 0) I1.1.1 I1.1.2.2.1 I1.2.2.2.2.2.2.2.2.2.2, fun z2 m2 h2 _ _ => ?_⟩
  obtain ⟨rfl, b1, b2⟩ := h2
  have I2 := I1.up1
  refine ⟨fun _ => L _ I2, fun q => q ?_⟩
  by_cases c : In n (g_x G ((x3 + 1)).toNat)
  · obtain ⟨Z1, o1, e1⟩ := a1 c
    obtain ⟨Z2, o2, e2⟩ := b1 c
    rw [e1, e2, OwR.uniq B o1 o2 _ c]
  · rw [a2 c, b2 c]
theorem l_own {x3 c : Int} (hx : 0 ≤ x3 ∧ x3 + 6 ≤ (g_L G : Int)) (hL : g_L G ≤ 3072) (hI : Inv c m) (hc : 0 ≤ c ∧ c ≤ 511) (L : ∀ m1, Inv (c + 1) m1 → Wq l G true Y_Law 400 Q 1542 [(0, .inr (.inr 1000)), (1, .inr (.inr 0)), (2, .inr (.inr 70)), (3, .inl x3)] [] m1) : Wq l G true Y_Law 400 Q 914 [(0, .inr (.inr 1000)), (1, .inr (.inr 0)), (2, .inr (.inr 70)), (3, .inl x3)] [] m := by
  obtain ⟨n, D, W, br, b, b', fs, lk, hd, hI⟩ := hI
  have B := hI.1.1
  have X := hI.1.2.1
  have hn5 := B.1
  obtain ⟨hE, hS, hAR, -, hBox⟩ := hI.2.2.2.1
  have hg := hS.1
  have hN := hS.2.1
  have hEn : ∀ i, In n i → m 25 i = m 90 i := fun i hi => hE i hi.1 (by have := hi.2; omega)
  have hN3 : (495 : Int) + 20 * c ≤ 14000 := by omega
  obtain ⟨t1, t2⟩ := hS.one hn5 (by omega)
  have hGX : GX n W br (495 + 20 * c) m := ⟨hg, hN, by omega, fun i i0 i1 => by have := t2 i i0 i1; omega, hI.2.2.2.2.2.2.2.2.1⟩
  refine s_Law_914 x3 (fun _ _ => ⟨by unfold inR; omega, by omega, 4, _, by decide, c_ownX (d := 0) B X hGX, fun z m1 h1 _ _ => ?_⟩)
  obtain ⟨f1, a1, a2⟩ := h1
  have I1 := hI.fx f1 (by decide) (by decide)
  have e25 : m1 25 = m 25 := f1 25 (by decide)
  have e90 : m1 90 = m 90 := f1 90 (by decide)
  have hg1 : ∀ i, In n i → 0 ≤ m1 90 i := fun i hi => by rw [e90, ← hEn i hi]; exact hg i hi
  have hN1 : sm n (m1 90) ≤ 495 + 20 * c := by rw [e90, ← sm_congr hEn]; exact hN
  have hg2 : ∀ i, In n i → 0 ≤ m1 90 i ∧ m1 90 i ≤ 20000 := fun i hi => by have := t1 i hi; have := hg i hi; rw [e90, ← hEn i hi]; omega
  refine ⟨by unfold inR; omega, by omega, 4, _, by decide, c_ownM (d := 0) I1.1.1 I1.1.2.2.1 I1.2.2.2.2.2.2.2.2.2.2 hg2, fun z2 m2 h2 _ _ => ?_⟩
  obtain ⟨f2, b1, b2⟩ := h2
  have I2 := I1.fm f2 (by decide) (by decide)
  refine ⟨fun _ => L _ I2, fun q => q ?_⟩
  have hE1 : ∀ i, In n i → m 25 i = m1 90 i := fun i hi => by rw [e90]; exact hEn i hi
  by_cases c : In n (g_x G ((x3 + 1)).toNat)
  · obtain ⟨Z1, o1, e1⟩ := a1 c
    obtain ⟨Z2, o2, e2⟩ := b1 c
    rw [e1, e2, OwR.uniq B (o1.congr hE1) o2 _ c]
  · rw [a2 c, b2 c]
theorem l_bare {x3 c : Int} (hx : 0 ≤ x3 ∧ x3 + 6 ≤ (g_L G : Int)) (hL : g_L G ≤ 3072) (hI : Inv c m) (hc : 0 ≤ c ∧ c ≤ 511) (L : ∀ m1, Inv (c + 1) m1 → Wq l G true Y_Law 400 Q 1542 [(0, .inr (.inr 1000)), (1, .inr (.inr 0)), (2, .inr (.inr 70)), (3, .inl x3)] [] m1) : Wq l G true Y_Law 400 Q 937 [(0, .inr (.inr 1000)), (1, .inr (.inr 0)), (2, .inr (.inr 70)), (3, .inl x3)] [] m := by
  obtain ⟨n, D, W, br, b, b', fs, lk, hd, hI⟩ := hI
  have B := hI.1.1
  have X := hI.1.2.1
  have hn5 := B.1
  obtain ⟨hE, hS, hAR, -, hBox⟩ := hI.2.2.2.1
  have hg := hS.1
  have hN := hS.2.1
  have hEn : ∀ i, In n i → m 25 i = m 90 i := fun i hi => hE i hi.1 (by have := hi.2; omega)
  have hN3 : (495 : Int) + 20 * c ≤ 14000 := by omega
  obtain ⟨t1, t2⟩ := hS.one hn5 (by omega)
  have hGX : GX n W br (495 + 20 * c) m := ⟨hg, hN, by omega, fun i i0 i1 => by have := t2 i i0 i1; omega, hI.2.2.2.2.2.2.2.2.1⟩
  refine s_Law_937 x3 (fun _ _ => ⟨by unfold inR; omega, by omega, 5, _, by decide, c_bareX (d := 0) B X hGX, fun z m1 h1 _ _ => ?_⟩)
  obtain ⟨f1, a1, a2⟩ := h1
  have I1 := hI.fx f1 (by decide) (by decide)
  have e25 : m1 25 = m 25 := f1 25 (by decide)
  have e90 : m1 90 = m 90 := f1 90 (by decide)
  have hg1 : ∀ i, In n i → 0 ≤ m1 90 i := fun i hi => by rw [e90, ← hEn i hi]; exact hg i hi
  have hN1 : sm n (m1 90) ≤ 495 + 20 * c := by rw [e90, ← sm_congr hEn]; exact hN
  have hg2 : ∀ i, In n i → 0 ≤ m1 90 i ∧ m1 90 i ≤ 20000 := fun i hi => by have := t1 i hi; have := hg i hi; rw [e90, ← hEn i hi]; omega
  refine ⟨by unfold inR; omega, by omega, 5, _, by decide, c_bareM (d := 0) I1.1.1 I1.1.2.2.1 I1.2.2.2.2.2.2.2.2.2.2 hg2, fun z2 m2 h2 _ _ => ?_⟩
  obtain ⟨f2, b1, b2⟩ := h2
  have I2 := I1.fm f2 (by decide) (by decide)
  refine ⟨fun _ => L _ I2, fun q => q ?_⟩
  have hE1 : ∀ i, In n i → m 25 i = m1 90 i := fun i hi => by rw [e90]; exact hEn i hi
  by_cases c : In n (g_x G ((x3 + 1)).toNat)
  · obtain ⟨Z1, o1, e1⟩ := a1 c
    obtain ⟨Z2, o2, e2⟩ := b1 c
    rw [e1, e2, BaR.uniq B hE1 o1 o2 _ c]
  · rw [a2 c, b2 c]
theorem l_credit {x3 c : Int} (hx : 0 ≤ x3 ∧ x3 + 6 ≤ (g_L G : Int)) (hL : g_L G ≤ 3072) (hI : Inv c m) (hc : 0 ≤ c ∧ c ≤ 511) (L : ∀ m1, Inv (c + 1) m1 → Wq l G true Y_Law 400 Q 1542 [(0, .inr (.inr 1000)), (1, .inr (.inr 0)), (2, .inr (.inr 70)), (3, .inl x3)] [] m1) : Wq l G true Y_Law 400 Q 1042 [(0, .inr (.inr 1000)), (1, .inr (.inr 0)), (2, .inr (.inr 70)), (3, .inl x3)] [] m := by
  obtain ⟨n, D, W, br, b, b', fs, lk, hd, hI⟩ := hI
  have B := hI.1.1
  have X := hI.1.2.1
  have hn5 := B.1
  obtain ⟨hE, hS, hAR, -, hBox⟩ := hI.2.2.2.1
  have hg := hS.1
  have hN := hS.2.1
  have hEn : ∀ i, In n i → m 25 i = m 90 i := fun i hi => hE i hi.1 (by have := hi.2; omega)
  have hN3 : (495 : Int) + 20 * c ≤ 14000 := by omega
  obtain ⟨t1, t2⟩ := hS.one hn5 (by omega)
  have hGX : GX n W br (495 + 20 * c) m := ⟨hg, hN, by omega, fun i i0 i1 => by have := t2 i i0 i1; omega, hI.2.2.2.2.2.2.2.2.1⟩
  refine s_Law_1042 x3 (fun _ _ => ⟨5, _, by decide, c_creditX (d := 0) B X hGX, fun z m1 h1 _ _ => ?_⟩)
  obtain ⟨f1, Z1, o1, e1⟩ := h1
  have I1 := hI.fx f1 (by decide) (by decide)
  have e25 : m1 25 = m 25 := f1 25 (by decide)
  have e90 : m1 90 = m 90 := f1 90 (by decide)
  have hg1 : ∀ i, In n i → 0 ≤ m1 90 i := fun i hi => by rw [e90, ← hEn i hi]; exact hg i hi
  have hN1 : sm n (m1 90) ≤ 495 + 20 * c := by rw [e90, ← sm_congr hEn]; exact hN
  have hg2 : ∀ i, In n i → 0 ≤ m1 90 i ∧ m1 90 i ≤ 20000 := fun i hi => by have := t1 i hi; have := hg i hi; rw [e90, ← hEn i hi]; omega
  refine ⟨5, _, by decide, c_creditM (d := 0) I1.1.1 I1.1.2.2.1 I1.2.2.2.2.2.2.2.2.2.2 hg2, fun z2 m2 h2 _ _ => ?_⟩
  obtain ⟨f2, Z2, o2, e2⟩ := h2
  have I2 := I1.fm f2 (by decide) (by decide)
  refine ⟨fun _ => L _ I2, fun q => q ?_⟩
  have hE1 : ∀ i, In n i → m 25 i = m1 90 i := fun i hi => by rw [e90]; exact hEn i hi
  rw [e1, e2, sm_congr hE1, sm_congr (BaR.uniq B hE1 o1 o2)]
theorem l_rank {x3 c : Int} (hx : 0 ≤ x3 ∧ x3 + 6 ≤ (g_L G : Int)) (hL : g_L G ≤ 3072) (hI : Inv c m) (hc : 0 ≤ c ∧ c ≤ 511) (L : ∀ m1, Inv (c + 1) m1 → Wq l G true Y_Law 400 Q 1542 [(0, .inr (.inr 1000)), (1, .inr (.inr 0)), (2, .inr (.inr 70)), (3, .inl x3)] [] m1) : Wq l G true Y_Law 400 Q 1055 [(0, .inr (.inr 1000)), (1, .inr (.inr 0)), (2, .inr (.inr 70)), (3, .inl x3)] [] m := by
  obtain ⟨n, D, W, br, b, b', fs, lk, hd, hI⟩ := hI
  have B := hI.1.1
  have X := hI.1.2.1
  have hn5 := B.1
  obtain ⟨hE, hS, hAR, -, hBox⟩ := hI.2.2.2.1
  have hg := hS.1
  have hN := hS.2.1
  have hEn : ∀ i, In n i → m 25 i = m 90 i := fun i hi => hE i hi.1 (by have := hi.2; omega)
  have hN3 : (495 : Int) + 20 * c ≤ 14000 := by omega
  obtain ⟨t1, t2⟩ := hS.one hn5 (by omega)
  have hGX : GX n W br (495 + 20 * c) m := ⟨hg, hN, by omega, fun i i0 i1 => by have := t2 i i0 i1; omega, hI.2.2.2.2.2.2.2.2.1⟩
  refine s_Law_1055 x3 (fun _ _ => ⟨by unfold inR; omega, by omega, 13, _, by decide, c_rankX (d := 0) B X hGX, fun z m1 h1 _ _ => ?_⟩)
  obtain ⟨f1, a1, a2⟩ := h1
  have I1 := hI.fx f1 (by decide) (by decide)
  have e25 : m1 25 = m 25 := f1 25 (by decide)
  have e90 : m1 90 = m 90 := f1 90 (by decide)
  have hg1 : ∀ i, In n i → 0 ≤ m1 90 i := fun i hi => by rw [e90, ← hEn i hi]; exact hg i hi
  have hN1 : sm n (m1 90) ≤ 495 + 20 * c := by rw [e90, ← sm_congr hEn]; exact hN
  have hg2 : ∀ i, In n i → 0 ≤ m1 90 i ∧ m1 90 i ≤ 20000 := fun i hi => by have := t1 i hi; have := hg i hi; rw [e90, ← hEn i hi]; omega
  refine ⟨by unfold inR; omega, by omega, 6, _, by decide, c_rankM (d := 0) I1.1.1 I1.1.2.2.1 I1.2.2.2.2.2.2.2.2.2.2 hg2, fun z2 m2 h2 _ _ => ?_⟩
  obtain ⟨f2, b1, b2⟩ := h2
  have I2 := I1.fm f2 (by decide) (by decide)
  refine ⟨fun _ => L _ I2, fun q => q ?_⟩
  have hE1 : ∀ i, In n i → m 25 i = m1 90 i := fun i hi => by rw [e90]; exact hEn i hi
  by_cases c : -30 ≤ (g_x G ((x3 + 1)).toNat) ∧ (g_x G ((x3 + 1)).toNat) ≤ 30
  · have r1 := (a2 c).congr hE1
    rw [sm_congr hE1] at r1
    exact r1.uniq (b2 c)
  · rw [a1 c, b1 c]
theorem l_cycle {x3 c : Int} (hx : 0 ≤ x3 ∧ x3 + 6 ≤ (g_L G : Int)) (hL : g_L G ≤ 3072) (hI : Inv c m) (hc : 0 ≤ c ∧ c ≤ 511) (L : ∀ m1, Inv (c + 1) m1 → Wq l G true Y_Law 400 Q 1542 [(0, .inr (.inr 1000)), (1, .inr (.inr 0)), (2, .inr (.inr 70)), (3, .inl x3)] [] m1) : Wq l G true Y_Law 400 Q 1006 [(0, .inr (.inr 1000)), (1, .inr (.inr 0)), (2, .inr (.inr 70)), (3, .inl x3)] [] m := by
  obtain ⟨n, D, W, br, b, b', fs, lk, hd, hI⟩ := hI
  have B := hI.1.1
  have X := hI.1.2.1
  have hn5 := B.1
  obtain ⟨hE, hS, hAR, -, hBox⟩ := hI.2.2.2.1
  have hg := hS.1
  have hN := hS.2.1
  have hEn : ∀ i, In n i → m 25 i = m 90 i := fun i hi => hE i hi.1 (by have := hi.2; omega)
  obtain ⟨t1, t2⟩ := hS.one hn5 (by omega)
  refine s_Law_1006 x3 (fun _ _ => ⟨4, _, by decide, c_cycleX (d := 0) B X hI.2.2.2.2.2.2.1 (fun i hi => by have := t1 i hi; have := hg i hi; omega), fun z m1 h1 _ _ => ?_⟩)
  obtain ⟨a1, rfl⟩ := h1
  refine ⟨5, _, by decide, c_cycleM (d := 0) B hI.1.2.2.1 hI.2.2.2.2.2.2.2.2.2.2 (fun i hi => by have := t1 i hi; have := hg i hi; rw [← hEn i hi]; omega), fun z2 m2 h2 _ _ => ?_⟩
  obtain ⟨f2, b1⟩ := h2
  have I2 := hI.fm f2 (by decide) (by decide)
  refine ⟨fun _ => L _ I2, fun q => q ?_⟩
  exact tuR.uniq hEn a1 b1
theorem l_wheel {x3 c : Int} (hx : 0 ≤ x3 ∧ x3 + 6 ≤ (g_L G : Int)) (hL : g_L G ≤ 3072) (hI : Inv c m) (hc : 0 ≤ c ∧ c ≤ 511) (L : ∀ m1, Inv (c + 1) m1 → Wq l G true Y_Law 400 Q 1542 [(0, .inr (.inr 1000)), (1, .inr (.inr 0)), (2, .inr (.inr 70)), (3, .inl x3)] [] m1) : Wq l G true Y_Law 400 Q 1019 [(0, .inr (.inr 1000)), (1, .inr (.inr 0)), (2, .inr (.inr 70)), (3, .inl x3)] [] m := by
  obtain ⟨n, D, W, br, b, b', fs, lk, hd, hI⟩ := hI
  have B := hI.1.1
  have X := hI.1.2.1
  have hn5 := B.1
  obtain ⟨hE, hS, hAR, -, hBox⟩ := hI.2.2.2.1
  have hg := hS.1
  have hN := hS.2.1
  have hEn : ∀ i, In n i → m 25 i = m 90 i := fun i hi => hE i hi.1 (by have := hi.2; omega)
  have hN3 : (495 : Int) + 20 * c ≤ 14000 := by omega
  refine s_Law_1019 x3 (fun _ _ => ⟨by unfold inR; omega, by omega, 4, _, by decide, c_wheelX (d := 0) B X hI.2.2.2.2.2.2.1, fun z m1 h1 _ _ => ?_⟩)
  obtain ⟨f1, a1, a2⟩ := h1
  have I1 := hI.fx f1 (by decide) (by decide)
  have e25 : m1 25 = m 25 := f1 25 (by decide)
  have e90 : m1 90 = m 90 := f1 90 (by decide)
  refine ⟨by unfold inR; omega, by omega, 5, _, by decide, c_wheelM (d := 0) I1.1.1 I1.1.2.2.1 I1.2.2.2.2.2.2.2.2.2.2, fun z2 m2 h2 _ _ => ?_⟩
  obtain ⟨f2, b1, b2⟩ := h2
  have I2 := I1.fm f2 (by decide) (by decide)
  refine ⟨fun _ => L _ I2, fun q => q ?_⟩
  by_cases c : In n (g_x G ((x3 + 1)).toNat)
  · exact tuR.uniq (fun _ _ => rfl) (a1 c) (b1 c)
  · rw [a2 c, b2 c]
theorem l_one {x3 c : Int} (hx : 0 ≤ x3 ∧ x3 + 6 ≤ (g_L G : Int)) (hL : g_L G ≤ 3072) (hI : Inv c m) (hc : 0 ≤ c ∧ c ≤ 511) (L : ∀ m1, Inv (c + 1) m1 → Wq l G true Y_Law 400 Q 1542 [(0, .inr (.inr 1000)), (1, .inr (.inr 0)), (2, .inr (.inr 70)), (3, .inl x3)] [] m1) : Wq l G true Y_Law 400 Q 983 [(0, .inr (.inr 1000)), (1, .inr (.inr 0)), (2, .inr (.inr 70)), (3, .inl x3)] [] m := by
  obtain ⟨n, D, W, br, b, b', fs, lk, hd, hI⟩ := hI
  have B := hI.1.1
  have X := hI.1.2.1
  have hn5 := B.1
  obtain ⟨hE, hS, hAR, -, hBox⟩ := hI.2.2.2.1
  have hg := hS.1
  have hN := hS.2.1
  have hEn : ∀ i, In n i → m 25 i = m 90 i := fun i hi => hE i hi.1 (by have := hi.2; omega)
  have hN3 : (495 : Int) + 20 * c ≤ 14000 := by omega
  obtain ⟨t1, t2⟩ := hS.one hn5 (by omega)
  have hGX : GX n W br (495 + 20 * c) m := ⟨hg, hN, by omega, fun i i0 i1 => by have := t2 i i0 i1; omega, hI.2.2.2.2.2.2.2.2.1⟩
  refine s_Law_983 x3 (fun _ _ => ⟨by unfold inR; omega, by omega, 3, _, by decide, c_oneX (d := 0) B X hI.2.2.2.2.2.2.1 (fun i i0 i1 => by have := t2 i i0 i1; omega) (fun q i i0 i1 => by have := ((((hBox _ q.1.1 q.1.2).2 q.2).2).one hn5 (by omega)).2 i i0 i1; omega), fun z m1 h1 _ _ => ?_⟩)
  obtain ⟨f1, a1⟩ := h1
  have I1 := hI.fx f1 (by decide) (by decide)
  have e25 : m1 25 = m 25 := f1 25 (by decide)
  have e90 : m1 90 = m 90 := f1 90 (by decide)
  have hg1 : ∀ i, In n i → 0 ≤ m1 90 i := fun i hi => by rw [e90, ← hEn i hi]; exact hg i hi
  have hN1 : sm n (m1 90) ≤ 495 + 20 * c := by rw [e90, ← sm_congr hEn]; exact hN
  have hg2 : ∀ i, In n i → 0 ≤ m1 90 i ∧ m1 90 i ≤ 20000 := fun i hi => by have := t1 i hi; have := hg i hi; rw [e90, ← hEn i hi]; omega
  have hb1 : (0 ≤ (g_x G ((x3 + 1)).toNat) ∧ (g_x G ((x3 + 1)).toNat) < 3) ∧ m 31 (g_x G ((x3 + 1)).toNat) ≠ 0 ↔ (0 ≤ (g_x G ((x3 + 1)).toNat) ∧ (g_x G ((x3 + 1)).toNat) < 3) ∧ m1 110 (g_x G ((x3 + 1)).toNat) ≠ 0 := by
    rw [f1 110 (by decide)]
    exact ⟨fun q => ⟨q.1, (hBox _ q.1.1 q.1.2).1.mp q.2⟩, fun q => ⟨q.1, (hBox _ q.1.1 q.1.2).1.mpr q.2⟩⟩
  have hb2 : (0 ≤ (g_x G ((x3 + 1)).toNat) ∧ (g_x G ((x3 + 1)).toNat) < 3) ∧ m 31 (g_x G ((x3 + 1)).toNat) ≠ 0 → (∀ i, 0 ≤ i → i < 8 → m 30 (8 * (g_x G ((x3 + 1)).toNat) + i) = m1 109 (8 * (g_x G ((x3 + 1)).toNat) + i)) ∧ StO n c (fun i => m 30 (8 * (g_x G ((x3 + 1)).toNat) + i)) := fun q => by
    rw [f1 109 (by decide)]
    exact (hBox _ q.1.1 q.1.2).2 q.2
  refine ⟨by unfold inR; omega, by omega, 4, _, by decide, c_oneM (d := 0) I1.1.1 I1.1.2.2.1 I1.2.2.2.2.2.2.2.2.2.2 hg2 (fun q i hi => by have h8 := hb2 (hb1.mpr q); have h9 := h8.1 i hi.1 (by have := hi.2; omega); have ha : m 30 (8 * _ + i) ≤ 10735 := (h8.2.one hn5 (by omega)).1 i hi; have hb : 0 ≤ m 30 (8 * _ + i) := h8.2.1 i hi; rw [← h9]; omega), fun z2 m2 h2 _ _ => ?_⟩
  obtain ⟨f2, b1⟩ := h2
  have I2 := I1.fm f2 (by decide) (by decide)
  refine ⟨fun _ => L _ I2, fun q => q ?_⟩
  have hE1 : ∀ i, In n i → m 25 i = m1 90 i := fun i hi => by rw [e90]; exact hEn i hi
  exact onR.uniq hb1 hE1 (fun q i hi => (hb2 q).1 i hi.1 (by have := hi.2; omega)) a1 b1
end Law2
