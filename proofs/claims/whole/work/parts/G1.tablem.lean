/-! the table read by the reference -/
def ZD (Z : Int → Int) (i : Int) : Int := Z (30 + i)
def ZW (Z : Int → Int) (i j : Int) : Int := Z (40 + 5 * i + j)
def zn (Z : Int → Int) : Nat := (Z 1).toNat
def zbr (Z : Int → Int) (i : Int) : Int := ZD Z i + sm (zn Z) (ZW Z i)
def okZ (Z : Int → Int) : Prop := ∀ i, In (zn Z) i → rcb (zn Z) (ZD Z) (ZW Z) 5 i = true
def FnR (N : Int) (R R' : Rz) : Prop := (∃ f, R = .inl f ∧ R' = .inl f) ∨ ∃ Z cs, R = .inr (Z, cs) ∧ ((okZ Z ∧ R' = .inr (Z, cs)) ∨ (¬ okZ Z ∧ R' = .inl (6, N)))
/-- what a table's text says -/
def TaR (T : Int → Int) (N : Int) (R' : Rz) : Prop := ∃ k R, TbR T N k (fun _ => 0) [] R ∧ FnR N R R'
theorem ZC.bv {Z : Int → Int} {cs : List Int} (h : ZC Z cs) : BV (zn Z) (ZD Z) (ZW Z) ∧ ((zn Z : Nat) : Int) = Z 1 := by
  obtain ⟨h1, h3, h4, h5, h8, hn, hd, hD, hW, hc, hf⟩ := h
  have e : ((zn Z : Nat) : Int) = Z 1 := by unfold zn; omega
  have hin : ∀ {i : Int}, In (zn Z) i → 0 ≤ i ∧ i < 5 := fun hi => ⟨hi.1, by have := hi.2; omega⟩
  refine ⟨⟨by omega, fun i hi => hD i hi.1 (hin hi).2, fun i j hi hj => ?_, fun i hi => (hW i i hi.1 (hin hi).2 hi.1 (hin hi).2).2.2.2⟩, e⟩
  have := hW i j hi.1 (hin hi).2 hj.1 (hin hj).2
  exact ⟨this.1, this.2.1, this.2.2.1⟩
theorem ZI.nil {N : Int} (hN : 0 ≤ N) : ZI N (fun _ => 0) [] := by
  refine ⟨⟨Int.le_refl 0, hN, Int.le_refl 0, Int.le_refl 0⟩, ⟨Int.le_refl 0, by decide⟩, ⟨Int.le_refl 0, by decide⟩, ⟨Int.le_refl 0, by decide⟩, ⟨Or.inl rfl, Or.inl rfl, Or.inl rfl⟩, ⟨Int.le_refl 0, by decide⟩, fun i i0 i1 => ?_, fun i j i0 i1 => ?_, fun i _ _ => ⟨Int.le_refl 0, show (0 : Int) ≤ 2 by decide⟩, fun i j _ _ _ _ => ⟨Int.le_refl 0, show (0 : Int) ≤ 2 by decide, rfl, rfl⟩, fun _ => ⟨rfl, rfl⟩, fun q => absurd rfl q⟩
  · have i1 : i < 0 := i1
    omega
  · have i1 : i < 0 := i1
    omega
def FrU (r : Int) (m m' : MM) : Prop := ∀ a i, ¬ rgn r a i → a ≠ 72 → ¬ (a = 70 ∧ (i = 2 ∨ i = 3 ∨ i = 29)) → m' a i = m a i
theorem FrR.fru {r : Int} {m m1 m' : MM} (h : FrU r m m1) (g : FrR r m1 m') : FrU r m m' := fun a i h1 h2 h3 => (g a i h1).trans (h a i h1 h2 h3)
/-- what the reference's table leaves -/
def PtM (N r : Int) (R' : Rz) (m : MM) (z : Int) (m' : MM) : Prop :=
  (∃ f, R' = .inl f ∧ z = -1 ∧ m' 70 4 = f.1 ∧ m' 70 5 = f.2 ∧ m' 70 2 = 0 ∧ FrU r m m') ∨ ∃ Z cs, R' = .inr (Z, cs) ∧ z = Z 1 ∧ ZI N Z cs ∧ okZ Z ∧ ∃ mE, FrU r m mE ∧ mE 70 2 = 0 ∧ mE 70 4 = 0 ∧ mE 70 5 = -1 ∧ BdM r Z cs mE ∧ BgM (zn Z) (ZD Z) (ZW Z) (zbr Z) (up mE 70 28 r) m'
section TableM
variable {l : Launch} {G : GT} {d : Nat} {m : MM} {T : Int → Int} {N r : Int} {R' : Rz}
theorem c_tableM (hN : m 70 2 = N ∧ 0 ≤ N ∧ N ≤ 1600) (hr : 1 - m 70 28 = r ∧ 0 ≤ r ∧ r ≤ 1) (hT : ∀ t, 0 ≤ t → t < N → bAnd (m 71 t) 255 = T t) (hB : ∀ t, 0 ≤ t → t < N → -128 ≤ m 71 t ∧ m 71 t < 128) (hR : TaR T N R') : CI l G Y_M_table (d + 7) [.inr (.inr 70)] m (PtM N r R' m) := by
  obtain ⟨hN2, hN0, hN1⟩ := hN
  obtain ⟨hr, hr0, hr1⟩ := hr
  obtain ⟨kk, R, hTb, hFn⟩ := hR
  generalize hQ : PtM N r R' m = Q
  -- the end
  have fin : ∀ m1, FrU r m m1 → m1 70 2 = 0 → m1 70 3 = N → (FsM N R m1 ∨ ∃ Z cs, R = .inr (Z, cs) ∧ RdM T N r Z cs m1 ∧ ZI N Z cs) → Wq l G false Y_M_table (d + 7) (QI Q) 95 [(0, .inr (.inr 70))] [] m1 := by
    intro m1 f1 k2 k3 h1
    rcases h1 with h1 | ⟨Z, cs, hRe, hRd, hZ⟩
    · obtain ⟨f, hRf, hf, -⟩ := h1
      have hRf' : R' = .inl f := by
        rcases hFn with ⟨f', e1, e2⟩ | ⟨Z, cs, e1, -⟩
        · rw [hRf] at e1; cases e1; exact e2
        · rw [hRf] at e1; cases e1
      have ne : m1 70 4 ≠ 0 := by rw [hf.1]; exact hf.2.2
      refine s_M_table_95 (fun _ => ⟨d, _, by omega, c_isGoodM2, fun z m2 hz _ _ => ?_⟩)
      obtain ⟨hz, rfl⟩ := hz
      refine ⟨fun _ => ⟨d, _, by omega, c_isGoodM2, fun z2 m2 hz2 _ _ => ?_⟩, fun c => absurd (hz.mpr ne) c⟩
      obtain ⟨hz2, rfl⟩ := hz2
      refine ⟨fun c => absurd (hz2.mpr ne) c, fun _ => ?_⟩
      rw [← hQ]
      exact Or.inl ⟨f, hRf', rfl, hf.1, hf.2.1, k2, f1⟩
    · obtain ⟨hH, hBd⟩ := hRd
      obtain ⟨hBV, hzn⟩ := hZ.2.bv
      obtain ⟨i29, -, -, i5⟩ := hH.2.2
      have hD' : ∀ i, In (zn Z) i → m1 81 (5 * r + i) = ZD Z i := fun i hi => hBd.2.2.1 i hi.1 (by have := hi.2; have := hBV.1; omega)
      have hW' : ∀ i j, In (zn Z) i → In (zn Z) j → m1 80 (5 * (5 * r + i) + j) = ZW Z i j := fun i j hi hj => hBd.2.2.2.1 i j hi.1 (by have := hi.2; have := hBV.1; omega) hj.1 (by have := hj.2; have := hBV.1; omega)
      refine s_M_table_95 (fun _ => ⟨d, _, by omega, c_isGoodM2, fun z m2 hz _ _ => ?_⟩)
      obtain ⟨hz, rfl⟩ := hz
      refine ⟨fun c => absurd hH.2.1 (hz.mp c), fun _ => ⟨d + 1, _, by omega, c_areDrained ⟨i29, hr0, hr1⟩ (by rw [hBd.1.1, hzn]) hBV hD' hW', fun z2 m2 hz2 _ _ => ?_⟩⟩
      obtain ⟨hz2, rfl⟩ := hz2
      refine ⟨fun c => ?_, fun c => ?_⟩
      · have ok : okZ Z := Classical.not_not.mp (fun g => c (hz2.mpr g))
        refine ⟨d, _, by omega, c_isGoodM2, fun z3 m2 hz3 _ _ => ?_⟩
        obtain ⟨hz3, rfl⟩ := hz3
        refine ⟨fun _ m2 e2 => ?_, fun c => absurd hH.2.1 (hz3.mp (Classical.not_not.mp c))⟩
        rw [i29] at e2
        have BWz : BW (zn Z) (ZD Z) (ZW Z) (zbr Z) := hBV.bw (fun _ _ => rfl) ok
        have j28 : m2 70 28 = r := by rw [e2, up_at]
        have X2 : BM (zn Z) (ZD Z) (ZW Z) (m2 92) m2 := by
          refine ⟨by rw [j28]; exact ⟨hr0, hr1⟩, ?_, fun i hi => ?_, fun _ _ => rfl, fun i j hi hj => ?_⟩
          · rw [j28, e2, up_ne (by decide), hBd.1.1, hzn]
          · rw [j28, e2, up_ne (by decide)]; exact hD' i hi
          · rw [j28, e2, up_ne (by decide)]; exact hW' i j hi hj
        refine ⟨d + 4, _, by omega, c_startAnew BWz X2, fun m3 h3 _ => ?_⟩
        have q28 : m3 70 28 = r := by rw [h3.1.2 28 (by decide)]; exact j28
        have q73 : m3 73 r = Z 1 := by rw [h3.1.1 73 (by decide) (by decide), e2, up_ne (by decide)]; exact hBd.1.1
        rw [q28, q73]
        refine ⟨⟨hr0, by omega⟩, ?_⟩
        rw [← hQ]
        have hR2 : R' = .inr (Z, cs) := by
          rcases hFn with ⟨f', e1, -⟩ | ⟨Z', cs', e1, h⟩
          · rw [hRe] at e1; cases e1
          · rw [hRe] at e1; cases e1
            rcases h with ⟨-, h⟩ | ⟨h, -⟩
            · exact h
            · exact absurd ok h
        rw [e2] at h3
        exact Or.inr ⟨Z, cs, hR2, rfl, hZ, ok, m1, f1, k2, hH.2.1, i5, hBd, h3⟩
      · have nok : ¬ okZ Z := hz2.mp (Classical.not_not.mp c)
        have hR2 : R' = .inl (6, N) := by
          rcases hFn with ⟨f', e1, -⟩ | ⟨Z', cs', e1, h⟩
          · rw [hRe] at e1; cases e1
          · rw [hRe] at e1; cases e1
            rcases h with ⟨h, -⟩ | ⟨-, h⟩
            · exact absurd h nok
            · exact h
        rw [k3]
        refine ⟨d, _, by omega, c_failsM2, fun m2 h2 _ => ?_⟩
        obtain ⟨g1, g2⟩ := h2.ft hH.2.1 (by decide)
        refine ⟨d, _, by omega, c_isGoodM2, fun z3 m3 hz3 _ _ => ?_⟩
        obtain ⟨hz3, rfl⟩ := hz3
        have ne : m2 70 4 ≠ 0 := by rw [g1.1]; exact g1.2.2
        refine ⟨fun c => absurd (hz3.mpr ne) c, fun _ => ?_⟩
        rw [← hQ]
        exact Or.inl ⟨_, hR2, rfl, g1.1, g1.2.1, by rw [g2.2 2 (by decide)]; exact k2, FrR.fru f1 (FrR.of g2 (by decide))⟩
  -- the lines
  have loop : ∀ (k : Nat) (Z : Int → Int) (cs : List Int) (m1 : MM), TbR T N k Z cs R → RdM T N r Z cs m1 → ZI N Z cs → FrU r m m1 → m1 70 2 = 0 → Wq l G false Y_M_table (d + 7) (QI Q) 74 [(0, .inr (.inr 70))] [] m1 := by
    intro k
    induction k with
    | zero => intro Z cs m1 h; exact h.elim
    | succ k ih =>
      intro Z cs m1 hTb hRd hZ f1 k2
      have hH := hRd.1
      have k3 := hH.1.2.1
      have k8 := hH.1.bad.2.1
      refine s_M_table_74 (fun _ => ⟨d, _, by omega, c_isGoodM2, fun z m2 hz _ _ => ?_⟩)
      obtain ⟨hz, rfl⟩ := hz
      refine ⟨fun c => absurd hH.2.1 (hz.mp c), fun _ => ⟨fun c8 => ?_, fun c8 => ?_⟩⟩
      · rcases hTb with ⟨-, h2⟩ | ⟨h1, -⟩
        · exact fin m1 f1 k2 k3 (Or.inr ⟨Z, cs, h2, hRd, hZ⟩)
        · exact absurd (k8.mp c8) h1
      · rcases hTb with ⟨h1, -⟩ | ⟨-, R1, hL, h2, h3⟩
        · exact absurd (k8.mpr h1) c8
        · refine ⟨d + 6, _, by omega, c_readLine hRd hZ hL, fun m2 hm2 _ => ?_⟩
          obtain ⟨g1, g2⟩ := hm2
          have f2 : FrU r m m2 := FrR.fru f1 g1
          have j2 : m2 70 2 = 0 := by
            rw [g1 70 2 (by unfold rgn; simp)]; exact k2
          have j3 : m2 70 3 = N := by
            rw [g1 70 3 (by unfold rgn; simp)]; exact k3
          rcases g2 with ⟨f, e1, e2, e3⟩ | ⟨Y, c, e1, e2⟩
          · have FR : FsM N R m2 := ⟨f, h2 f e1, e2, e3⟩
            refine s_M_table_74 (fun _ => ⟨d, _, by omega, c_isGoodM2, fun z m3 hz _ _ => ?_⟩)
            obtain ⟨hz, rfl⟩ := hz
            exact ⟨fun _ => fin m2 f2 j2 j3 (Or.inl FR), fun c => absurd (hz.mpr FR.ne) c⟩
          · exact ih Y c m2 (h3 Y c e1) e2 (hZ.step (by rw [← e1]; exact hL)).1 f2 j2
  refine e_M_table (fun _ m1 e1 m2 e2 m3 e3 => ?_)
  have k3 : m3 70 3 = N := by
    rw [e3, up_at, e2, up_off (by decide), e1, up_off (by decide)]; exact hN2
  have b3 : ∀ a : Nat, a ≠ 70 → m3 a = m a := fun a ha => by rw [e3, up_ne ha, e2, up_ne ha, e1, up_ne ha]
  have c3 : ∀ i : Int, i ≠ 3 → i ≠ 4 → i ≠ 5 → m3 70 i = m 70 i := fun i h3 h4 h5 => by rw [e3, up_off h3, e2, up_off h5, e1, up_off h4]
  have k4 : m3 70 4 = 0 := by rw [e3, up_off (by decide), e2, up_off (by decide), e1, up_at]
  have k5 : m3 70 5 = -1 := by rw [e3, up_off (by decide), e2, up_at]
  -- the copy
  have copy : ∀ (s : Nat) (i : Int) (m4 : MM), i + s = N → 0 ≤ i → (∀ a : Nat, a ≠ 72 → m4 a = m3 a) → (∀ t, 0 ≤ t → t < i → m4 72 t = m 71 t) → Wq l G false Y_M_table (d + 7) (QI Q) 20 [(0, .inr (.inr 70)), (1, .inl i)] [] m4 := by
    intro s
    induction s with
    | zero =>
      intro i m4 hi i0 ha ht
      refine s_M_table_20 _ (fun _ _ => ?_)
      rw [ha 70 (by decide), k3]
      refine ⟨fun _ m5 e5 m6 e6 => ?_, fun c => absurd (show i ≥ N by omega) c⟩
      have q28 : m6 70 28 = m 70 28 := by rw [e6, up_off (by decide), e5, up_off (by decide), ha 70 (by decide), c3 28 (by decide) (by decide) (by decide)]
      rw [q28, hr]
      refine ⟨by unfold inR; omega, fun m7 e7 => ?_⟩
      have q29 : m7 70 29 = r := by rw [e7, up_at]
      refine ⟨d, _, by omega, c_clearBank ⟨q29, hr0, hr1⟩, fun m8 h8 _ => ?_⟩
      obtain ⟨f8, ⟨n73, n74, n75, n76, n77, n78⟩, n81, n80, n30⟩ := h8
      have o : ∀ j : Int, j ≠ 2 → j ≠ 7 → j ≠ 29 → m7 70 j = m3 70 j := fun j j2 j7 j29 => by rw [e7, up_off j29, e6, up_off j7, e5, up_off j2, ha 70 (by decide)]
      have o8 : ∀ j : Int, j ≠ 30 → m8 70 j = m7 70 j := fun j hj => f8.2 j (by simp only [List.mem_singleton]; exact hj)
      have q72 : ∀ t, 0 ≤ t → t < N → tx m8 t = T t := fun t t0 t1 => by
        unfold tx
        rw [f8.1 72 (by decide) (by decide), e7, up_ne (by decide), e6, up_ne (by decide), e5, up_ne (by decide), ht t t0 (by omega)]
        exact hT t t0 t1
      have q3 : m8 70 3 = N := by rw [o8 3 (by decide), o 3 (by decide) (by decide) (by decide)]; exact k3
      have q7 : m8 70 7 = 0 := by rw [o8 7 (by decide), e7, up_off (by decide), e6, up_at]
      refine ⟨d + 1, _, by omega, c_goOn ⟨q3, hN1⟩ ⟨q7, Int.le_refl 0, hN0⟩, fun m9 h9 _ => ?_⟩
      obtain ⟨f9, t9⟩ := h9
      have H9 : HdM T N r 0 m9 := by
        refine ⟨⟨fun t t0 t1 => ?_, by rw [f9.2 3 (by decide)]; exact q3, hN1, Int.le_refl 0, hN0, t9.congr q72 ⟨Int.le_refl 0, hN0⟩⟩, ?_, ?_, hr0, hr1, ?_⟩
        · rw [← q72 t t0 t1]; unfold tx; rw [f9.1 72 (by simp) (by decide)]
        · rw [f9.2 4 (by decide), o8 4 (by decide), o 4 (by decide) (by decide) (by decide)]; exact k4
        · rw [f9.2 29 (by decide), o8 29 (by decide)]; exact q29
        · rw [f9.2 5 (by decide), o8 5 (by decide), o 5 (by decide) (by decide) (by decide)]; exact k5
      have B9 : BdM r (fun _ => 0) [] m9 := by
        refine BdM.fro (m := m8) ⟨⟨n73.1 r (Int.le_refl r) (by omega), n74.1 r (Int.le_refl r) (by omega), n76.1 r (Int.le_refl r) (by omega), n77.1 r (Int.le_refl r) (by omega), n75.1 r (Int.le_refl r) (by omega), n78.1 r (Int.le_refl r) (by omega)⟩, fun i i0 i1 => ?_, fun i i0 i1 => n81.1 _ (by omega) (by omega), fun i j i0 i1 j0 j1 => n80.1 _ (by omega) (by omega), ⟨?_, fun j s hs => ?_⟩, fun q => absurd rfl q⟩ f9 (by decide)
        · have i1 : i < 0 := i1
          omega
        · rw [n30]
          show 560 * r = 560 * r + ((0 : Nat) : Int)
          omega
        · simp at hs
      have F9 : FrU r m m9 := by
        intro a i h1 h2 h3
        by_cases a70 : a = 70
        · subst a70
          have h1' : ∀ x, x ∈ [(4 : Int), 5, 6, 7, 8, 9, 10, 30, 31, 32, 33] → i ≠ x := fun x hx e => h1 (Or.inl ⟨rfl, by rw [e]; exact hx⟩)
          have i4 := h1' 4 (by decide)
          have i5 := h1' 5 (by decide)
          have i6 := h1' 6 (by decide)
          have i7 := h1' 7 (by decide)
          have i8 := h1' 8 (by decide)
          have i9 := h1' 9 (by decide)
          have i10 := h1' 10 (by decide)
          have i30 := h1' 30 (by decide)
          rw [f9.2 i (by simp only [List.mem_cons, List.not_mem_nil, or_false]; omega), o8 i i30, o i (by omega) i7 (by omega), c3 i (by omega) i4 i5]
        · rw [f9.1 a (by simp) a70]
          have up7 : m7 a = m4 a := by rw [e7, up_ne a70, e6, up_ne a70, e5, up_ne a70]
          have base : m7 a i = m a i := by rw [up7, ha a h2, b3 a a70]
          by_cases l1 : a ∈ [73, 74, 75, 76, 77, 78, 80, 81]
          · simp only [List.mem_cons, List.not_mem_nil, or_false] at l1
            have one : (a = 73 ∨ a = 74 ∨ a = 75 ∨ a = 76 ∨ a = 77 ∨ a = 78 ∨ a = 82 ∨ a = 83) → i ≠ r := fun g e => h1 (Or.inr (Or.inl ⟨g, e⟩))
            rcases l1 with g | g | g | g | g | g | g | g
            · have := one (by omega); subst g; rw [n73.2 i (by omega)]; exact base
            · have := one (by omega); subst g; rw [n74.2 i (by omega)]; exact base
            · have := one (by omega); subst g; rw [n75.2 i (by omega)]; exact base
            · have := one (by omega); subst g; rw [n76.2 i (by omega)]; exact base
            · have := one (by omega); subst g; rw [n77.2 i (by omega)]; exact base
            · have := one (by omega); subst g; rw [n78.2 i (by omega)]; exact base
            · subst g
              rw [n80.2 i (fun e => h1 (Or.inr (Or.inr (Or.inr (Or.inl ⟨rfl, e⟩)))))]; exact base
            · subst g
              rw [n81.2 i (fun e => h1 (Or.inr (Or.inr (Or.inl ⟨by decide, e⟩))))]; exact base
          · rw [f8.1 a l1 a70]; exact base
      have k2 : m9 70 2 = 0 := by rw [f9.2 2 (by decide), o8 2 (by decide), e7, up_off (by decide), e6, up_off (by decide), e5, up_at]
      exact loop kk (fun _ => 0) [] m9 hTb ⟨H9, B9⟩ (ZI.nil hN0) F9 k2
    | succ s ih =>
      intro i m4 hi i0 ha ht
      refine s_M_table_20 _ (fun _ _ => ?_)
      rw [ha 70 (by decide), k3]
      have e71 : m4 71 i = m 71 i := by rw [ha 71 (by decide), b3 71 (by decide)]
      have hb := hB i i0 (by omega)
      refine ⟨fun c => absurd c (by omega), fun _ => ⟨by omega, by omega, by rw [e71]; exact hb, fun m5 e5 => ⟨by unfold inR; omega, ih (i + 1) m5 (by omega) (by omega) (fun a h => by rw [e5, up_ne h]; exact ha a h) (fun t t0 t1 => ?_)⟩⟩⟩
      by_cases e : t = i
      · rw [e, e5, up_at, e71]
      · rw [e5, up_off e]; exact ht t t0 (by omega)
  exact copy N.toNat 0 m3 (by omega) (Int.le_refl 0) (fun _ _ => rfl) (fun t t0 t1 => by omega)
end TableM
