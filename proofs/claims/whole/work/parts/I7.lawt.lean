/-! the law, call by call: table -/
theorem isB_off {b b' : Nat} (h : isB b) (h' : isB b') (hn : b' ≠ b) {k : Nat} (hk : k ≤ 8) : ¬ (b' ≤ b + k ∧ b + k ≤ b' + 8) := by
  rcases h with rfl | rfl <;> rcases h' with rfl | rfl <;> omega
theorem FrW.row {b : Nat} {m m' : MM} (h : FrW b m m') {a : Nat} (h0 : a ≠ 0) (h2 : a ≠ 2) (h3 : a ≠ 3) (h6 : a ≠ 6) (hb : ¬ (b ≤ a ∧ a ≤ b + 8)) : m' a = m a := by
  funext i
  refine h a i (fun q => ?_) (fun q => h0 q.1)
  unfold rgY at q
  omega
theorem FrU.row {r : Int} {m m' : MM} (h : FrU r m m') {a : Nat} (h7 : a < 70 ∨ a = 71 ∨ 88 < a) : m' a = m a := by
  funext i
  refine h a i (fun q => ?_) (by omega) (fun q => by omega)
  unfold rgn at q
  omega
theorem FrU.fld {r : Int} {m m' : MM} (h : FrU r m m') {i : Int} (hi : i = 28 ∨ 33 < i) : m' 70 i = m 70 i := by
  refine h 70 i (fun q => ?_) (by decide) (fun q => by omega)
  unfold rgn at q
  simp only [List.mem_cons, List.not_mem_nil, or_false] at q
  omega
theorem bt_zero {x y z : Int} (hx : x = 0 ∨ x = 1) (hy : y = 0 ∨ y = 1) (hz : z = 0 ∨ z = 1) : bt (x + 2 * y + 4 * z) 0 = x := by
  rcases hx with rfl | rfl <;> rcases hy with rfl | rfl <;> rcases hz with rfl | rfl <;> decide
section TableL
variable {m m1 m2 : MM} {n : Nat} {D : Int → Int} {W : Int → Int → Int} {br hd : Int → Int} {b b' : Nat} {fs : List Int} {lk c N r : Int}
theorem Ivp.bad {f : Int × Int} (h : Ivp n D W br b b' fs lk hd c m) (hr : 1 - m 70 28 = r) (k1 : m1 0 3 = f.1 ∧ m1 0 4 = f.2 ∧ m1 0 1 = 0 ∧ m1 0 5 = b ∧ m1 0 6 = b') (f1 : FrW b' m m1) (k2 : m2 70 4 = f.1 ∧ m2 70 5 = f.2 ∧ m2 70 2 = 0) (f2 : FrU r m1 m2) : Inv (c + 1) m2 := by
  obtain ⟨⟨A1, A2, A3, A4, A5⟩, hB, hC, hD, hE, hF, hG⟩ := h
  have hb := A2.1
  have hb' := A4.2.1
  have off : ∀ k, k ≤ 8 → ¬ (b' ≤ b + k ∧ b + k ≤ b' + 8) := fun k hk => isB_off hb hb' A4.2.2 hk
  have nb : 7 ≤ b ∧ b + 8 ≤ 24 := by rcases hb with rfl | rfl <;> decide
  have nb' : 7 ≤ b' ∧ b' + 8 ≤ 24 := by rcases hb' with rfl | rfl <;> decide
  have bk := A3.1
  have e70 : ∀ i : Int, i = 28 ∨ 33 < i → m2 70 i = m 70 i := fun i hi => (f2.fld hi).trans (by rw [f1.row (a := 70) (by decide) (by decide) (by decide) (by decide) (by omega)])
  have e : ∀ a, (24 < a ∧ a < 70) ∨ a = 4 ∨ a = 71 ∨ 88 < a → m2 a = m a := fun a ha => (f2.row (by omega)).trans (f1.row (by omega) (by omega) (by omega) (by omega) (by omega))
  have eb : ∀ k, k ≤ 8 → m2 (b + k) = m (b + k) := fun k hk => (f2.row (by omega)).trans (f1.row (by omega) (by omega) (by omega) (by omega) (off k hk))
  have eb0 : m2 b = m b := eb 0 (by omega)
  have e0 : m2 0 = m1 0 := f2.row (by omega)
  have ei : ∀ a i, 70 < a → ¬ rgn r a i → a ≠ 72 → m2 a i = m a i := fun a i ha hi h72 => by
    rw [f2 a i hi h72 (by omega), f1.row (a := a) (by omega) (by omega) (by omega) (by omega) (by omega)]
  have ek : ∀ a, 73 ≤ a → a ≤ 78 ∨ a = 82 ∨ a = 83 → m2 a (m 70 28) = m a (m 70 28) := fun a ha h8 => ei a _ (by omega) (fun q => by unfold rgn at q; omega) (by omega)
  have e28 := e70 28 (Or.inl rfl)
  refine ⟨n, D, W, br, b, b', fs, lk, hd, ⟨A1, ⟨hb, by rw [e0]; exact k1.2.2.2.1, ?_⟩, ?_, ⟨by rw [e0]; exact k1.2.2.2.2, A4.2⟩, ?_⟩, ?_, ?_, (hD.fr (fun a ha => e a (by omega)) (fun i hi => e70 i (by omega))).mono (by omega), hE.fr (fun a ha => e a (by omega)) (e70 48 (by decide)), ?_, hG.fr (fun a ha => e a (by omega)) (e70 42 (by decide))⟩
  · obtain ⟨-, -, X⟩ := A2
    unfold BX
    rw [eb0, eb 3 (by omega), eb 4 (by omega), eb 2 (by omega)]
    exact X
  · obtain ⟨x0, x1, x2, x3, x4⟩ := A3
    unfold BM
    rw [e28, ek 73 (by decide) (by decide), e 92 (by decide)]
    refine ⟨x0, x1, fun i hi => ?_, x3, fun i j hi hj => ?_⟩
    · have h5 := A1.1
      have := hi.2; have := hi.1
      rw [ei 81 _ (by decide) (fun q => by unfold rgn at q; omega) (by decide)]; exact x2 i hi
    · have h5 := A1.1
      have := hi.2; have := hi.1; have := hj.2; have := hj.1
      rw [ei 80 _ (by decide) (fun q => by unfold rgn at q; omega) (by decide)]; exact x4 i j hi hj
  · rw [eb 5 (by omega)]; exact A5
  · obtain ⟨b1, b2, b3, b4, b5, b6, b7⟩ := hB
    unfold IvB CF MT MF
    rw [e28, eb0, eb 6 (by omega), eb 7 (by omega), ek 74 (by decide) (by decide), ek 75 (by decide) (by decide), ek 76 (by decide) (by decide), ek 78 (by decide) (by decide), ek 82 (by decide) (by decide), ek 83 (by decide) (by decide)]
    refine ⟨b1, b2, ?_, b4, b5, b6, b7⟩
    rcases b3 with ⟨g1, g2, g3, g4, g5, g6, g7⟩ | g
    · refine Or.inl ⟨g1, g2, g3, g4, g5, g6, fun j s hj => ?_⟩
      have h82 := b7 g1
      have hlen := b1.2.1
      have hj2 : j < fs.length := by
        rcases Nat.lt_or_ge j fs.length with q | q
        · exact q
        · rw [List.getElem?_eq_none_iff.mpr q] at hj; cases hj
      rw [ei 85 _ (by decide) (fun q => by unfold rgn at q; omega) (by decide), ei 86 _ (by decide) (fun q => by unfold rgn at q; omega) (by decide)]
      exact g7 j s hj
    · exact Or.inr g
  · unfold IvC KyX
    rw [e0, k1.1, k1.2.1, k1.2.2.1, k2.1, k2.2.1, k2.2.2, e 4 (by decide)]
    exact ⟨⟨rfl, rfl⟩, ⟨rfl, by decide, by decide⟩, fun t t0 t1 => absurd t1 (by omega), hC.2.2.2⟩
  · obtain ⟨g1, ⟨g5, g6, g7⟩, g8, g9, g10⟩ := hF
    unfold IvF SgX SgM
    rw [eb 1 (by omega), e 55 (by decide), e 56 (by decide), e 57 (by decide), e 58 (by decide), e 59 (by decide), e 60 (by decide), e 61 (by decide), e 103 (by decide), e 104 (by decide), e 105 (by decide), e 106 (by decide), e 107 (by decide), e28, e70 60 (by decide), e70 61 (by decide)]
    refine ⟨g1, ⟨fun i hi => ?_, g6, g7⟩, g8, g9, g10⟩
    have h5 := A1.1
    have := hi.2; have := hi.1
    rw [ei 79 _ (by decide) (fun q => by unfold rgn at q; omega) (by decide)]; exact g5 i hi
theorem Ivp.good {Z : Int → Int} {cs : List Int} {mE mF : MM} (h : Ivp n D W br b b' fs lk hd c m) (hc : 0 ≤ c) (hr : 1 - m 70 28 = r) (hZ : ZI N Z cs) (ok : okZ Z) (f1 : FrW b' m mE) (k1 : mE 0 3 = 0 ∧ mE 0 4 = -1 ∧ mE 0 1 = 0 ∧ mE 0 5 = b' ∧ mE 0 6 = b) (X1 : BdX b' Z cs mE) (X2 : BX (zn Z) (ZD Z) (ZW Z) (zbr Z) b' mE) (X3 : ∀ i, In (zn Z) i → FaR (zn Z) (ZD Z) (ZW Z) i (mE (b' + 5) i)) (X4 : BgX (zn Z) (ZD Z) (ZW Z) (zbr Z) b' mE m1) (f2 : FrU r m1 mF) (k2 : mF 70 2 = 0 ∧ mF 70 4 = 0 ∧ mF 70 5 = -1) (Y1 : BdM r Z cs mF) (Y2 : BgM (zn Z) (ZD Z) (ZW Z) (zbr Z) (up mF 70 28 r) m2) : Inv (c + 1) m2 := by
  obtain ⟨⟨A1, A2, A3, A4, A5⟩, hB, hC, hD, hE, hF, hG⟩ := h
  have hb := A2.1
  have hb' := A4.2.1
  have nb' : 7 ≤ b' ∧ b' + 8 ≤ 24 := by rcases hb' with rfl | rfl <;> decide
  obtain ⟨hBV, hzn⟩ := hZ.2.bv
  have BWz : BW (zn Z) (ZD Z) (ZW Z) (zbr Z) := hBV.bw (fun _ _ => rfl) ok
  have hn5 := BWz.1
  obtain ⟨z1, z3, z4, z5, z8, zm, zd, zD, zW, zc, zf⟩ := hZ.2
  have bk := A3.1
  have hr1 : 0 ≤ r ∧ r ≤ 1 := by omega
  obtain ⟨fX, ⟨x5, x6, x7, x8⟩, ⟨xa, xb, xc⟩, xd, xe, ⟨xf, xg, xh⟩, xi, xj, xk, xl⟩ := X4
  obtain ⟨fM, yB, ⟨y5, y6, y7⟩, yG, ⟨ya, yb, yc, yd⟩, ye⟩ := Y2
  obtain ⟨⟨p0, p1, p2, p3, p4⟩, p5, p6, p7, p8, p9, p10⟩ := X1
  obtain ⟨⟨q0, q1, q2, q3, q4, q5⟩, q6, q7, q8, ⟨q9, q10⟩, q11⟩ := Y1
  -- rows of the class
  have e : ∀ a, a < 70 → m2 a = m1 a := fun a ha => (fM.1 a (by simp only [List.mem_cons, List.not_mem_nil, or_false]; omega) (by omega)).trans ((up_ne (by omega)).trans (f2.row (by omega)))
  have eb : ∀ k, k ≤ 8 → m2 (b' + k) = mE (b' + k) := fun k hk => (e _ (by omega)).trans (fX _ (by simp only [List.mem_cons, List.not_mem_nil, or_false]; omega))
  have eb0 : m2 b' = mE b' := eb 0 (by omega)
  have e0 : m2 0 = mE 0 := (e 0 (by decide)).trans (fX 0 (by decide))
  -- rows of the reference
  have e28 : m2 70 28 = r := by rw [fM.2 28 (by decide), up_at]
  have g : ∀ a, 70 < a → a ≤ 88 → m2 a = mF a := fun a h1 h2 => (fM.1 a (by simp only [List.mem_cons, List.not_mem_nil, or_false]; omega) (by omega)).trans (up_ne (by omega))
  have g70 : ∀ i : Int, i ∉ [(41 : Int), 42, 45, 46, 48, 60] → i ≠ 28 → m2 70 i = mF 70 i := fun i hi h8 => by rw [fM.2 i hi, up_row, if_neg h8]
  have s25 : ∀ i, 0 ≤ i → i < 5 → m2 25 i = if i < Z 1 then Z (20 + i) else 0 := fun i i0 i5 => by rw [e 25 (by decide), x5 i i0 i5, p7 i i0 i5]
  have s90 : ∀ i, 0 ≤ i → i < 5 → m2 90 i = if i < Z 1 then Z (20 + i) else 0 := fun i i0 i5 => by
    by_cases w : i < Z 1
    · rw [if_pos w, y5 i ⟨i0, by omega⟩, up_row, if_pos rfl, up_ne (by decide)]; exact (q6 i i0 w).2
    · rw [if_neg w]; exact y6 i i0 (by omega) (fun hh => w (by have := hh.2; omega))
  have t5 : m2 25 5 = 0 := by rw [e 25 (by decide)]; exact x6
  have t6 : m2 25 6 = 0 := by rw [e 25 (by decide)]; exact x7
  have t7 : m2 25 7 = Z 4 := by rw [e 25 (by decide), x8]; exact p3
  have u5 : m2 90 5 = 0 := y6 5 (by decide) (by decide) (fun hh => by have := hh.2; omega)
  have u6 : m2 90 6 = 0 := y6 6 (by decide) (by decide) (fun hh => by have := hh.2; omega)
  have u7 : m2 90 7 = Z 4 := by rw [y7, up_row, if_pos rfl, up_ne (by decide)]; exact q3
  have sI : ∀ i, In (zn Z) i → m2 25 i = Z (20 + i) := fun i hi => by rw [s25 i hi.1 (by have := hi.2; omega), if_pos (by have := hi.2; omega)]
  have hS : StO (zn Z) (c + 1) (m2 25) := by
    refine ⟨fun i hi => by rw [sI i hi]; exact (zm i hi.1 (by have := hi.2; omega)).2.1, ?_, by rw [t5]; omega, by rw [t6]; omega, by rw [t7]; omega, fun i q i0 i5 => ?_⟩
    · have a := sm_bound (k := zn Z) (f := m2 25) (M := 99) (fun i hi => by
        have := zm i hi.1 (by have := hi.2; omega)
        rw [sI i hi]; omega)
      omega
    · rw [s25 i i0 i5, if_neg (fun w => q ⟨i0, by omega⟩)]
  have s29 : ∀ i, 0 ≤ i → i < 8 → m2 29 i = m2 25 i := fun i i0 i8 => by rw [e 29 (by decide), e 25 (by decide)]; exact xc i i0 i8
  refine ⟨zn Z, ZD Z, ZW Z, zbr Z, b', b, cs, Z 3, fun i => Z (20 + i), ⟨BWz, ⟨hb', by rw [e0]; exact k1.2.2.2.1, ?_⟩, yB, ⟨by rw [e0]; exact k1.2.2.2.2, hb, Ne.symm A4.2.2⟩, ?_⟩, ?_, ?_, ?_, ?_, ?_, ?_⟩
  · unfold BX
    rw [eb0, eb 3 (by omega), eb 4 (by omega), eb 2 (by omega)]
    exact X2
  · rw [eb 5 (by omega)]; exact X3
  · have hbt : bt (m2 78 (m2 70 28)) 0 = Z 5 := by
      rw [e28, g 78 (by decide) (by decide), q5]
      exact bt_zero z5.1 z5.2.1 z5.2.2
    refine ⟨?_, ?_, ?_, ?_, ?_, ?_, ?_⟩
    · unfold CF
      rw [eb 6 (by omega), eb 7 (by omega)]
      exact p10
    · by_cases w : Z 5 = 0
      · exact Or.inl (zc w).2
      · exact Or.inr (zf w)
    · unfold MT
      rw [hbt]
      by_cases w : Z 5 = 0
      · exact Or.inr ⟨by omega, (zc w).2⟩
      · have w1 : Z 5 = 1 := by omega
        refine Or.inl ⟨w1, zf w, ?_⟩
        have hl := p10.2.1
        unfold MF
        rw [e28, g 82 (by decide) (by decide), g 83 (by decide) (by decide), g 85 (by decide) (by decide), g 86 (by decide) (by decide), (q11 w).1, (q11 w).2]
        exact ⟨hr1, by omega, rfl, by omega, q10⟩
    · rw [eb0, e28, g 76 (by decide) (by decide)]
      exact ⟨p2, q2, z3⟩
    · rw [eb0, e28, g 74 (by decide) (by decide), p1, q1]
    · rw [eb0, e28, g 75 (by decide) (by decide), p4, q4]
    · rw [hbt, e28, g 82 (by decide) (by decide)]
      exact fun w => (q11 (by omega)).1
  · unfold IvC KyX
    rw [e0, k1.1, k1.2.1, k1.2.2.1, g70 4 (by decide) (by decide), g70 5 (by decide) (by decide), g70 2 (by decide) (by decide), k2.1, k2.2.1, k2.2.2, e 4 (by decide), fX 4 (by decide), f1.row (a := 4) (by decide) (by decide) (by decide) (by decide) (by omega)]
    exact ⟨⟨rfl, rfl⟩, ⟨rfl, by decide, by decide⟩, fun t t0 t1 => absurd t1 (by omega), hC.2.2.2⟩
  · refine ⟨fun i i0 i8 => ?_, hS, ?_, fun j j0 j1 => ?_, fun x x0 x3 => ?_⟩
    · by_cases w : i < 5
      · rw [s25 i i0 w, s90 i i0 w]
      · have w2 : i = 5 ∨ i = 6 ∨ i = 7 := by omega
        rcases w2 with rfl | rfl | rfl
        · rw [t5, u5]
        · rw [t6, u6]
        · rw [t7, u7]
    · unfold AR
      rw [e 28 (by decide), xa, xb, ya, yb]
      exact ⟨by decide, fun i i0 i8 => by rw [Int.mul_zero, Int.zero_add]; exact s29 i i0 i8, fun k k0 k1 => absurd k1 (by omega), fun k k0 k1 => absurd k1 (by omega)⟩
    · rw [e 28 (by decide), xb] at j1
      have j2 : j = 0 := by omega
      rw [j2]
      exact hS.congr hn5 (fun i i0 i8 => by show m2 25 i = m2 29 (8 * 0 + i); rw [Int.mul_zero, Int.zero_add, s29 i i0 i8])
    · rw [e 31 (by decide), xd x x0 x3, ye x x0 x3]
      exact ⟨Iff.rfl, fun w => absurd rfl w⟩
  · unfold IvE
    rw [e 67 (by decide), xe, yd]
    exact ⟨⟨rfl, by decide, by decide⟩, fun i i0 i1 => absurd i1 (by omega)⟩
  · have hh : ∀ i, In (zn Z) i → 0 ≤ Z (20 + i) ∧ Z (20 + i) ≤ 99 := fun i hi => (zm i hi.1 (by have := hi.2; omega)).2
    refine ⟨⟨fun i hi => ?_, hh, fun w => ?_, ?_⟩, ⟨fun i hi => ?_, hh, ?_⟩, ?_, ?_, fun i i0 i1 => ?_⟩
    · rw [eb 1 (by omega), p7 i hi.1 (by have := hi.2; omega), if_pos (by have := hi.2; omega)]
    · rw [e 55 (by decide)] at w; exact absurd xf w
    · rw [e 55 (by decide), xg]; exact ⟨by decide, fun i i0 i1 => absurd i1 (by omega)⟩
    · rw [e28, g 79 (by decide) (by decide)]; exact (q6 i hi.1 (by have := hi.2; omega)).2
    · rw [yc]; exact ⟨by decide, fun i i0 i1 => absurd i1 (by omega)⟩
    · rw [e 55 (by decide), xg, yc]
    · rw [e 55 (by decide), xh 11 (by decide) (by decide), g70 61 (by decide) (by decide), f2.fld (by decide), fX 70 (by decide), f1.row (a := 55) (by decide) (by decide) (by decide) (by decide) (by omega), f1.row (a := 70) (by decide) (by decide) (by decide) (by decide) (by omega)]
      exact hF.2.2.2.1
    · rw [e 55 (by decide), xg] at i1; exact absurd i1 (by omega)
  · unfold IvG GL PtR LvC
    rw [e 38 (by decide), e 39 (by decide), e 40 (by decide), e 44 (by decide), e 45 (by decide)]
    exact ⟨xj, xk, xl, fun w => absurd xi w, yG⟩
end TableL
section Law7
variable {l : Launch} {G : GT} {m : MM} {Q : Option MV → MM → Nat → Prop}
theorem l_table (hG : GVok G) {x3 c : Int} (hI : Inv c m) (hc : 0 ≤ c ∧ c ≤ 511) (L : ∀ m1, Inv (c + 1) m1 → Wq l G true Y_Law 400 Q 1542 [(0, .inr (.inr 1000)), (1, .inr (.inr 0)), (2, .inr (.inr 70)), (3, .inl x3)] [] m1) : Wq l G true Y_Law 400 Q 350 [(0, .inr (.inr 1000)), (1, .inr (.inr 0)), (2, .inr (.inr 70)), (3, .inl x3)] [] m := by
  obtain ⟨n, D, W, br, b, b', fs, lk, hd, hI⟩ := hI
  obtain ⟨A1, A2, A3, A4, A5⟩ := hI.1
  obtain ⟨⟨c1, c2⟩, ⟨c3, c4, c5⟩, c6, c7⟩ := hI.2.2.1
  have hTT : ∀ t, 0 ≤ t → t < m 0 1 → m 1 t = m 1 t ∧ 0 ≤ m 1 t ∧ m 1 t ≤ 255 := fun t t0 t1 => by
    have := c6 t t0 t1
    omega
  have nb' : 7 ≤ b' ∧ b' + 8 ≤ 24 := by rcases A4.2.1 with rfl | rfl <;> decide
  refine s_Law_350 x3 (fun _ _ => ⟨58, _, by decide, c_tableX (d := 0) (T := m 1) (N := m 0 1) hG ⟨A2.2.1, A2.1⟩ ⟨A4.1, A4.2.1⟩ c7 ⟨rfl, c4, c5⟩ hTT, fun z m1 h1 _ w1 => ?_⟩)
  have by1 : ∀ t, -128 ≤ m1 71 t ∧ m1 71 t < 128 := fun t => w1 71 t
  have cM : ∀ {R' : Rz}, m1 70 = m 70 → m1 71 = m 71 → TaR (m 1) (m 0 1) R' → CI l G Y_M_table (0 + 7) [.inr (.inr 70)] m1 (PtM (m 0 1) (1 - m 70 28) R' m1) := fun {R'} e70 e71 hR => by
    have bk := A3.1
    refine c_tableM (T := m 1) (N := m 0 1) (r := 1 - m 70 28) ⟨by rw [e70]; exact c3.symm, c4, c5⟩ ⟨by rw [e70], by omega, by omega⟩ (fun t t0 t1 => ?_) (fun t _ _ => by1 t) hR
    rw [bAnd_255, e71]; exact (c6 t t0 t1).symm
  rcases h1 with ⟨f, hR, ez, k1, k2, k3, k4, k5, f1⟩ | ⟨Z, cs, hR, ez, hZ, ok, mE, f1, k1, k2, k3, k4, k5, X1, X2, X3, X4⟩
  · have e70 : m1 70 = m 70 := f1.row (by decide) (by decide) (by decide) (by decide) (by omega)
    have e71 : m1 71 = m 71 := f1.row (by decide) (by decide) (by decide) (by decide) (by omega)
    refine ⟨7, _, by decide, cM e70 e71 hR, fun z2 m2 h2 _ _ => ?_⟩
    rcases h2 with ⟨f', ef, ez2, j1, j2, j3, f2⟩ | ⟨Z, cs, ef, -⟩
    · cases ef
      have I2 := hI.bad rfl ⟨k1, k2, k3, k4, k5⟩ f1 ⟨j1, j2, j3⟩ f2
      exact ⟨fun _ => L _ I2, fun q => q (by rw [ez, ez2])⟩
    · cases ef
  · have e70 : m1 70 = m 70 := (X4.1 70 (by decide)).trans (f1.row (by decide) (by decide) (by decide) (by decide) (by omega))
    have e71 : m1 71 = m 71 := (X4.1 71 (by decide)).trans (f1.row (by decide) (by decide) (by decide) (by decide) (by omega))
    refine ⟨7, _, by decide, cM e70 e71 hR, fun z2 m2 h2 _ _ => ?_⟩
    rcases h2 with ⟨f', ef, -⟩ | ⟨Z', cs', ef, ez2, hZ2, ok2, mF, f2, j1, j2, j3, Y1, Y2⟩
    · cases ef
    · cases ef
      have I2 := hI.good hc.1 rfl hZ ok f1 ⟨k1, k2, k3, k4, k5⟩ X1 X2 X3 X4 f2 ⟨j1, j2, j3⟩ Y1 Y2
      exact ⟨fun _ => L _ I2, fun q => q (by rw [ez, ez2])⟩
end Law7
