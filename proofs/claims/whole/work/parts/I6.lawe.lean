/-! the law, call by call: sights and tape -/
section Keep6
variable {m m1 m2 : MM} {n : Nat} {D : Int → Int} {W : Int → Int → Int} {br hd : Int → Int} {b b' : Nat} {fs : List Int} {lk c : Int}
theorem IvF.untold {x T : Int} (h : IvF n D W br hd b m) (hb : isB b) (hT : 0 ≤ T) (e : ∀ a, a ≠ 60 → a ≠ 107 → m2 a = m a) (e60 : ∀ i, m2 60 i = if i = x then T else m 60 i) (e07 : ∀ i, m2 107 i = if i = x then T else m 107 i) : IvF n D W br hd b m2 := by
  have hb : b = 7 ∨ b = 16 := hb
  obtain ⟨⟨g1, g2, g3, g4a, g4⟩, ⟨g5, g6, g7a, g7⟩, g8, g9, g10⟩ := h
  unfold IvF SgX SgM
  rw [e (b + 1) (by omega) (by omega), e 55 (by decide) (by decide), e 56 (by decide) (by decide), e 57 (by decide) (by decide), e 58 (by decide) (by decide), e 59 (by decide) (by decide), e 61 (by decide) (by decide), e 79 (by decide) (by decide), e 103 (by decide) (by decide), e 104 (by decide) (by decide), e 105 (by decide) (by decide), e 106 (by decide) (by decide), e 70 (by decide) (by decide)]
  refine ⟨⟨g1, g2, g3, g4a, fun i i0 i1 => ⟨(g4 i i0 i1).1, (g4 i i0 i1).2.1, ?_⟩⟩, ⟨g5, g6, g7a, fun i i0 i1 => ⟨(g7 i i0 i1).1, (g7 i i0 i1).2.1, ?_⟩⟩, g8, g9, fun i i0 i1 => ?_⟩
  · rw [e60 i]
    have := (g4 i i0 i1).2.2
    split <;> omega
  · rw [e07 i]
    have := (g7 i i0 i1).2.2
    split <;> omega
  · obtain ⟨s1, s2, s3, s4, s5⟩ := g10 i i0 i1
    refine ⟨s1, s2, s3, s4, ?_⟩
    rw [e60 i, e07 i, s5]
theorem IvF.late {T : Int} (h : IvF n D W br hd b m) (hb : isB b) (hT : 0 ≤ T ∧ T ≤ 100000) (e : ∀ a, a ≠ 55 → a ≠ 70 → m2 a = m a) (e55 : ∀ i, m2 55 i = if i = 11 then T else m 55 i) (e70 : ∀ i, m2 70 i = if i = 61 then T else m 70 i) : IvF n D W br hd b m2 := by
  have hb : b = 7 ∨ b = 16 := hb
  obtain ⟨g1, g5, g8, g9, g10⟩ := h
  unfold IvF SgX SgM
  rw [e (b + 1) (by omega) (by omega), e55 10, e55 9, e55 11, e 56 (by decide) (by decide), e 57 (by decide) (by decide), e 58 (by decide) (by decide), e 59 (by decide) (by decide), e 60 (by decide) (by decide), e 61 (by decide) (by decide), e 79 (by decide) (by decide), e 103 (by decide) (by decide), e 104 (by decide) (by decide), e 105 (by decide) (by decide), e 106 (by decide) (by decide), e 107 (by decide) (by decide), e70 28, e70 60, e70 61]
  exact ⟨g1, g5, g8, ⟨rfl, hT⟩, g10⟩
theorem Ivp.seen1 {x y w z : Int} (h : Ivp n D W br b b' fs lk hd c m) (h1 : (In n x ∧ (0 ≤ y ∧ y ≤ 99) ∧ m 55 10 < 30 → z = m 55 10 ∧ Fro 55 [56, 57, 58, 59, 60] [10] m m1 ∧ m1 55 10 = m 55 10 + 1 ∧ m1 56 = upS (m 56) (m 55 10) x ∧ m1 57 = upS (m 57) (m 55 10) y ∧ m1 58 = upS (m 58) (m 55 10) w ∧ m1 59 = upS (m 59) (m 55 10) (m 55 11) ∧ m1 60 = upS (m 60) (m 55 10) (-1)) ∧ (¬ (In n x ∧ (0 ≤ y ∧ y ≤ 99) ∧ m 55 10 < 30) → z = -1 ∧ m = m1)) : BM n D W br m1 ∧ 0 ≤ m1 70 60 ∧ m1 70 60 ≤ 30 := by
  have k := h.2.2.2.2.2.1.2.1.2.2.1
  by_cases q : In n x ∧ (0 ≤ y ∧ y ≤ 99) ∧ m 55 10 < 30
  · obtain ⟨-, f, -⟩ := h1.1 q
    have hb := h.1.2.1.1
    have hA := h.1.fr (m' := m1) (fun a ha => f.1 a (by simp only [List.mem_cons, List.not_mem_nil, or_false]; omega) (by omega)) (by rw [f.1 70 (by decide) (by decide)])
    exact ⟨hA.2.2.1, by rw [f.1 70 (by decide) (by decide)]; exact k⟩
  · obtain ⟨-, rfl⟩ := h1.2 q
    exact ⟨h.1.2.2.1, k⟩
theorem Ivp.seen2 {x y w z z2 : Int} (hw : w = 0 ∨ w = 1) (h : Ivp n D W br b b' fs lk hd c m) (h1 : (In n x ∧ (0 ≤ y ∧ y ≤ 99) ∧ m 55 10 < 30 → z = m 55 10 ∧ Fro 55 [56, 57, 58, 59, 60] [10] m m1 ∧ m1 55 10 = m 55 10 + 1 ∧ m1 56 = upS (m 56) (m 55 10) x ∧ m1 57 = upS (m 57) (m 55 10) y ∧ m1 58 = upS (m 58) (m 55 10) w ∧ m1 59 = upS (m 59) (m 55 10) (m 55 11) ∧ m1 60 = upS (m 60) (m 55 10) (-1)) ∧ (¬ (In n x ∧ (0 ≤ y ∧ y ≤ 99) ∧ m 55 10 < 30) → z = -1 ∧ m = m1)) (h2 : (In n x ∧ (0 ≤ y ∧ y ≤ 99) ∧ m1 70 60 < 30 → z2 = m1 70 60 ∧ Fro 70 [103, 104, 105, 106, 107] [60] m1 m2 ∧ m2 70 60 = m1 70 60 + 1 ∧ m2 103 = upS (m1 103) (m1 70 60) x ∧ m2 104 = upS (m1 104) (m1 70 60) y ∧ m2 105 = upS (m1 105) (m1 70 60) w ∧ m2 106 = upS (m1 106) (m1 70 60) (m1 70 61) ∧ m2 107 = upS (m1 107) (m1 70 60) (-1)) ∧ (¬ (In n x ∧ (0 ≤ y ∧ y ≤ 99) ∧ m1 70 60 < 30) → z2 = -1 ∧ m1 = m2)) : z = z2 ∧ Inv (c + 1) m2 := by
  have hF := h.2.2.2.2.2.1
  have hb := h.1.2.1.1
  have hb2 : b = 7 ∨ b = 16 := hb
  obtain ⟨⟨g1, g2, g3, g4a, g4⟩, ⟨g5, g6, g7a, g7⟩, g8, g9, g10⟩ := hF
  by_cases q : In n x ∧ (0 ≤ y ∧ y ≤ 99) ∧ m 55 10 < 30
  · obtain ⟨ez, f1, x0, x1, x2, x3, x4, x5⟩ := h1.1 q
    have w70 : m1 70 = m 70 := f1.1 70 (by decide) (by decide)
    obtain ⟨ez2, f2, y0, y1, y2, y3, y4, y5⟩ := h2.1 ⟨q.1, q.2.1, by rw [w70, ← g8]; exact q.2.2⟩
    rw [w70, ← g8] at y0 y1 y2 y3 y4 y5 ez2
    rw [← g9.1] at y4
    rw [f1.1 103 (by decide) (by decide)] at y1
    rw [f1.1 104 (by decide) (by decide)] at y2
    rw [f1.1 105 (by decide) (by decide)] at y3
    rw [f1.1 106 (by decide) (by decide)] at y4
    rw [f1.1 107 (by decide) (by decide)] at y5
    have e : ∀ a, (a < 55 ∨ (60 < a ∧ a < 103) ∨ 107 < a) → a ≠ 70 → m2 a = m a := fun a r1 r2 => (f2.1 a (by simp only [List.mem_cons, List.not_mem_nil, or_false]; omega) r2).trans (f1.1 a (by simp only [List.mem_cons, List.not_mem_nil, or_false]; omega) (by omega))
    have e70 : ∀ i : Int, i ≠ 60 → m2 70 i = m 70 i := fun i r => by rw [f2.2 i (by simp only [List.mem_cons, List.not_mem_nil, or_false]; omega), w70]
    have e55 : m2 55 = m1 55 := f2.1 55 (by decide) (by decide)
    have e56 : m2 56 = m1 56 := f2.1 56 (by decide) (by decide)
    have e57 : m2 57 = m1 57 := f2.1 57 (by decide) (by decide)
    have e58 : m2 58 = m1 58 := f2.1 58 (by decide) (by decide)
    have e59 : m2 59 = m1 59 := f2.1 59 (by decide) (by decide)
    have e60 : m2 60 = m1 60 := f2.1 60 (by decide) (by decide)
    refine ⟨by rw [ez, ez2], h.f2 e (fun i r _ => e70 i r) ?_⟩
    unfold IvF SgX SgM
    rw [e (b + 1) (by omega) (by omega), e55, e56, e57, e58, e59, e60, f1.2 9 (by decide), f1.2 11 (by decide), e 61 (by decide) (by decide), e 79 (by decide) (by decide), e70 28 (by decide), e70 61 (by decide), x0, x1, x2, x3, x4, x5, y0, y1, y2, y3, y4, y5]
    generalize hk : m 55 10 = k at *
    have sg : ∀ {P I U : Int → Int}, (∀ i, 0 ≤ i → i < k → In n (P i) ∧ (I i = 0 ∨ I i = 1) ∧ -1 ≤ U i) → SgW n (k + 1) (upS P k x) (upS I k w) (upS U k (-1)) := fun {P I U} hq => ⟨by omega, fun i i0 i1 => by
      unfold upS
      by_cases r : i = k
      · rw [if_pos r, if_pos r, if_pos r]; exact ⟨q.1, hw, by decide⟩
      · rw [if_neg r, if_neg r, if_neg r]; exact hq i i0 (by omega)⟩
    refine ⟨⟨g1, g2, g3, sg g4⟩, ⟨g5, g6, sg (by rw [g8]; exact g7)⟩, rfl, g9, fun i i0 i1 => ?_⟩
    unfold upS
    by_cases r : i = k
    · simp only [if_pos r, and_self]
    · simp only [if_neg r]
      exact g10 i i0 (by omega)
  · obtain ⟨ez, rfl⟩ := h1.2 q
    obtain ⟨ez2, rfl⟩ := h2.2 (by rw [← g8]; exact q)
    exact ⟨by rw [ez, ez2], h.up1⟩
end Keep6
section Law6
variable {l : Launch} {G : GT} {m : MM} {Q : Option MV → MM → Nat → Prop}
theorem l_untell {x3 c : Int} (hx : 0 ≤ x3 ∧ x3 + 6 ≤ (g_L G : Int)) (hL : g_L G ≤ 3072) (hI : Inv c m) (hc : 0 ≤ c ∧ c ≤ 511) (L : ∀ m1, Inv (c + 1) m1 → Wq l G true Y_Law 400 Q 1542 [(0, .inr (.inr 1000)), (1, .inr (.inr 0)), (2, .inr (.inr 70)), (3, .inl x3)] [] m1) : Wq l G true Y_Law 400 Q 1338 [(0, .inr (.inr 1000)), (1, .inr (.inr 0)), (2, .inr (.inr 70)), (3, .inl x3)] [] m := by
  obtain ⟨n, D, W, br, b, b', fs, lk, hd, hI⟩ := hI
  have B := hI.1.1
  have X := hI.1.2.1
  have hn5 := B.1
  obtain ⟨hE, hS, hAR, hJ, hBox⟩ := hI.2.2.2.1
  have hg := hS.1
  have hN := hS.2.1
  have hEn : ∀ i, In n i → m 25 i = m 90 i := fun i hi => hE i hi.1 (by have := hi.2; omega)
  obtain ⟨⟨g1, g2, g3, g4a, g4⟩, ⟨g5, g6, g7a, g7⟩, g8, g9, g10⟩ := hI.2.2.2.2.2.1
  refine s_Law_1338 x3 (fun _ _ => ⟨by unfold inR; omega, by omega, 1, _, by decide, c_untellX (d := 0) (by omega), fun z m1 h1 _ _ => ?_⟩)
  by_cases q : 0 ≤ (g_x G ((x3 + 1)).toNat) ∧ (g_x G ((x3 + 1)).toNat) < m 55 10 ∧ m 60 (g_x G ((x3 + 1)).toNat) = -1
  · obtain ⟨e1, rfl⟩ := h1.1 q
    have e70 : (up m 60 (g_x G ((x3 + 1)).toNat) (m 55 11)) 70 = m 70 := up_ne (by decide)
    refine ⟨by unfold inR; omega, by omega, 1, _, by decide, c_untellM (d := 0) (by rw [e70]; exact g7a), fun z2 m2 h2 _ _ => ?_⟩
    obtain ⟨e2, rfl⟩ := h2.1 ⟨q.1, by rw [e70, ← g8]; exact q.2.1, by rw [up_ne (by decide)]; have s5 := (g10 _ q.1 q.2.1).2.2.2.2; rw [← s5]; omega⟩
    have I2 := hI.f2 (m2 := up (up m 60 (g_x G ((x3 + 1)).toNat) (m 55 11)) 107 (g_x G ((x3 + 1)).toNat) ((up m 60 (g_x G ((x3 + 1)).toNat) (m 55 11)) 70 61)) (fun a r1 r2 => by rw [up_ne (by omega), up_ne (by omega)]) (fun i _ _ => by rw [up_ne (by decide), up_ne (by decide)]) (hI.2.2.2.2.2.1.untold X.1 (x := (g_x G ((x3 + 1)).toNat)) g9.2.1 (fun a r1 r2 => by rw [up_ne r2, up_ne r1]) (fun i => by rw [up_ne (by decide), up_row]) (fun i => by rw [up_row, e70, ← g9.1, up_ne (by decide)]))
    refine ⟨fun _ => L _ I2, fun r => r ?_⟩
    rw [e1, e2]
  · obtain ⟨e1, rfl⟩ := h1.2 q
    refine ⟨by unfold inR; omega, by omega, 1, _, by decide, c_untellM (d := 0) g7a, fun z2 m2 h2 _ _ => ?_⟩
    obtain ⟨e2, rfl⟩ := h2.2 (fun r => q ⟨r.1, by rw [g8]; exact r.2.1, by have i1 := r.2.1; rw [← g8] at i1; have s5 := (g10 _ r.1 i1).2.2.2.2; have s6 := (g4 _ r.1 i1).2.2; have s7 := r.2.2; omega⟩)
    exact ⟨fun _ => L _ hI.up1, fun r => r (by rw [e1, e2])⟩
theorem l_later {x3 c : Int} (hx : 0 ≤ x3 ∧ x3 + 6 ≤ (g_L G : Int)) (hL : g_L G ≤ 3072) (hI : Inv c m) (hc : 0 ≤ c ∧ c ≤ 511) (L : ∀ m1, Inv (c + 1) m1 → Wq l G true Y_Law 400 Q 1542 [(0, .inr (.inr 1000)), (1, .inr (.inr 0)), (2, .inr (.inr 70)), (3, .inl x3)] [] m1) : Wq l G true Y_Law 400 Q 1361 [(0, .inr (.inr 1000)), (1, .inr (.inr 0)), (2, .inr (.inr 70)), (3, .inl x3)] [] m := by
  obtain ⟨n, D, W, br, b, b', fs, lk, hd, hI⟩ := hI
  have B := hI.1.1
  have X := hI.1.2.1
  have hn5 := B.1
  obtain ⟨hE, hS, hAR, hJ, hBox⟩ := hI.2.2.2.1
  have hg := hS.1
  have hN := hS.2.1
  have hEn : ∀ i, In n i → m 25 i = m 90 i := fun i hi => hE i hi.1 (by have := hi.2; omega)
  obtain ⟨⟨g1, g2, g3, g4a, g4⟩, ⟨g5, g6, g7a, g7⟩, g8, g9, g10⟩ := hI.2.2.2.2.2.1
  refine s_Law_1361 x3 (fun _ _ => ⟨by unfold inR; omega, by omega, 1, _, by decide, c_laterX (d := 0) g9.2, fun z m1 h1 _ _ => ?_⟩)
  by_cases q : 0 ≤ (g_x G ((x3 + 1)).toNat) ∧ (g_x G ((x3 + 1)).toNat) ≤ 1000 ∧ m 55 11 + (g_x G ((x3 + 1)).toNat) ≤ 100000
  · obtain ⟨e1, rfl⟩ := h1.1 q
    have e70 : (up m 55 11 (m 55 11 + (g_x G ((x3 + 1)).toNat))) 70 = m 70 := up_ne (by decide)
    refine ⟨by unfold inR; omega, by omega, 1, _, by decide, c_laterM (d := 0) (by rw [e70, ← g9.1]; exact g9.2), fun z2 m2 h2 _ _ => ?_⟩
    obtain ⟨e2, rfl⟩ := h2.1 (by rw [e70, ← g9.1]; exact q)
    have I2 := hI.f2 (m2 := up (up m 55 11 (m 55 11 + (g_x G ((x3 + 1)).toNat))) 70 61 ((up m 55 11 (m 55 11 + (g_x G ((x3 + 1)).toNat))) 70 61 + (g_x G ((x3 + 1)).toNat))) (fun a r1 r2 => by rw [up_ne (by omega), up_ne (by omega)]) (fun i _ r => by rw [up_row, if_neg r, up_ne (by decide)]) (hI.2.2.2.2.2.1.late X.1 (T := m 55 11 + (g_x G ((x3 + 1)).toNat)) (by omega) (fun a r1 r2 => by rw [up_ne r2, up_ne r1]) (fun i => by rw [up_ne (by decide), up_row]) (fun i => by rw [up_row, e70, ← g9.1]))
    refine ⟨fun _ => L _ I2, fun r => r ?_⟩
    rw [e1, e2, e70, ← g9.1]
  · obtain ⟨e1, rfl⟩ := h1.2 q
    refine ⟨by unfold inR; omega, by omega, 1, _, by decide, c_laterM (d := 0) (by rw [← g9.1]; exact g9.2), fun z2 m2 h2 _ _ => ?_⟩
    obtain ⟨e2, rfl⟩ := h2.2 (by rw [← g9.1]; exact q)
    exact ⟨fun _ => L _ hI.up1, fun r => r (by rw [e1, e2])⟩
theorem l_seen {x3 c : Int} (hx : 0 ≤ x3 ∧ x3 + 6 ≤ (g_L G : Int)) (hL : g_L G ≤ 3072) (hI : Inv c m) (hc : 0 ≤ c ∧ c ≤ 511) (L : ∀ m1, Inv (c + 1) m1 → Wq l G true Y_Law 400 Q 1542 [(0, .inr (.inr 1000)), (1, .inr (.inr 0)), (2, .inr (.inr 70)), (3, .inl x3)] [] m1) : Wq l G true Y_Law 400 Q 1279 [(0, .inr (.inr 1000)), (1, .inr (.inr 0)), (2, .inr (.inr 70)), (3, .inl x3)] [] m := by
  obtain ⟨n, D, W, br, b, b', fs, lk, hd, hI⟩ := hI
  have B := hI.1.1
  have X := hI.1.2.1
  have hn5 := B.1
  have k1 := hI.2.2.2.2.2.1.1.2.2.2.1
  refine s_Law_1279 x3 (fun _ _ => ⟨by unfold inR; omega, by omega, by unfold inR; omega, by omega, by unfold inR; omega, by omega, fun q => ⟨1, _, by decide, c_seenX (d := 0) X k1 (Or.inl rfl), fun z m1 h1 _ _ => ?_⟩, fun q => ⟨1, _, by decide, c_seenX (d := 0) X k1 (Or.inr rfl), fun z m1 h1 _ _ => ?_⟩⟩)
  · have hM := hI.seen1 h1
    refine ⟨by unfold inR; omega, by omega, by unfold inR; omega, by omega, by unfold inR; omega, by omega, fun _ => ⟨2, _, by decide, c_seenM (d := 0) B hM.1 hM.2 (Or.inl rfl), fun z2 m2 h2 _ _ => ?_⟩, fun r => absurd q r⟩
    have hZ := hI.seen2 (Or.inl rfl) h1 h2
    exact ⟨fun _ => L _ hZ.2, fun r => r hZ.1⟩
  · have hM := hI.seen1 h1
    refine ⟨by unfold inR; omega, by omega, by unfold inR; omega, by omega, by unfold inR; omega, by omega, fun r => absurd r q, fun _ => ⟨2, _, by decide, c_seenM (d := 0) B hM.1 hM.2 (Or.inr rfl), fun z2 m2 h2 _ _ => ?_⟩⟩
    have hZ := hI.seen2 (Or.inr rfl) h1 h2
    exact ⟨fun _ => L _ hZ.2, fun r => r hZ.1⟩
theorem l_feed {x3 c : Int} (hx : 0 ≤ x3 ∧ x3 + 6 ≤ (g_L G : Int)) (hL : g_L G ≤ 3072) (hI : Inv c m) (hc : 0 ≤ c ∧ c ≤ 511) (L : ∀ m1, Inv (c + 1) m1 → Wq l G true Y_Law 400 Q 1542 [(0, .inr (.inr 1000)), (1, .inr (.inr 0)), (2, .inr (.inr 70)), (3, .inl x3)] [] m1) : Wq l G true Y_Law 400 Q 264 [(0, .inr (.inr 1000)), (1, .inr (.inr 0)), (2, .inr (.inr 70)), (3, .inl x3)] [] m := by
  obtain ⟨n, D, W, br, b, b', fs, lk, hd, hI⟩ := hI
  have B := hI.1.1
  have X := hI.1.2.1
  have hn5 := B.1
  obtain ⟨hE, hS, hAR, hJ, hBox⟩ := hI.2.2.2.1
  have hg := hS.1
  have hN := hS.2.1
  have hEn : ∀ i, In n i → m 25 i = m 90 i := fun i hi => hE i hi.1 (by have := hi.2; omega)
  obtain ⟨⟨c1, c2⟩, ⟨c3, c4, c5⟩, c6, c7⟩ := hI.2.2.1
  refine s_Law_264 x3 (fun _ _ => ⟨by unfold inR; omega, by omega, by unfold inR; omega, by omega, by unfold inR; omega, by omega, by unfold inR; omega, by omega, by unfold inR; omega, by omega, 1, _, by decide, c_feedX (d := 0) ⟨c4, c5⟩, fun z m1 h1 _ _ => ?_⟩)
  by_cases q : m 0 1 + 20 ≤ 1600
  · obtain ⟨e1, f1, x1, x2⟩ := h1.1 q
    have e70 : m1 70 = m 70 := f1.1 70 (by decide) (by decide)
    refine ⟨by unfold inR; omega, by omega, by unfold inR; omega, by omega, by unfold inR; omega, by omega, by unfold inR; omega, by omega, by unfold inR; omega, by omega, 0, _, by decide, c_feedM (by rw [e70, ← c3]; exact ⟨c4, c5⟩), fun z2 m2 h2 _ _ => ?_⟩
    obtain ⟨e2, f2, y1, y2⟩ := h2.1 (by rw [e70, ← c3]; exact q)
    rw [e70, ← c3] at y1 y2 e2
    have e : ∀ a, a ≠ 0 → a ≠ 1 → a ≠ 71 → a ≠ 70 → m2 a = m a := fun a r1 r2 r3 r4 => (f2.1 a (by simp only [List.mem_cons, List.not_mem_nil, or_false]; omega) r4).trans (f1.1 a (by simp only [List.mem_cons, List.not_mem_nil, or_false]; omega) r1)
    have e0 : m2 0 = m1 0 := f2.1 0 (by decide) (by decide)
    have e11 : m2 1 = m1 1 := f2.1 1 (by decide) (by decide)
    have e71 : m1 71 = m 71 := f1.1 71 (by decide) (by decide)
    have w70 : ∀ i : Int, i ≠ 2 → m2 70 i = m 70 i := fun i r => by rw [f2.2 i (by simp only [List.mem_cons, List.not_mem_nil, or_false]; omega), e70]
    have hC2 : IvC m2 := by
      unfold IvC KyX
      rw [e0, e11, f1.2 3 (by decide), f1.2 4 (by decide), x1, w70 4 (by decide), w70 5 (by decide), y1, e 4 (by decide) (by decide) (by decide) (by decide)]
      refine ⟨⟨c1, c2⟩, ⟨rfl, by omega, by omega⟩, fun t t0 t1 => ?_, c7⟩
      rw [x2 t]
      by_cases r : m 0 1 ≤ t ∧ t < m 0 1 + 20
      · rw [if_pos r, (y2 t).1 r]
      · rw [if_neg r, (y2 t).2 r, e71]; exact c6 t t0 (by omega)
    have I2 := hI.c2 e (fun i r => by rw [e0, f1.2 i (by simp only [List.mem_cons, List.not_mem_nil, or_false]; omega)]) w70 hC2
    refine ⟨fun _ => L _ I2, fun r => r ?_⟩
    rw [e1, e2]
  · obtain ⟨e1, rfl⟩ := h1.2 q
    refine ⟨by unfold inR; omega, by omega, by unfold inR; omega, by omega, by unfold inR; omega, by omega, by unfold inR; omega, by omega, by unfold inR; omega, by omega, 0, _, by decide, c_feedM (by rw [← c3]; exact ⟨c4, c5⟩), fun z2 m2 h2 _ _ => ?_⟩
    obtain ⟨e2, rfl⟩ := h2.2 (by rw [← c3]; exact q)
    exact ⟨fun _ => L _ hI.up1, fun r => r (by rw [e1, e2])⟩
theorem l_end {x3 c : Int} (hx : 0 ≤ x3 ∧ x3 + 6 ≤ (g_L G : Int)) (hL : g_L G ≤ 3072) (hI : Inv c m) (hc : 0 ≤ c ∧ c ≤ 511) (L : ∀ m1, Inv (c + 1) m1 → Wq l G true Y_Law 400 Q 1542 [(0, .inr (.inr 1000)), (1, .inr (.inr 0)), (2, .inr (.inr 70)), (3, .inl x3)] [] m1) : Wq l G true Y_Law 400 Q 327 [(0, .inr (.inr 1000)), (1, .inr (.inr 0)), (2, .inr (.inr 70)), (3, .inl x3)] [] m := by
  obtain ⟨n, D, W, br, b, b', fs, lk, hd, hI⟩ := hI
  have B := hI.1.1
  have X := hI.1.2.1
  have hn5 := B.1
  obtain ⟨hE, hS, hAR, hJ, hBox⟩ := hI.2.2.2.1
  have hg := hS.1
  have hN := hS.2.1
  have hEn : ∀ i, In n i → m 25 i = m 90 i := fun i hi => hE i hi.1 (by have := hi.2; omega)
  obtain ⟨⟨c1, c2⟩, ⟨c3, c4, c5⟩, c6, c7⟩ := hI.2.2.1
  refine s_Law_327 x3 (fun _ _ => ⟨by unfold inR; omega, by omega, 0, _, by decide, c_endX, fun z m1 h1 _ _ => ?_⟩)
  by_cases q : 0 ≤ (g_x G ((x3 + 1)).toNat) ∧ (g_x G ((x3 + 1)).toNat) ≤ m 0 1
  · obtain ⟨e1, rfl⟩ := h1.1 q
    refine ⟨by unfold inR; omega, by omega, 0, _, by decide, c_endM, fun z2 m2 h2 _ _ => ?_⟩
    obtain ⟨e2, rfl⟩ := h2.1 (by rw [up_ne (by decide), ← c3]; exact q)
    have w0 : ∀ i, (up (up m 0 1 (g_x G ((x3 + 1)).toNat)) 70 2 (g_x G ((x3 + 1)).toNat)) 0 i = if i = 1 then (g_x G ((x3 + 1)).toNat) else m 0 i := fun i => by rw [up_ne (by decide), up_row]
    have w70 : ∀ i, (up (up m 0 1 (g_x G ((x3 + 1)).toNat)) 70 2 (g_x G ((x3 + 1)).toNat)) 70 i = if i = 2 then (g_x G ((x3 + 1)).toNat) else m 70 i := fun i => by rw [up_row, up_ne (by decide)]
    have wa : ∀ a, a ≠ 0 → a ≠ 70 → (up (up m 0 1 (g_x G ((x3 + 1)).toNat)) 70 2 (g_x G ((x3 + 1)).toNat)) a = m a := fun a r1 r2 => by rw [up_ne r2, up_ne r1]
    have hC2 : IvC (up (up m 0 1 (g_x G ((x3 + 1)).toNat)) 70 2 (g_x G ((x3 + 1)).toNat)) := by
      unfold IvC KyX
      rw [w0 3, w0 4, w0 1, w70 4, w70 5, w70 2, wa 1 (by decide) (by decide), wa 71 (by decide) (by decide), wa 4 (by decide) (by decide)]
      exact ⟨⟨c1, c2⟩, ⟨rfl, q.1, Int.le_trans q.2 c5⟩, fun t t0 t1 => c6 t t0 (Int.lt_of_lt_of_le t1 q.2), c7⟩
    have I2 := hI.c2 (m2 := up (up m 0 1 (g_x G ((x3 + 1)).toNat)) 70 2 (g_x G ((x3 + 1)).toNat)) (fun a r1 r2 r3 r4 => by rw [up_ne r4, up_ne r1]) (fun i r => by rw [up_ne (by decide), up_row, if_neg r]) (fun i r => by rw [up_row, if_neg r, up_ne (by decide)]) hC2
    refine ⟨fun _ => L _ I2, fun r => r ?_⟩
    rw [e1, e2]
  · obtain ⟨e1, rfl⟩ := h1.2 q
    refine ⟨by unfold inR; omega, by omega, 0, _, by decide, c_endM, fun z2 m2 h2 _ _ => ?_⟩
    obtain ⟨e2, rfl⟩ := h2.2 (by rw [← c3]; exact q)
    exact ⟨fun _ => L _ hI.up1, fun r => r (by rw [e1, e2])⟩
end Law6
