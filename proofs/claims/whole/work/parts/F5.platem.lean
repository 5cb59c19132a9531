/-! plates, chutes and drains told, by the reference -/
section LinesM2
variable {l : Launch} {G : GT} {d : Nat} {T : Int → Int} {N r q : Int} {m : MM} {Z : Int → Int} {cs : List Int} {R : Rz}
theorem HdM.put {a : Nat} {i v : Int} (h : HdM T N r q m) (ha : a ≠ 70) (hb : a ≠ 72) : HdM T N r q (up m a i v) := by
  have f : Fro 70 [a] [] m (up m a i v) := ⟨fun b hb _ => up_ne (fun e => hb (by rw [e]; simp)), fun j _ => by rw [up_ne (Ne.symm ha)]⟩
  exact ⟨h.1.fr f (by simp only [List.mem_singleton]; exact Ne.symm hb) (by simp), by rw [up_ne (Ne.symm ha)]; exact h.2.1, by rw [up_ne (Ne.symm ha)]; exact h.2.2⟩
theorem FsM.put {a : Nat} {i v : Int} (h : FsM N R m) (ha : a ≠ 70) (hb : a ≠ 72) : FsM N R (up m a i v) := by
  obtain ⟨f, h1, h2, h3⟩ := h
  refine ⟨f, h1, ?_, ?_⟩
  · unfold FtM
    rw [up_ne (Ne.symm ha)]; exact h2
  · unfold TsM tx
    rw [up_ne (Ne.symm ha), up_ne (Ne.symm hb)]
    exact h3
theorem c_readPlate (h : HdM T N r q m) (hb : BdM r Z cs m) (hz : ZC Z cs) (h5 : Z 1 < 5) (hR : plR T N Z cs q R) : CV l G Y_M_readPlate (d + 4) [.inr (.inr 70)] m (LpM T N r R m) := by
  generalize hQ : LpM T N r R m = Q
  obtain ⟨hr, hr0, hr1, hr5⟩ := h.2.2
  have b1 := hb.1.1
  have z1 := hz.1
  obtain ⟨k, hk⟩ : ∃ k : Nat, Z 1 = k := ⟨(Z 1).toNat, by omega⟩
  -- behind a fault
  have bad : ∀ mA, FsM N R mA → FrR r m mA → mA 70 29 = r → mA 73 r = Z 1 → Wq l G false Y_M_readPlate (d + 4) (QV Q) 33 [(0, .inr (.inr 70)), (1, .inl (5 * r + Z 1))] [] mA := by
    intro mA hF hfr h29 h73
    refine s_M_readPlate_33 _ (fun _ _ => ⟨by omega, fun m1 e1 => ?_⟩)
    have F1 : FsM N R m1 := by rw [e1]; exact hF.put (by decide) (by decide)
    have f1 : FrR r m m1 := hfr.tr (FrR.pt e1 (Or.inr (Or.inr (Or.inl ⟨by decide, by omega⟩))))
    have k29 : m1 70 29 = r := by rw [e1, up_ne (by decide)]; exact h29
    have k73 : m1 73 r = Z 1 := by rw [e1, up_ne (by decide)]; exact h73
    have rest : ∀ z m2, ((m1 70 4 ≠ 0 ∨ ¬ (m1 70 8 = 3 ∧ m1 70 10 = 448545973363)) → z = 0 ∧ m2 = m1) → (0 ≤ (5 * r + Z 1) ∧ (5 * r + Z 1) < (10 : Int)) ∧ (∀ m33, m33 = up m2 79 (5 * r + Z 1) z → ((0 ≤ (m33 70 29) ∧ (m33 70 29) < (2 : Int)) ∧ ((inR ((m33 73 (m33 70 29)) + 1)) ∧ ((0 ≤ (m33 70 29) ∧ (m33 70 29) < (2 : Int)) ∧ (∀ m42, m42 = up m33 73 (m33 70 29) ((m33 73 (m33 70 29)) + 1) → (Q m42)))))) := by
      intro z m2 h2
      obtain ⟨-, rfl⟩ := h2 (Or.inl F1.ne)
      refine ⟨by omega, fun m3 e3 => ?_⟩
      have j29 : m3 70 29 = r := by rw [e3, up_ne (by decide)]; exact k29
      have j73 : m3 73 r = Z 1 := by rw [e3, up_ne (by decide)]; exact k73
      rw [j29, j73]
      refine ⟨by omega, by unfold inR; omega, by omega, fun m4 e4 => ?_⟩
      rw [← hQ]
      refine ⟨f1.tr (FrR.tr (FrR.pt e3 (Or.inr (Or.inr (Or.inl ⟨by decide, by omega⟩)))) (FrR.pt e4 (Or.inr (Or.inl ⟨by decide, rfl⟩)))), Or.inl ?_⟩
      rw [e4, e3]
      exact (F1.put (by decide) (by decide)).put (by decide) (by decide)
    refine ⟨fun _ => ⟨d + 2, _, by omega, c_must F1.ts, fun m2 h2 _ => ?_⟩, fun _ => ⟨d + 2, _, by omega, c_must F1.ts, fun m2 h2 _ => ?_⟩⟩
    · have e2 := h2.1 F1.ne
      subst e2
      exact ⟨d + 3, _, by omega, c_perhaps F1.ts, fun z m3 h3 _ _ => rest z m3 h3.1⟩
    · have e2 := h2.1 F1.ne
      subst e2
      exact ⟨d + 3, _, by omega, c_perhaps F1.ts, fun z m3 h3 _ _ => rest z m3 h3.1⟩
  refine e_M_readPlate (fun _ => ?_)
  rw [hr, b1]
  refine ⟨by unfold inR; omega, by omega, by unfold inR; omega, d, _, by omega, c_plateHere ⟨hr, hr0, hr1⟩ ⟨by rw [b1, hk], by omega⟩, fun y m1 hy _ _ => ?_⟩
  obtain ⟨hy, rfl⟩ := hy
  have h8 := h.1.name
  refine ⟨fun cy => ?_, fun cy => ⟨d, _, by omega, c_failsM2, fun m1 h1 _ => ?_⟩⟩
  · -- no plate of that name
    have nof : kd T N q = 2 → ∀ i, 0 ≤ i → i < Z 1 → Z (10 + i) ≠ vl T N q := fun e i i0 i1 g => by
      rcases hy with ⟨-, b⟩ | ⟨a, -⟩
      · refine b i ⟨i0, by omega⟩ ⟨h8.1.mpr e, ?_⟩
        rw [(hb.2.1 i i0 i1).1, h8.2 e]; exact g
      · have := a.1; omega
    refine s_M_readPlate_33 _ (fun _ _ => ⟨by omega, fun m1 e1 => ?_⟩)
    have H1 : HdM T N r q m1 := by rw [e1]; exact h.put (by decide) (by decide)
    have f1 : FrR r m m1 := by rw [e1]; exact FrR.put (Or.inr (Or.inr (Or.inl ⟨by decide, by omega⟩)))
    have k29 : m1 70 29 = r := H1.2.2.1
    have k73 : m1 73 r = Z 1 := by rw [e1, up_ne (by decide)]; exact b1
    have k8 : m1 70 8 = m 70 8 := by rw [e1, up_ne (by decide)]
    -- the last steps of a fault
    have restF : ∀ mB z m2, FsM N R mB → FrR r m mB → mB 70 29 = r → mB 73 r = Z 1 → m2 = mB → (0 ≤ (5 * r + Z 1) ∧ (5 * r + Z 1) < (10 : Int)) ∧ (∀ m33, m33 = up m2 79 (5 * r + Z 1) z → ((0 ≤ (m33 70 29) ∧ (m33 70 29) < (2 : Int)) ∧ ((inR ((m33 73 (m33 70 29)) + 1)) ∧ ((0 ≤ (m33 70 29) ∧ (m33 70 29) < (2 : Int)) ∧ (∀ m42, m42 = up m33 73 (m33 70 29) ((m33 73 (m33 70 29)) + 1) → (Q m42)))))) := by
      intro mB z m2 FB fB i29 i73 e2
      subst e2
      refine ⟨by omega, fun m3 e3 => ?_⟩
      have j29 : m3 70 29 = r := by rw [e3, up_ne (by decide)]; exact i29
      have j73 : m3 73 r = Z 1 := by rw [e3, up_ne (by decide)]; exact i73
      rw [j29, j73]
      refine ⟨by omega, by unfold inR; omega, by omega, fun m4 e4 => ?_⟩
      rw [← hQ]
      refine ⟨fB.tr (FrR.tr (FrR.pt e3 (Or.inr (Or.inr (Or.inl ⟨by decide, by omega⟩)))) (FrR.pt e4 (Or.inr (Or.inl ⟨by decide, rfl⟩)))), Or.inl ?_⟩
      rw [e4, e3]
      exact (FB.put (by decide) (by decide)).put (by decide) (by decide)
    refine ⟨fun c8 => ⟨d + 2, _, by omega, c_must H1.1.ts, fun m2 h2 _ => ?_⟩, fun c8 => ⟨d + 2, _, by omega, c_must H1.1.ts, fun m2 h2 _ => ?_⟩⟩
    · have n2 : kd T N q ≠ 2 := fun e => c8 (by rw [k8]; exact h8.1.mpr e)
      have hR2 : R = .inl (bdF T N q) := by
        rcases hR with ⟨-, g⟩ | ⟨g, -⟩ | ⟨g, -⟩
        · exact g
        · exact absurd g n2
        · exact absurd g n2
      obtain ⟨g1, g2⟩ := H1.mis ((h2.2 H1.2.1).1 rfl) hR2
      have f2 : FrR r m m2 := f1.tr (FrR.of g2 (by decide))
      exact ⟨d + 3, _, by omega, c_perhaps g1.ts, fun z m3 h3 _ _ => restF m2 z m3 g1 f2 (by rw [g2.2 29 (by decide)]; exact k29) (by rw [g2.1 73 (by simp) (by decide)]; exact k73) (h3.1 (Or.inl g1.ne)).2⟩
    · have e2 : kd T N q = 2 := h8.1.mp (by rw [← k8]; exact Classical.not_not.mp c8)
      rcases hR with ⟨g, -⟩ | ⟨-, ⟨i, i0, i1, i2⟩, -⟩ | ⟨-, -, hR3⟩
      · exact absurd e2 g
      · exact absurd i2 (nof e2 i i0 i1)
      have g := (h2.2 H1.2.1).2 (by decide)
      have H2 := H1.go g
      have f2 : FrR r m m2 := f1.tr (FrR.of g.1 (by decide))
      have hB1 : BdM r Z cs m2 := by
        refine BdM.fro (m := m1) ?_ g.1 (by decide)
        obtain ⟨p1, p2, p3, p4, p5, p6⟩ := hb
        have kk : ∀ b, b ≠ 84 → m1 b = m b := fun b hb => by rw [e1, up_ne hb]
        unfold BdM CdM
        rw [kk 73 (by decide), kk 74 (by decide), kk 75 (by decide), kk 76 (by decide), kk 77 (by decide), kk 78 (by decide), kk 79 (by decide), kk 80 (by decide), kk 81 (by decide), kk 82 (by decide), kk 83 (by decide), kk 85 (by decide), kk 86 (by decide), kk 70 (by decide)]
        refine ⟨p1, fun i i0 i1 => ?_, p3, p4, p5, p6⟩
        rw [e1, up_off (by omega)]
        exact p2 i i0 i1
      have n84 : m2 84 (5 * r + Z 1) = vl T N q := by rw [g.1.1 84 (by simp) (by decide), e1, up_at]; exact h8.2 e2
      refine ⟨d + 3, _, by omega, c_perhaps H2.1.ts, fun z m3 h3 _ _ => ?_⟩
      rcases opt_of H2 (by decide) (by decide) h3 hR3 with ⟨-, F3, f3⟩ | ⟨q', hs, H3, f3⟩
      · exact restF m3 z m3 F3 (f2.tr (FrR.of f3 (by decide))) (by rw [f3.2 29 (by decide)]; exact H2.2.2.1) (by rw [f3.1 73 (by simp) (by decide)]; exact hB1.1.1) rfl
      · have hB3 := hB1.fro f3 (by decide)
        have n84' : m3 84 (5 * r + Z 1) = vl T N q := by rw [f3.1 84 (by simp) (by decide)]; exact n84
        refine ⟨by omega, fun m4 e4 => ?_⟩
        have j29 : m4 70 29 = r := by rw [e4, up_ne (by decide)]; exact H3.2.2.1
        have j73 : m4 73 r = Z 1 := by rw [e4, up_ne (by decide)]; exact hB3.1.1
        rw [j29, j73]
        refine ⟨by omega, by unfold inR; omega, by omega, fun m5 e5 => ?_⟩
        rw [← hQ]
        refine ⟨f2.tr ((FrR.of f3 (by decide)).tr (FrR.tr (FrR.pt e4 (Or.inr (Or.inr (Or.inl ⟨by decide, by omega⟩)))) (FrR.pt e5 (Or.inr (Or.inl ⟨by decide, rfl⟩))))), Or.inr ⟨q', _, cs, hs, ?_, ?_⟩⟩
        · rw [e5, e4]
          exact (H3.put (by decide) (by decide)).put (by decide) (by decide)
        · obtain ⟨⟨p1, pa, pb, pc, pd, pe⟩, p2, p3, p4, p5, p6⟩ := hB3
          have kk : ∀ b, b ≠ 79 → b ≠ 73 → m5 b = m3 b := fun b h1 h2 => by rw [e5, up_ne h2, e4, up_ne h1]
          have k79 : m5 79 = up m3 79 (5 * r + Z 1) z 79 := by rw [e5, up_ne (by decide), e4]
          have eY : ∀ k, k ≠ 1 → k ≠ 10 + Z 1 → k ≠ 20 + Z 1 → ud (ud (ud Z (10 + Z 1) (vl T N q)) (20 + Z 1) z) 1 (Z 1 + 1) k = Z k := fun k a b c => by rw [ud_ne a, ud_ne c, ud_ne b]
          have eY1 : ud (ud (ud Z (10 + Z 1) (vl T N q)) (20 + Z 1) z) 1 (Z 1 + 1) 1 = Z 1 + 1 := ud_at
          have eYn : ud (ud (ud Z (10 + Z 1) (vl T N q)) (20 + Z 1) z) 1 (Z 1 + 1) (10 + Z 1) = vl T N q := by rw [ud_ne (by omega), ud_ne (by omega), ud_at]
          have eYh : ud (ud (ud Z (10 + Z 1) (vl T N q)) (20 + Z 1) z) 1 (Z 1 + 1) (20 + Z 1) = z := by rw [ud_ne (by omega), ud_at]
          generalize ud (ud (ud Z (10 + Z 1) (vl T N q)) (20 + Z 1) z) 1 (Z 1 + 1) = Y at eY eY1 eYn eYh
          unfold BdM CdM
          rw [kk 74 (by decide) (by decide), kk 75 (by decide) (by decide), kk 76 (by decide) (by decide), kk 77 (by decide) (by decide), kk 78 (by decide) (by decide), kk 80 (by decide) (by decide), kk 81 (by decide) (by decide), kk 82 (by decide) (by decide), kk 83 (by decide) (by decide), kk 84 (by decide) (by decide), kk 85 (by decide) (by decide), kk 86 (by decide) (by decide), kk 70 (by decide) (by decide), eY1, eY 2 (by omega) (by omega) (by omega), eY 3 (by omega) (by omega) (by omega), eY 4 (by omega) (by omega) (by omega), eY 5 (by omega) (by omega) (by omega), eY 6 (by omega) (by omega) (by omega), eY 7 (by omega) (by omega) (by omega), eY 8 (by omega) (by omega) (by omega)]
          refine ⟨⟨by rw [e5, up_at], pa, pb, pc, pd, pe⟩, fun i i0 i1 => ?_, fun i i0 i1 => ?_, fun i j i0 i1 j0 j1 => ?_, p5, p6⟩
          · rw [k79]
            by_cases e : i = Z 1
            · rw [e, eYn, eYh, up_at]; exact ⟨n84', rfl⟩
            · rw [eY (10 + i) (by omega) (by omega) (by omega), eY (20 + i) (by omega) (by omega) (by omega), up_off (by omega)]
              exact p2 i i0 (by omega)
          · rw [eY (30 + i) (by omega) (by omega) (by omega)]; exact p3 i i0 i1
          · rw [eY (40 + 5 * i + j) (by omega) (by omega) (by omega)]; exact p4 i j i0 i1 j0 j1
  · -- told already
    have e2 : m 70 8 = 2 ∧ m 84 (5 * r + y) = m 70 10 := by
      rcases hy with ⟨a, -⟩ | ⟨-, b, -⟩
      · omega
      · exact b
    have hyn : In k y := by
      rcases hy with ⟨a, -⟩ | ⟨a, -⟩
      · omega
      · exact a
    have k2 := h8.1.mp e2.1
    have y1 : y < Z 1 := by rw [hk]; exact hyn.2
    have hv : Z (10 + y) = vl T N q := by
      have := e2.2
      rw [(hb.2.1 y hyn.1 y1).1, h8.2 k2] at this
      exact this
    have hR2 : R = .inl (3, plc T N q) := by
      rcases hR with ⟨g, -⟩ | ⟨-, -, g⟩ | ⟨-, g, -⟩
      · exact absurd k2 g
      · exact g
      · exact absurd hv (g y hyn.1 y1)
    rw [h.1.at] at h1
    obtain ⟨g1, g2⟩ := h.fault h1 (by decide) hR2
    exact bad m1 g1 (FrR.of g2 (by decide)) (by rw [g2.2 29 (by decide)]; exact hr) (by rw [g2.1 73 (by simp) (by decide)]; exact b1)
end LinesM2
