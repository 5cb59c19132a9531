/-! chutes told, by the reference -/
section LinesM4
variable {l : Launch} {G : GT} {d : Nat} {T : Int → Int} {N r q : Int} {m : MM} {Z : Int → Int} {cs : List Int} {R : Rz}
theorem c_readChute (h : HdM T N r q m) (hb : BdM r Z cs m) (hz : ZC Z cs) (hc : 0 ≤ Z 2 ∧ Z 2 ≤ 1600) (hR : chR T N Z cs q R) : CV l G Y_M_readChute (d + 4) [.inr (.inr 70)] m (LpM T N r R m) := by
  generalize hQ : LpM T N r R m = Q
  obtain ⟨hr, hr0, hr1, hr5⟩ := h.2.2
  have z1 := hz.1
  obtain ⟨k, hk⟩ : ∃ k : Nat, Z 1 = k := ⟨(Z 1).toNat, by omega⟩
  -- the loop over the widths of a
  have loop : ∀ (m1 : MM) (a : Int), 0 ≤ a ∧ a < 5 → m1 70 29 = r → BdM r Z cs m1 → (∀ x, (0 ≤ x ∧ x < 32) → (∀ j, 0 ≤ j → j < 5 → mb x j = (decide (j = a) || decide (0 < Z (40 + 5 * a + j)))) → Wq l G false Y_M_readChute (d + 4) (QV Q) 12 [(0, .inr (.inr 70)), (1, .inl a), (2, .inl x), (3, .inl 5)] [] m1) → Wq l G false Y_M_readChute (d + 4) (QV Q) 12 [(0, .inr (.inr 70)), (1, .inl a), (2, .inl (bShl 1 a)), (3, .inl 0)] [] m1 := by
    intro m1 a ha h29 hB fin
    have go : ∀ (s : Nat) (i x : Int), i + s = 5 → 0 ≤ i → (0 ≤ x ∧ x < 32) → (∀ j, 0 ≤ j → j < 5 → mb x j = (decide (j = a) || (decide (j < i) && decide (0 < Z (40 + 5 * a + j))))) → Wq l G false Y_M_readChute (d + 4) (QV Q) 12 [(0, .inr (.inr 70)), (1, .inl a), (2, .inl x), (3, .inl i)] [] m1 := by
      intro s
      induction s with
      | zero =>
        intro i x hi i0 hx hm
        have : i = 5 := by omega
        subst this
        exact fin x hx (fun j j0 j1 => by rw [hm j j0 j1, decide_eq_true j1, Bool.true_and])
      | succ s ih =>
        intro i x hi i0 hx hm
        refine s_M_readChute_12 _ _ _ (fun _ _ _ _ => ⟨fun c => by omega, fun _ => ?_⟩)
        rw [h29, hB.2.2.2.1 a i ha.1 ha.2 i0 (by omega)]
        refine ⟨by unfold inR; omega, by unfold inR; omega, by unfold inR; omega, by unfold inR; omega, by omega, fun c => ⟨by unfold inR; omega, ih (i + 1) x (by omega) (by omega) hx (fun j j0 j1 => ?_)⟩, fun c => ⟨by unfold inR; omega, ih (i + 1) _ (by omega) (by omega) (mb_add hx ⟨i0, by omega⟩ hm).1 (fun j j0 j1 => ?_)⟩⟩
        · rw [hm j j0 j1]
          by_cases e : j = i
          · subst e
            rw [decide_eq_false (show ¬ 0 < Z (40 + 5 * a + j) by omega), Bool.and_false, Bool.and_false]
          · rw [decide_eq_decide.mpr (show j < i ↔ j < i + 1 by omega)]
        · rw [(mb_add hx ⟨i0, by omega⟩ hm).2 j j0 j1]
          by_cases e : j = i
          · subst e
            rw [decide_eq_true (show j < j + 1 by omega), decide_eq_true (show 0 < Z (40 + 5 * a + j) by omega), decide_eq_true (show j = j from rfl), Bool.or_true, Bool.and_true, Bool.or_true]
          · rw [decide_eq_false e, Bool.or_false, decide_eq_decide.mpr (show j < i ↔ j < i + 1 by omega)]
    obtain ⟨s1, s2⟩ := mb_shl ha
    have hp := pw_rng (j := a)
    exact go 5 0 (bShl 1 a) (by omega) (by decide) (by rw [s1]; omega) (fun j j0 j1 => by rw [s2 j j0 j1, decide_eq_false (show ¬ j < 0 by omega), Bool.false_and, Bool.or_false])
  refine e_M_readChute (fun _ => ⟨d + 2, _, by omega, c_known h.1.ts ⟨hr, hr0, hr1⟩ ⟨by rw [hb.1.1, hk], by omega⟩, fun a m1 h1 _ _ => ?_⟩)
  obtain ⟨ha, h1⟩ := kn_of (B := fun _ => False) h hb hk hz.2.2.2.2.2.2.1 (fun j j0 j1 => by
    have h5 : j = 0 ∨ j = 1 ∨ j = 2 ∨ j = 3 ∨ j = 4 := by omega
    have : bt 0 j ≠ 1 := by rcases h5 with rfl | rfl | rfl | rfl | rfl <;> decide +kernel
    exact ⟨fun e => this e, fun e => e.elim⟩) h1 (knR.mono hR (fun i hi => Or.inr ⟨fun e => e, hi⟩))
  have ha5 : 0 ≤ a ∧ a < 5 := by omega
  rcases h1 with ⟨F1, f1⟩ | ⟨K1, y1, H1, f1⟩
  · -- a fault already
    have hB1 := hb.fro f1 (by decide)
    have j29 : m1 70 29 = r := by rw [f1.2 29 (by decide)]; exact hr
    refine loop m1 a ha5 j29 hB1 (fun x hx hm => ?_)
    refine s_M_readChute_12 _ _ _ (fun _ _ _ _ => ⟨fun _ => ⟨d + 2, _, by omega, c_known F1.ts ⟨j29, hr0, hr1⟩ ⟨by rw [hB1.1.1, hk], by omega⟩, fun b m2 h2 _ _ => ?_⟩, fun c => absurd (by decide) c⟩)
    obtain ⟨-, rfl⟩ := h2.1 F1.ne
    refine ⟨d + 3, _, by omega, c_perhaps F1.ts, fun z2 m3 h3 _ _ => ?_⟩
    obtain ⟨-, rfl⟩ := h3.1 (Or.inl F1.ne)
    refine ⟨d, _, by omega, c_isGoodM2, fun z3 m4 hz3 _ _ => ?_⟩
    obtain ⟨hz3, rfl⟩ := hz3
    refine ⟨fun c => absurd (hz3.mpr F1.ne) c, fun _ => ?_⟩
    rw [← hQ]
    exact ⟨FrR.of f1 (by decide), Or.inl F1⟩
  · have hB1 := hb.fro f1 (by decide)
    have j29 : m1 70 29 = r := H1.2.2.1
    refine loop m1 a ha5 j29 hB1 (fun x hx hm => ?_)
    refine s_M_readChute_12 _ _ _ (fun _ _ _ _ => ⟨fun _ => ⟨d + 2, _, by omega, c_known H1.1.ts ⟨j29, hr0, hr1⟩ ⟨by rw [hB1.1.1, hk], by omega⟩, fun b m2 h2 _ _ => ?_⟩, fun c => absurd (by decide) c⟩)
    obtain ⟨hb2, h2⟩ := kn_of (B := fun j => a = j ∨ 0 < Z (40 + 5 * a + j)) H1 hB1 hk hz.2.2.2.2.2.2.1 (fun j j0 j1 => by
      rw [mb_bt, hm j j0 (by omega)]
      refine ⟨fun e => ?_, fun e => ?_⟩
      · rcases Bool.or_eq_true_iff.mp e with e | e
        · exact Or.inl (of_decide_eq_true e).symm
        · exact Or.inr (of_decide_eq_true e)
      · rcases e with e | e
        · rw [decide_eq_true e.symm, Bool.true_or]
        · rw [decide_eq_true e, Bool.or_true]) h2 K1
    rcases h2 with ⟨F2, f2⟩ | ⟨K2, y2, H2, f2⟩
    · refine ⟨d + 3, _, by omega, c_perhaps F2.ts, fun z2 m3 h3 _ _ => ?_⟩
      obtain ⟨-, rfl⟩ := h3.1 (Or.inl F2.ne)
      refine ⟨d, _, by omega, c_isGoodM2, fun z3 m4 hz3 _ _ => ?_⟩
      obtain ⟨hz3, rfl⟩ := hz3
      refine ⟨fun c => absurd (hz3.mpr F2.ne) c, fun _ => ?_⟩
      rw [← hQ]
      exact ⟨(FrR.of f1 (by decide)).tr (FrR.of f2 (by decide)), Or.inl F2⟩
    · have hB2 := hB1.fro f2 (by decide)
      refine ⟨d + 3, _, by omega, c_perhaps H2.1.ts, fun v m3 h3 _ _ => ?_⟩
      rcases opt_of H2 (by decide) (by decide) h3 K2 with ⟨-, F3, f3⟩ | ⟨q', hs, H3, f3⟩
      · refine ⟨d, _, by omega, c_isGoodM2, fun z3 m4 hz3 _ _ => ?_⟩
        obtain ⟨hz3, rfl⟩ := hz3
        refine ⟨fun c => absurd (hz3.mpr F3.ne) c, fun _ => ?_⟩
        rw [← hQ]
        exact ⟨(FrR.of f1 (by decide)).tr ((FrR.of f2 (by decide)).tr (FrR.of f3 (by decide))), Or.inl F3⟩
      · have hB3 := hB2.fro f3 (by decide)
        refine ⟨d, _, by omega, c_isGoodM2, fun z3 m4 hz3 _ _ => ?_⟩
        obtain ⟨hz3, rfl⟩ := hz3
        refine ⟨fun _ => ?_, fun c => absurd H3.2.1 (hz3.mp (Classical.not_not.mp c))⟩
        rw [H3.2.2.1]
        refine ⟨by unfold inR; omega, by unfold inR; omega, by unfold inR; omega, by unfold inR; omega, by omega, fun m4 e4 => ?_⟩
        have j29' : m4 70 29 = r := by rw [e4, up_ne (by decide)]; exact H3.2.2.1
        rw [j29']
        refine ⟨by unfold inR; omega, by unfold inR; omega, by unfold inR; omega, by unfold inR; omega, by omega, fun m5 e5 => ?_⟩
        have i29 : m5 70 29 = r := by rw [e5, up_ne (by decide)]; exact j29'
        have i74 : m5 74 r = Z 2 := by rw [e5, up_ne (by decide), e4, up_ne (by decide)]; exact hB3.1.2.1
        rw [i29, i74]
        refine ⟨by omega, by unfold inR; omega, by omega, fun m6 e6 => ?_⟩
        rw [← hQ]
        refine ⟨(FrR.of f1 (by decide)).tr ((FrR.of f2 (by decide)).tr ((FrR.of f3 (by decide)).tr ((FrR.pt e4 (Or.inr (Or.inr (Or.inr (Or.inl ⟨rfl, by omega, by omega⟩))))).tr ((FrR.pt e5 (Or.inr (Or.inr (Or.inr (Or.inl ⟨rfl, by omega, by omega⟩))))).tr (FrR.pt e6 (Or.inr (Or.inl ⟨by decide, rfl⟩))))))), Or.inr ⟨q', _, cs, hs, ?_, ?_⟩⟩
        · rw [e6, e5, e4]
          exact ((H3.put (by decide) (by decide)).put (by decide) (by decide)).put (by decide) (by decide)
        · obtain ⟨⟨p1, pa, pb, pc, pd, pe⟩, p2, p3, p4, p5, p6⟩ := hB3
          have kk : ∀ c, c ≠ 80 → c ≠ 74 → m6 c = m3 c := fun c h1 h2 => by rw [e6, up_ne h2, e5, up_ne h1, e4, up_ne h1]
          have k80 : m6 80 = up (up m3 80 (5 * (5 * r + a) + b) v) 80 (5 * (5 * r + b) + a) v 80 := by rw [e6, up_ne (by decide), e5, e4]
          have eY : ∀ k, k ≠ 2 → k ≠ 40 + 5 * a + b → k ≠ 40 + 5 * b + a → ud (ud (ud Z (40 + 5 * a + b) v) (40 + 5 * b + a) v) 2 (Z 2 + 1) k = Z k := fun k x y w => by rw [ud_ne x, ud_ne w, ud_ne y]
          have eY2 : ud (ud (ud Z (40 + 5 * a + b) v) (40 + 5 * b + a) v) 2 (Z 2 + 1) 2 = Z 2 + 1 := ud_at
          have eYb : ud (ud (ud Z (40 + 5 * a + b) v) (40 + 5 * b + a) v) 2 (Z 2 + 1) (40 + 5 * b + a) = v := by rw [ud_ne (by omega), ud_at]
          have eYa : ud (ud (ud Z (40 + 5 * a + b) v) (40 + 5 * b + a) v) 2 (Z 2 + 1) (40 + 5 * a + b) = v := by
            rw [ud_ne (by omega)]
            by_cases e : 40 + 5 * a + b = 40 + 5 * b + a
            · rw [e, ud_at]
            · rw [ud_ne e, ud_at]
          generalize ud (ud (ud Z (40 + 5 * a + b) v) (40 + 5 * b + a) v) 2 (Z 2 + 1) = Y at eY eY2 eYa eYb
          unfold BdM CdM
          rw [kk 73 (by decide) (by decide), kk 75 (by decide) (by decide), kk 76 (by decide) (by decide), kk 77 (by decide) (by decide), kk 78 (by decide) (by decide), kk 79 (by decide) (by decide), kk 81 (by decide) (by decide), kk 82 (by decide) (by decide), kk 83 (by decide) (by decide), kk 84 (by decide) (by decide), kk 85 (by decide) (by decide), kk 86 (by decide) (by decide), kk 70 (by decide) (by decide), eY2, eY 1 (by omega) (by omega) (by omega), eY 3 (by omega) (by omega) (by omega), eY 4 (by omega) (by omega) (by omega), eY 5 (by omega) (by omega) (by omega), eY 6 (by omega) (by omega) (by omega), eY 7 (by omega) (by omega) (by omega), eY 8 (by omega) (by omega) (by omega)]
          refine ⟨⟨p1, by rw [e6, up_at], pb, pc, pd, pe⟩, fun i i0 i1 => ?_, fun i i0 i1 => ?_, fun i j i0 i1 j0 j1 => ?_, p5, p6⟩
          · rw [eY (10 + i) (by omega) (by omega) (by omega), eY (20 + i) (by omega) (by omega) (by omega)]; exact p2 i i0 i1
          · rw [eY (30 + i) (by omega) (by omega) (by omega)]; exact p3 i i0 i1
          · rw [k80]
            by_cases e : 40 + 5 * i + j = 40 + 5 * b + a
            · rw [e, eYb, show 5 * (5 * r + i) + j = 5 * (5 * r + b) + a by omega, up_at]
            · rw [up_off (by omega)]
              by_cases e2 : 40 + 5 * i + j = 40 + 5 * a + b
              · rw [e2, eYa, show 5 * (5 * r + i) + j = 5 * (5 * r + a) + b by omega, up_at]
              · rw [eY (40 + 5 * i + j) (by omega) e2 e, up_off (by omega)]
                exact p4 i j i0 i1 j0 j1
end LinesM4
