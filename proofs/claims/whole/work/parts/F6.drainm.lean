/-! drains and chutes told, by the reference -/
section LinesM3
variable {l : Launch} {G : GT} {d : Nat} {T : Int → Int} {N r q : Int} {m : MM} {Z : Int → Int} {cs : List Int} {R : Rz}
theorem mb_bt {s i : Int} : bt s i = 1 ↔ mb s i = true := ⟨fun h => decide_eq_true h, fun h => of_decide_eq_true h⟩
theorem mb_add {x k : Int} {f : Int → Bool} (hx : 0 ≤ x ∧ x < 32) (hk : 0 ≤ k ∧ k < 5) (h : ∀ j, 0 ≤ j → j < 5 → mb x j = f j) : (0 ≤ bOr x (bShl 1 k) ∧ bOr x (bShl 1 k) < 32) ∧ ∀ j, 0 ≤ j → j < 5 → mb (bOr x (bShl 1 k)) j = (f j || decide (j = k)) := by
  obtain ⟨s1, s2⟩ := mb_shl hk
  have hp := pw_rng (j := k)
  obtain ⟨o1, o2⟩ := mb_or hx (y := bShl 1 k) (by rw [s1]; omega)
  exact ⟨o1, fun j j0 j1 => by rw [o2 j j0 j1, h j j0 j1, s2 j j0 j1]⟩
theorem knR.mono {K K' : Int → Prop} (h : knR T N Z q R K) (g : ∀ i, K i → K' i) : knR T N Z q R K' := by
  rcases h with h | h | ⟨h1, i, i0, i1, i2, h2⟩
  · exact Or.inl h
  · exact Or.inr (Or.inl h)
  · exact Or.inr (Or.inr ⟨h1, i, i0, i1, i2, g i h2⟩)
theorem c_readDrain (h : HdM T N r q m) (hb : BdM r Z cs m) (hz : ZC Z cs) (hc : 0 ≤ Z 2 ∧ Z 2 ≤ 1600) (hR : drR T N Z cs q R) : CV l G Y_M_readDrain (d + 4) [.inr (.inr 70)] m (LpM T N r R m) := by
  generalize hQ : LpM T N r R m = Q
  obtain ⟨hr, hr0, hr1, hr5⟩ := h.2.2
  have b1 := hb.1.1
  have z1 := hz.1
  obtain ⟨k, hk⟩ : ∃ k : Nat, Z 1 = k := ⟨(Z 1).toNat, by omega⟩
  have fin : ∀ x, (0 ≤ x ∧ x < 32) → (∀ j, 0 ≤ j → j < 5 → mb x j = decide (0 < Z (30 + j))) → Wq l G false Y_M_readDrain (d + 4) (QV Q) 4 [(0, .inr (.inr 70)), (1, .inl x), (2, .inl 5)] [] m := by
    intro x hx hm
    refine s_M_readDrain_4 _ _ (fun _ _ _ => ⟨fun _ => ⟨d + 2, _, by omega, c_known h.1.ts ⟨hr, hr0, hr1⟩ ⟨by rw [b1, hk], by omega⟩, fun z m1 h1 _ _ => ?_⟩, fun c => absurd (by decide) c⟩)
    obtain ⟨hz2, h1⟩ := kn_of (B := fun j => 0 < Z (30 + j)) h hb hk hz.2.2.2.2.2.2.1 (fun j j0 j1 => by
      rw [mb_bt, hm j j0 (by omega)]
      exact ⟨fun e => of_decide_eq_true e, fun e => decide_eq_true e⟩) h1 hR
    rcases h1 with ⟨F1, f1⟩ | ⟨K1, y1, H1, f1⟩
    · refine ⟨d + 3, _, by omega, c_perhaps F1.ts, fun z2 m2 h2 _ _ => ?_⟩
      obtain ⟨-, rfl⟩ := h2.1 (Or.inl F1.ne)
      refine ⟨d, _, by omega, c_isGoodM2, fun z3 m3 hz3 _ _ => ?_⟩
      obtain ⟨hz3, rfl⟩ := hz3
      refine ⟨fun c => absurd (hz3.mpr F1.ne) c, fun _ => ?_⟩
      rw [← hQ]
      exact ⟨FrR.of f1 (by decide), Or.inl F1⟩
    · refine ⟨d + 3, _, by omega, c_perhaps H1.1.ts, fun z2 m2 h2 _ _ => ?_⟩
      have hB1 := hb.fro f1 (by decide)
      rcases opt_of H1 (by decide) (by decide) h2 K1 with ⟨-, F2, f2⟩ | ⟨q', hs, H2, f2⟩
      · refine ⟨d, _, by omega, c_isGoodM2, fun z3 m3 hz3 _ _ => ?_⟩
        obtain ⟨hz3, rfl⟩ := hz3
        refine ⟨fun c => absurd (hz3.mpr F2.ne) c, fun _ => ?_⟩
        rw [← hQ]
        exact ⟨(FrR.of f1 (by decide)).tr (FrR.of f2 (by decide)), Or.inl F2⟩
      · have hB2 := hB1.fro f2 (by decide)
        refine ⟨d, _, by omega, c_isGoodM2, fun z3 m3 hz3 _ _ => ?_⟩
        obtain ⟨hz3, rfl⟩ := hz3
        refine ⟨fun _ => ?_, fun c => absurd H2.2.1 (hz3.mp (Classical.not_not.mp c))⟩
        rw [H2.2.2.1]
        refine ⟨by unfold inR; omega, by unfold inR; omega, by omega, fun m4 e4 => ?_⟩
        have j29 : m4 70 29 = r := by rw [e4, up_ne (by decide)]; exact H2.2.2.1
        have j74 : m4 74 r = Z 2 := by rw [e4, up_ne (by decide)]; exact hB2.1.2.1
        rw [j29, j74]
        refine ⟨by omega, by unfold inR; omega, by omega, fun m5 e5 => ?_⟩
        rw [← hQ]
        refine ⟨(FrR.of f1 (by decide)).tr ((FrR.of f2 (by decide)).tr (FrR.tr (FrR.pt e4 (Or.inr (Or.inr (Or.inl ⟨by decide, by omega⟩)))) (FrR.pt e5 (Or.inr (Or.inl ⟨by decide, rfl⟩))))), Or.inr ⟨q', _, cs, hs, ?_, ?_⟩⟩
        · rw [e5, e4]
          exact (H2.put (by decide) (by decide)).put (by decide) (by decide)
        · obtain ⟨⟨p1, pa, pb, pc, pd, pe⟩, p2, p3, p4, p5, p6⟩ := hB2
          have kk : ∀ b, b ≠ 81 → b ≠ 74 → m5 b = m2 b := fun b h1 h2 => by rw [e5, up_ne h2, e4, up_ne h1]
          have k81 : m5 81 = up m2 81 (5 * r + z) z2 81 := by rw [e5, up_ne (by decide), e4]
          have eY : ∀ k, k ≠ 2 → k ≠ 30 + z → ud (ud Z (30 + z) z2) 2 (Z 2 + 1) k = Z k := fun k a b => by rw [ud_ne a, ud_ne b]
          have eY2 : ud (ud Z (30 + z) z2) 2 (Z 2 + 1) 2 = Z 2 + 1 := ud_at
          have eYz : ud (ud Z (30 + z) z2) 2 (Z 2 + 1) (30 + z) = z2 := by rw [ud_ne (by omega), ud_at]
          generalize ud (ud Z (30 + z) z2) 2 (Z 2 + 1) = Y at eY eY2 eYz
          unfold BdM CdM
          rw [kk 73 (by decide) (by decide), kk 75 (by decide) (by decide), kk 76 (by decide) (by decide), kk 77 (by decide) (by decide), kk 78 (by decide) (by decide), kk 79 (by decide) (by decide), kk 80 (by decide) (by decide), kk 82 (by decide) (by decide), kk 83 (by decide) (by decide), kk 84 (by decide) (by decide), kk 85 (by decide) (by decide), kk 86 (by decide) (by decide), kk 70 (by decide) (by decide), eY2, eY 1 (by omega) (by omega), eY 3 (by omega) (by omega), eY 4 (by omega) (by omega), eY 5 (by omega) (by omega), eY 6 (by omega) (by omega), eY 7 (by omega) (by omega), eY 8 (by omega) (by omega)]
          refine ⟨⟨p1, by rw [e5, up_at], pb, pc, pd, pe⟩, fun i i0 i1 => ?_, fun i i0 i1 => ?_, fun i j i0 i1 j0 j1 => ?_, p5, p6⟩
          · rw [eY (10 + i) (by omega) (by omega), eY (20 + i) (by omega) (by omega)]; exact p2 i i0 i1
          · rw [k81]
            by_cases e : i = z
            · rw [e, eYz, up_at]
            · rw [eY (30 + i) (by omega) (by omega), up_off (by omega)]; exact p3 i i0 i1
          · rw [eY (40 + 5 * i + j) (by omega) (by omega)]; exact p4 i j i0 i1 j0 j1
  have loop : ∀ (s : Nat) (i x : Int), i + s = 5 → 0 ≤ i → (0 ≤ x ∧ x < 32) → (∀ j, 0 ≤ j → j < 5 → mb x j = (decide (j < i) && decide (0 < Z (30 + j)))) → Wq l G false Y_M_readDrain (d + 4) (QV Q) 4 [(0, .inr (.inr 70)), (1, .inl x), (2, .inl i)] [] m := by
    intro s
    induction s with
    | zero =>
      intro i x hi i0 hx hm
      have : i = 5 := by omega
      subst this
      exact fin x hx (fun j j0 j1 => by rw [hm j j0 j1, decide_eq_true j1, Bool.true_and])
    | succ s ih =>
      intro i x hi i0 hx hm
      refine s_M_readDrain_4 _ _ (fun _ _ _ => ⟨fun c => by omega, fun _ => ?_⟩)
      rw [hr, hb.2.2.1 i i0 (by omega)]
      refine ⟨by unfold inR; omega, by unfold inR; omega, by omega, fun c => ⟨by unfold inR; omega, ih (i + 1) x (by omega) (by omega) hx (fun j j0 j1 => ?_)⟩, fun c => ⟨by unfold inR; omega, ih (i + 1) _ (by omega) (by omega) (mb_add hx ⟨i0, by omega⟩ hm).1 (fun j j0 j1 => ?_)⟩⟩
      · rw [hm j j0 j1]
        by_cases e : j = i
        · subst e
          rw [decide_eq_false (show ¬ 0 < Z (30 + j) by omega), Bool.and_false, Bool.and_false]
        · rw [decide_eq_decide.mpr (show j < i ↔ j < i + 1 by omega)]
      · rw [(mb_add hx ⟨i0, by omega⟩ hm).2 j j0 j1]
        by_cases e : j = i
        · subst e
          rw [decide_eq_true (show j < j + 1 by omega), decide_eq_true (show 0 < Z (30 + j) by omega), decide_eq_true rfl, Bool.or_true, Bool.and_true]
        · rw [decide_eq_false e, Bool.or_false, decide_eq_decide.mpr (show j < i ↔ j < i + 1 by omega)]
  exact e_M_readDrain (fun _ => loop 5 0 0 (by omega) (by decide) (by decide) (fun j j0 j1 => by
    rw [decide_eq_false (show ¬ j < 0 by omega), Bool.false_and]
    have h5 : j = 0 ∨ j = 1 ∨ j = 2 ∨ j = 3 ∨ j = 4 := by omega
    rcases h5 with rfl | rfl | rfl | rfl | rfl <;> decide +kernel))
end LinesM3
