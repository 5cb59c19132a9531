/-! a line read by the reference -/
section LinesM5
variable {l : Launch} {G : GT} {d : Nat} {T : Int → Int} {N r q : Int} {m : MM} {Z : Int → Int} {cs : List Int} {R : Rz}
theorem c_readRule (h : HdM T N r q m) (hb : BdM r Z cs m) (hz : ZC Z cs) (h5 : Z 5 = 0) (hR : ruR T N Z q R) : CV l G Y_M_readRule (d + 5) [.inr (.inr 70)] m (LpM T N r R m) := by
  generalize hQ : LpM T N r R m = Q
  obtain ⟨hr, hr0, hr1, hr5⟩ := h.2.2
  obtain ⟨z8, rfl⟩ := hz.2.2.2.2.2.2.2.2.2.1 h5
  obtain ⟨x5, x6, x7⟩ := hz.2.2.2.1
  obtain ⟨-, -, -, t3, -⟩ := tld x5 x6 x7
  have rg : 0 ≤ r ∧ r < 2 := ⟨hr0, by omega⟩
  obtain ⟨Rf, ⟨k, hE⟩, g1, g2⟩ := hR
  refine e_M_readRule (fun _ => ?_)
  rw [hr]
  refine ⟨rg, rg, fun m1 e1 m2 e2 => ?_⟩
  have f12 : Fro 70 [78] [33] m m2 := ⟨fun b hb h7 => by rw [e2, up_ne h7, e1, up_ne (fun e => hb (by rw [e]; simp))], fun i hi => by rw [e2, up_off (fun e => hi (by rw [e]; simp)), e1, up_ne (by decide)]⟩
  have j29 : m2 70 29 = r := by rw [f12.2 29 (by decide)]; exact hr
  have j30 : m2 70 30 = 560 * r := by
    rw [f12.2 30 (by decide), hb.2.2.2.2.1.1]
    show 560 * r + ((0 : Nat) : Int) = 560 * r
    omega
  rw [j29, j30]
  refine ⟨rg, fun m3 e3 => ?_⟩
  have f13 : Fro 70 [78, 82] [33] m m3 := (f12.mono (by simp) (by simp)).tr ⟨fun b hb h7 => by rw [e3, up_ne (fun e => hb (by rw [e]; simp))], fun i hi => by rw [e3, up_ne (by decide)]⟩
  have F3 : FrR r m m3 := (FrR.pt e1 (Or.inr (Or.inl ⟨by decide, rfl⟩))).tr ((FrR.pt e2 (Or.inl ⟨rfl, by decide⟩)).tr (FrR.pt e3 (Or.inr (Or.inl ⟨by decide, rfl⟩))))
  have C3 : CoM T N r q 0 [] m3 := by
    refine ⟨h.1.fr f13 (by decide) (by decide), by rw [f13.2 4 (by decide)]; exact h.2.1, ⟨by rw [f13.2 29 (by decide)]; exact hr, hr0, hr1, by rw [f13.2 5 (by decide)]; exact hr5⟩, ⟨?_, ?_⟩, ?_, fun j s hs => ?_⟩
    · rw [f13.1 75 (by decide) (by decide), hb.1.2.2.2.2.1]; exact z8
    · rw [e3, up_ne (by decide), e2, up_at]
    · rw [f13.2 30 (by decide)]; exact hb.2.2.2.2.1.1
    · simp at hs
  refine ⟨d + 4, _, by omega, c_e C3 hE, fun m4 h4 _ => ?_⟩
  obtain ⟨f4, a4, b4⟩ := h4
  have i29 : m4 70 29 = r := by rw [f4.1.2 29 (by decide), f13.2 29 (by decide)]; exact hr
  rw [i29]
  refine ⟨rg, fun m5 e5 => ?_⟩
  rw [← hQ]
  have F5 : FrR r m m5 := F3.tr (f4.frr.tr (FrR.pt e5 (Or.inr (Or.inl ⟨by decide, rfl⟩))))
  match Rf, g1, g2, a4, b4 with
  | .inl f, g1, _, a4, _ =>
    obtain ⟨a5, a6⟩ := a4 f rfl
    have Fs : FsM N R m4 := ⟨f, g1 f rfl, a5, a6⟩
    refine ⟨F5, Or.inl ?_⟩
    rw [e5]
    exact Fs.put (by decide) (by decide)
  | .inr (p', u', c'), _, g2, _, b4 =>
    obtain ⟨C4, -, -, -⟩ := b4 p' u' c' rfl
    obtain ⟨-, -, -, hs⟩ := g2 p' u' c' rfl
    have H4 : HdM T N r p' m4 := ⟨C4.1, C4.2.1, C4.2.2.1⟩
    refine ⟨F5, Or.inr ⟨p', _, c', hs, by rw [e5]; exact H4.put (by decide) (by decide), ?_⟩⟩
    obtain ⟨⟨p1, pa, pb, pc, pd, pe⟩, p2, p3, p4, p5, p6⟩ := hb
    have kk : ∀ c, c ≠ 70 → c ≠ 75 → c ≠ 78 → c ≠ 82 → c ≠ 83 → c ≠ 85 → c ≠ 86 → c ≠ 87 → c ≠ 88 → m5 c = m c := fun c c0 c1 c2 c3 c4 c5 c6 c7 c8 => by
      rw [e5, up_ne c4, f4.1.1 c (by simp only [List.mem_cons, List.not_mem_nil, or_false]; omega) c0, f13.1 c (by simp only [List.mem_cons, List.not_mem_nil, or_false]; omega) c0]
    have k78 : m5 78 r = 1 + 2 * Z 6 + 4 * Z 7 := by
      rw [e5, up_ne (by decide), f4.1.1 78 (by decide) (by decide), e3, up_ne (by decide), e2, up_ne (by decide), e1, up_at, pe, t3]
    have k82 : m5 82 r = 560 * r := by rw [e5, up_ne (by decide), f4.1.1 82 (by decide) (by decide), e3, up_at]
    have k83 : m5 83 r = 560 * r + c'.length := by rw [e5, up_at]; exact C4.2.2.2.2.1
    have k75 : m5 75 r = u' := by rw [e5, up_ne (by decide)]; exact C4.2.2.2.1.1
    have k30 : m5 70 30 = 560 * r + c'.length := by rw [e5, up_ne (by decide)]; exact C4.2.2.2.2.1
    have eY : ∀ k, k ≠ 5 → k ≠ 8 → ud (ud Z 5 1) 8 u' k = Z k := fun k a b => by rw [ud_ne b, ud_ne a]
    have eY8 : ud (ud Z 5 1) 8 u' 8 = u' := ud_at
    have eY5 : ud (ud Z 5 1) 8 u' 5 = 1 := by rw [ud_ne (by decide), ud_at]
    generalize ud (ud Z 5 1) 8 u' = Y at eY eY5 eY8
    have kd' : CdM (560 * r) c' m5 := fun j s hs => by
      rw [e5, up_ne (by decide), up_ne (by decide)]
      exact C4.2.2.2.2.2 j s hs
    refine ⟨⟨?_, ?_, ?_, ?_, ?_, ?_⟩, fun i i0 i1 => ?_, fun i i0 i1 => ?_, fun i j i0 i1 j0 j1 => ?_, ⟨k30, kd'⟩, fun _ => ⟨k82, k83⟩⟩
    · rw [kk 73 (by decide) (by decide) (by decide) (by decide) (by decide) (by decide) (by decide) (by decide) (by decide), eY 1 (by decide) (by decide)]; exact p1
    · rw [kk 74 (by decide) (by decide) (by decide) (by decide) (by decide) (by decide) (by decide) (by decide) (by decide), eY 2 (by decide) (by decide)]; exact pa
    · rw [kk 76 (by decide) (by decide) (by decide) (by decide) (by decide) (by decide) (by decide) (by decide) (by decide), eY 3 (by decide) (by decide)]; exact pb
    · rw [kk 77 (by decide) (by decide) (by decide) (by decide) (by decide) (by decide) (by decide) (by decide) (by decide), eY 4 (by decide) (by decide)]; exact pc
    · rw [k75, eY8]
    · rw [k78, eY5, eY 6 (by decide) (by decide), eY 7 (by decide) (by decide)]
    · rw [eY 1 (by decide) (by decide)] at i1
      rw [kk 84 (by decide) (by decide) (by decide) (by decide) (by decide) (by decide) (by decide) (by decide) (by decide), kk 79 (by decide) (by decide) (by decide) (by decide) (by decide) (by decide) (by decide) (by decide) (by decide), eY (10 + i) (by omega) (by omega), eY (20 + i) (by omega) (by omega)]
      exact p2 i i0 i1
    · rw [kk 81 (by decide) (by decide) (by decide) (by decide) (by decide) (by decide) (by decide) (by decide) (by decide), eY (30 + i) (by omega) (by omega)]; exact p3 i i0 i1
    · rw [kk 80 (by decide) (by decide) (by decide) (by decide) (by decide) (by decide) (by decide) (by decide) (by decide), eY (40 + 5 * i + j) (by omega) (by omega)]; exact p4 i j i0 i1 j0 j1
theorem c_once {x y : Int} (h : HdM T N r q m) : CI l G Y_M_once (d + 3) [.inr (.inr 70), .inl x, .inl y] m (fun z m' => ∃ m1, m1 = up m 78 r (bOr (m 78 r) (bShl 1 x)) ∧ NuM N 0 y m1 z m') := by
  obtain ⟨hr, hr0, hr1, hr5⟩ := h.2.2
  refine e_M_once x y (fun _ _ _ => ?_)
  rw [hr]
  refine ⟨⟨hr0, by omega⟩, ⟨hr0, by omega⟩, fun m1 e1 => ?_⟩
  have H1 : HdM T N r q m1 := by rw [e1]; exact h.put (by decide) (by decide)
  exact ⟨d + 2, _, by omega, c_numeral H1.1.ts, fun z m2 h2 _ _ => ⟨m1, e1, h2⟩⟩
theorem c_readLine (h : RdM T N r Z cs m) (hz : ZI N Z cs) (hR : LnR T N Z cs R) : CV l G Y_M_readLine (d + 6) [.inr (.inr 70)] m (LeM T N r R m) := by
  obtain ⟨hH, hB⟩ := h
  have hI := hz.1
  have hC := hz.2
  have hN := hH.1.2.2.1
  have hZ2 : 0 ≤ Z 2 ∧ Z 2 ≤ 1600 := by omega
  have z1 := hC.1
  obtain ⟨x5, x6, x7⟩ := hC.2.2.2.1
  obtain ⟨hr, hr0, hr1, hr5⟩ := hH.2.2
  have rg : 0 ≤ r ∧ r < 2 := ⟨hr0, by omega⟩
  have hw := fun {w : Int} (hw : w ∈ KW) => hH.1.word hw
  have h83 := hH.1.bad.2.2
  have kdl : kd T N (Z 0) ≤ 114 := by
    rcases hH.1.sort with ⟨-, g2⟩ | ⟨-, g2⟩ | ⟨-, g2, -⟩ | ⟨-, g2, g3⟩ | ⟨-, g2, -⟩ | ⟨-, g2, g3⟩
    · omega
    · omega
    · omega
    · have := kwF_in.1 g2; omega
    · omega
    · have := sgn_rng g3; omega
  generalize hQ : LeM T N r R m = Q
  -- a fault at once
  have bad : ∀ x, R = .inl (bdF T N (Z 0)) → ∃ (e6 : Nat) (P7 : MM → Prop), e6 < d + 6 ∧ CV l G Y_M_misplaced e6 [.inr (.inr 70)] m P7 ∧ (∀ m13, P7 m13 → wfM m13 → (Wq l G false Y_M_readLine (d + 6) (QV Q) 24 [(0, .inr (.inr 70)), (1, .inr (.inl x))] [] m13)) := by
    intro x hR
    refine ⟨d + 1, _, by omega, c_misplacedM2, fun m1 h1 _ => ?_⟩
    obtain ⟨g1, g2⟩ := hH.mis h1 hR
    refine s_M_readLine_24 _ (fun _ _ => ⟨d, _, by omega, c_isGoodM2, fun z m2 hz _ _ => ?_⟩)
    obtain ⟨hz, rfl⟩ := hz
    refine ⟨fun c => absurd (hz.mpr g1.ne) c, fun _ => ?_⟩
    rw [← hQ]
    exact ⟨FrR.of g2 (by decide), Or.inl g1⟩
  -- the end
  have fin : ∀ x m1, LpM T N r R m m1 → x ≠ 1819632491 → x ≠ 1685217655 → Wq l G false Y_M_readLine (d + 6) (QV Q) 84 [(0, .inr (.inr 70)), (1, .inr (.inl x))] [] m1 := by
    intro x m1 h1 n1 n2
    refine s_M_readLine_84 _ (fun _ _ => ⟨fun _ => ⟨fun _ => ?_, fun c => absurd n2 c⟩, fun c => absurd n1 c⟩)
    exact c_semi (d := d + 2) h1 (fun m' h' => by rw [← hQ]; exact h')
  have b2 : kd T N (Z 0) ≠ 1 → R = .inl (2, plc T N (Z 0)) → R = .inl (bdF T N (Z 0)) := fun n e => by rw [e, bdF_ne.2 n]
  refine e_M_readLine (fun _ => ⟨fun c3 => bad _ ?_, fun c3 => ⟨d + 1, _, by omega, c_isFull hH hB hC, fun z m1 hz1 _ _ => ?_⟩⟩)
  · have n100 : ¬ 100 ≤ kd T N (Z 0) := fun g => c3 (h83.mpr g)
    rcases hR with ⟨k1, -⟩ | ⟨k1, -⟩ | ⟨k1, -⟩ | ⟨k1, -⟩ | ⟨k1, -⟩ | ⟨k1, -⟩ | ⟨k1, -⟩ | ⟨k1, -⟩ | ⟨k1, -⟩ | ⟨k1, -⟩ | ⟨-, k2⟩
    · omega
    · omega
    · omega
    · omega
    · omega
    · omega
    · omega
    · omega
    · omega
    · omega
    · exact k2
  · obtain ⟨y1, y2, y3, y4, y5, y6, rfl⟩ := hz1
    have t3 : m 70 8 = 3 := Classical.not_not.mp c3
    have nm : ∀ {w W : Int}, w ∈ KW → kwF w = W → (m 70 10 = w ↔ kd T N (Z 0) = W) := fun hw' hW => by
      rw [← hW]
      exact ⟨fun e => (hw hw').mp ⟨t3, e⟩, fun e => ((hw hw').mpr e).2⟩
    have nP := nm (w := 482854663269) (W := 100) (by decide) (by decide)
    have nC := nm (w := 426954290277) (W := 102) (by decide) (by decide)
    have nD := nm (w := 431415716206) (W := 104) (by decide) (by decide)
    have nF := nm (w := 439721159795) (W := 105) (by decide) (by decide)
    have nL := nm (w := 1819632491) (W := 106) (by decide) (by decide)
    have nW := nm (w := 1685217655) (W := 107) (by decide) (by decide)
    have k1 : kd T N (Z 0) ≠ 1 := fun e => by have := h83.mp t3; omega
    -- going on
    have go : (∀ m1, GoP N m m1 → HdM T N r (en T N (Z 0)) m1 → BdM r Z cs m1 → FrR r m m1 → ((m 70 10 ≠ 482854663269 → ((m 70 10 ≠ 426954290277 → ((m 70 10 ≠ 431415716206 → ((m 70 10 ≠ 439721159795 → (Wq l G false Y_M_readLine (d + 6) (QV Q) 84 [(0, .inr (.inr 70)), (1, .inr (.inl (m 70 10)))] [] m1)) ∧ (¬ (m 70 10 ≠ 439721159795) → (∃ (e48 : Nat) (P49 : MM → Prop), e48 < d + 6 ∧ CV l G Y_M_readRule e48 [.inr (.inr 70)] m1 P49 ∧ (∀ m55, P49 m55 → wfM m55 → (Wq l G false Y_M_readLine (d + 6) (QV Q) 84 [(0, .inr (.inr 70)), (1, .inr (.inl (m 70 10)))] [] m55)))))) ∧ (¬ (m 70 10 ≠ 431415716206) → (∃ (e59 : Nat) (P60 : MM → Prop), e59 < d + 6 ∧ CV l G Y_M_readDrain e59 [.inr (.inr 70)] m1 P60 ∧ (∀ m66, P60 m66 → wfM m66 → ((m 70 10 ≠ 439721159795 → (Wq l G false Y_M_readLine (d + 6) (QV Q) 84 [(0, .inr (.inr 70)), (1, .inr (.inl (m 70 10)))] [] m66)) ∧ (¬ (m 70 10 ≠ 439721159795) → False))))))) ∧ (¬ (m 70 10 ≠ 426954290277) → (∃ (e86 : Nat) (P87 : MM → Prop), e86 < d + 6 ∧ CV l G Y_M_readChute e86 [.inr (.inr 70)] m1 P87 ∧ (∀ m93, P87 m93 → wfM m93 → (m 70 10 ≠ 431415716206 ∧ m 70 10 ≠ 439721159795 ∧ (Wq l G false Y_M_readLine (d + 6) (QV Q) 84 [(0, .inr (.inr 70)), (1, .inr (.inl (m 70 10)))] [] m93))))))) ∧ (¬ (m 70 10 ≠ 482854663269) → (∃ (e145 : Nat) (P146 : MM → Prop), e145 < d + 6 ∧ CV l G Y_M_readPlate e145 [.inr (.inr 70)] m1 P146 ∧ (∀ m152, P146 m152 → wfM m152 → (m 70 10 ≠ 426954290277 ∧ m 70 10 ≠ 431415716206 ∧ m 70 10 ≠ 439721159795 ∧ (Wq l G false Y_M_readLine (d + 6) (QV Q) 84 [(0, .inr (.inr 70)), (1, .inr (.inl (m 70 10)))] [] m152))))))) → Wq l G false Y_M_readLine (d + 6) (QV Q) 24 [(0, .inr (.inr 70)), (1, .inr (.inl (m 70 10)))] [] m := by
      intro hgo
      refine s_M_readLine_24 _ (fun _ _ => ⟨d, _, by omega, c_isGoodM2, fun z2 m2 hz2 _ _ => ?_⟩)
      obtain ⟨hz2, rfl⟩ := hz2
      refine ⟨fun _ => ⟨d + 1, _, by omega, c_goOnM2 hH.1.ts, fun m2 g2 _ => ?_⟩, fun c => absurd hH.2.1 (hz2.mp (Classical.not_not.mp c))⟩
      have g2 : GoP N m m2 := g2
      obtain ⟨gA, gB⟩ := hgo m2 g2 (hH.go g2) (hB.fro g2.1 (by decide)) (FrR.of g2.1 (by decide))
      refine ⟨fun cP => ?_, fun cP => ?_⟩
      · obtain ⟨gC, gD⟩ := gA cP
        refine ⟨fun cC => ?_, fun cC => ?_⟩
        · obtain ⟨gE, gF⟩ := gC cC
          refine ⟨gE, fun cD => ?_⟩
          obtain ⟨e, Pp, he, hP, hK⟩ := gF cD
          exact ⟨e, Pp, he, hP, fun m3 h3 w3 => ⟨(hK m3 h3 w3).1, fun c => ((hK m3 h3 w3).2 c).elim⟩⟩
        · obtain ⟨e, Pp, he, hP, hK⟩ := gD cC
          exact ⟨e, Pp, he, hP, fun m3 h3 w3 => ⟨fun _ => ⟨fun _ => (hK m3 h3 w3).2.2, fun c => absurd (hK m3 h3 w3).2.1 c⟩, fun c => absurd (hK m3 h3 w3).1 c⟩⟩
      · obtain ⟨e, Pp, he, hP, hK⟩ := gB cP
        exact ⟨e, Pp, he, hP, fun m3 h3 w3 => ⟨fun _ => ⟨fun _ => ⟨fun _ => (hK m3 h3 w3).2.2.2, fun c => absurd (hK m3 h3 w3).2.2.1 c⟩, fun c => absurd (hK m3 h3 w3).2.1 c⟩, fun c => absurd (hK m3 h3 w3).1 c⟩⟩
    refine ⟨fun c0 => ?_, fun c0 => bad _ ?_⟩
    · -- a good first word
      have fin2 : ∀ m0 m1, FrR r m m0 → LpM T N r R m0 m1 → m 70 10 ≠ 1819632491 → m 70 10 ≠ 1685217655 → Wq l G false Y_M_readLine (d + 6) (QV Q) 84 [(0, .inr (.inr 70)), (1, .inr (.inl (m 70 10)))] [] m1 := fun m0 m1 f h1 n1 n2 => fin _ m1 ⟨f.tr h1.1, h1.2⟩ n1 n2
      rcases hR with ⟨k1, k2, -⟩ | ⟨k1, k2, k3⟩ | ⟨k1, k3⟩ | ⟨k1, k3⟩ | ⟨k1, k2, -⟩ | ⟨k1, k2, k3⟩ | ⟨k1, k2, -⟩ | ⟨k1, k2, k3⟩ | ⟨k1, k2, -⟩ | ⟨k1, k2, k3⟩ | ⟨k1, -⟩
      · have := (y1 k1).mp c0; omega
      · have e := nP.mpr k1
        refine go (fun m1 g1 H1 B1 f1 => ⟨fun c => absurd e c, fun _ => ⟨d + 4, _, by omega, c_readPlate H1 B1 hC k2 k3, fun m2 h2 _ => ⟨by rw [e]; decide, by rw [e]; decide, by rw [e]; decide, fin2 m1 m2 f1 h2 (by rw [e]; decide) (by rw [e]; decide)⟩⟩⟩)
      · have e := nC.mpr k1
        refine go (fun m1 g1 H1 B1 f1 => ⟨fun _ => ⟨fun c => absurd e c, fun _ => ⟨d + 4, _, by omega, c_readChute H1 B1 hC hZ2 k3, fun m2 h2 _ => ⟨by rw [e]; decide, by rw [e]; decide, fin2 m1 m2 f1 h2 (by rw [e]; decide) (by rw [e]; decide)⟩⟩⟩, fun c => absurd (by rw [e]; decide) c⟩)
      · have e := nD.mpr k1
        refine go (fun m1 g1 H1 B1 f1 => ⟨fun _ => ⟨fun _ => ⟨fun c => absurd e c, fun _ => ⟨d + 4, _, by omega, c_readDrain H1 B1 hC hZ2 k3, fun m2 h2 _ => ⟨fun _ => fin2 m1 m2 f1 h2 (by rw [e]; decide) (by rw [e]; decide), fun c => absurd (by rw [e]; decide) c⟩⟩⟩, fun c => absurd (by rw [e]; decide) c⟩, fun c => absurd (by rw [e]; decide) c⟩)
      · exact absurd ((y3 k1).mp c0) k2
      · have e := nF.mpr k1
        refine go (fun m1 g1 H1 B1 f1 => ⟨fun _ => ⟨fun _ => ⟨fun _ => ⟨fun c => absurd e c, fun _ => ⟨d + 5, _, by omega, c_readRule H1 B1 hC k2 k3, fun m2 h2 _ => fin2 m1 m2 f1 h2 (by rw [e]; decide) (by rw [e]; decide)⟩⟩, fun c => absurd (by rw [e]; decide) c⟩, fun c => absurd (by rw [e]; decide) c⟩, fun c => absurd (by rw [e]; decide) c⟩)
      · exact absurd ((y4 k1).mp c0) k2
      · have e := nL.mpr k1
        have tl := (tld x5 x6 x7).2.2.2.2.1
        refine go (fun m1 g1 H1 B1 f1 => ⟨fun _ => ⟨fun _ => ⟨fun _ => ⟨fun _ => ?_, fun c => absurd (by rw [e]; decide) c⟩, fun c => absurd (by rw [e]; decide) c⟩, fun c => absurd (by rw [e]; decide) c⟩, fun c => absurd (by rw [e]; decide) c⟩)
        refine s_M_readLine_84 _ (fun _ _ => ⟨fun c => absurd e c, fun _ => ⟨d + 3, _, by omega, c_once H1, fun v m2 h2 _ _ => ?_⟩⟩)
        obtain ⟨mA, eA, h2⟩ := h2
        have HA : HdM T N r (en T N (Z 0)) mA := by rw [eA]; exact H1.put (by decide) (by decide)
        have fA : FrR r m mA := f1.tr (FrR.pt eA (Or.inr (Or.inl ⟨by decide, rfl⟩)))
        rw [H1.2.2.1]
        refine ⟨rg, fun m3 e3 => ⟨fun _ => ?_, fun c => absurd (by rw [e]; decide) c⟩⟩
        refine c_semi (d := d + 2) (R := R) (m0 := m) ?_ (fun m' h' => by rw [← hQ]; exact h')
        rcases num_of HA h2 k3 with ⟨-, F2, f2⟩ | ⟨q', hs, H2, f2⟩
        · refine ⟨fA.tr ((FrR.of f2 (by decide)).tr (FrR.pt e3 (Or.inr (Or.inl ⟨by decide, rfl⟩)))), Or.inl ?_⟩
          rw [e3]; exact F2.put (by decide) (by decide)
        · refine ⟨fA.tr ((FrR.of f2 (by decide)).tr (FrR.pt e3 (Or.inr (Or.inl ⟨by decide, rfl⟩)))), Or.inr ⟨q', _, cs, hs, by rw [e3]; exact H2.put (by decide) (by decide), ?_⟩⟩
          obtain ⟨⟨p1, pa, pb, pc, pd, pe⟩, p2, p3, p4, p5, p6⟩ := B1
          have kk : ∀ c, c ≠ 70 → c ≠ 76 → c ≠ 78 → m3 c = m1 c := fun c c0 c1 c2 => by rw [e3, up_ne c1, f2.1 c (by simp) c0, eA, up_ne c2]
          have k30 : m3 70 30 = m1 70 30 := by rw [e3, up_ne (by decide), f2.2 30 (by decide), eA, up_ne (by decide)]
          have k78 : m3 78 r = Z 5 + 2 * 1 + 4 * Z 7 := by rw [e3, up_ne (by decide), f2.1 78 (by simp) (by decide), eA, up_at, pe, tl]
          have eY : ∀ k, k ≠ 3 → k ≠ 6 → ud (ud Z 6 1) 3 v k = Z k := fun k a b => by rw [ud_ne a, ud_ne b]
          have eY3 : ud (ud Z 6 1) 3 v 3 = v := ud_at
          have eY6 : ud (ud Z 6 1) 3 v 6 = 1 := by rw [ud_ne (by decide), ud_at]
          generalize ud (ud Z 6 1) 3 v = Y at eY eY3 eY6
          unfold BdM CdM
          rw [kk 73 (by decide) (by decide) (by decide), kk 74 (by decide) (by decide) (by decide), kk 75 (by decide) (by decide) (by decide), kk 77 (by decide) (by decide) (by decide), kk 79 (by decide) (by decide) (by decide), kk 80 (by decide) (by decide) (by decide), kk 81 (by decide) (by decide) (by decide), kk 82 (by decide) (by decide) (by decide), kk 83 (by decide) (by decide) (by decide), kk 84 (by decide) (by decide) (by decide), kk 85 (by decide) (by decide) (by decide), kk 86 (by decide) (by decide) (by decide), k30, k78, eY3, eY6, eY 1 (by decide) (by decide), eY 2 (by decide) (by decide), eY 4 (by decide) (by decide), eY 5 (by decide) (by decide), eY 7 (by decide) (by decide), eY 8 (by decide) (by decide)]
          refine ⟨⟨p1, pa, by rw [e3, up_at], pc, pd, rfl⟩, fun i i0 i1 => ?_, fun i i0 i1 => ?_, fun i j i0 i1 j0 j1 => ?_, p5, p6⟩
          · rw [eY (10 + i) (by omega) (by omega), eY (20 + i) (by omega) (by omega)]; exact p2 i i0 i1
          · rw [eY (30 + i) (by omega) (by omega)]; exact p3 i i0 i1
          · rw [eY (40 + 5 * i + j) (by omega) (by omega)]; exact p4 i j i0 i1 j0 j1
      · exact absurd ((y5 k1).mp c0) k2
      · have e := nW.mpr k1
        have tl := (tld x5 x6 x7).2.2.2.2.2
        refine go (fun m1 g1 H1 B1 f1 => ⟨fun _ => ⟨fun _ => ⟨fun _ => ⟨fun _ => ?_, fun c => absurd (by rw [e]; decide) c⟩, fun c => absurd (by rw [e]; decide) c⟩, fun c => absurd (by rw [e]; decide) c⟩, fun c => absurd (by rw [e]; decide) c⟩)
        refine s_M_readLine_84 _ (fun _ _ => ⟨fun _ => ⟨fun c => absurd e c, fun _ => ⟨d + 3, _, by omega, c_once H1, fun v m2 h2 _ _ => ?_⟩⟩, fun c => absurd (by rw [e]; decide) c⟩)
        obtain ⟨mA, eA, h2⟩ := h2
        have HA : HdM T N r (en T N (Z 0)) mA := by rw [eA]; exact H1.put (by decide) (by decide)
        have fA : FrR r m mA := f1.tr (FrR.pt eA (Or.inr (Or.inl ⟨by decide, rfl⟩)))
        rw [H1.2.2.1]
        refine ⟨rg, fun m3 e3 => ?_⟩
        refine c_semi (d := d + 2) (R := R) (m0 := m) ?_ (fun m' h' => by rw [← hQ]; exact h')
        rcases num_of HA h2 k3 with ⟨-, F2, f2⟩ | ⟨q', hs, H2, f2⟩
        · refine ⟨fA.tr ((FrR.of f2 (by decide)).tr (FrR.pt e3 (Or.inr (Or.inl ⟨by decide, rfl⟩)))), Or.inl ?_⟩
          rw [e3]; exact F2.put (by decide) (by decide)
        · refine ⟨fA.tr ((FrR.of f2 (by decide)).tr (FrR.pt e3 (Or.inr (Or.inl ⟨by decide, rfl⟩)))), Or.inr ⟨q', _, cs, hs, by rw [e3]; exact H2.put (by decide) (by decide), ?_⟩⟩
          obtain ⟨⟨p1, pa, pb, pc, pd, pe⟩, p2, p3, p4, p5, p6⟩ := B1
          have kk : ∀ c, c ≠ 70 → c ≠ 77 → c ≠ 78 → m3 c = m1 c := fun c c0 c1 c2 => by rw [e3, up_ne c1, f2.1 c (by simp) c0, eA, up_ne c2]
          have k30 : m3 70 30 = m1 70 30 := by rw [e3, up_ne (by decide), f2.2 30 (by decide), eA, up_ne (by decide)]
          have k78 : m3 78 r = Z 5 + 2 * Z 6 + 4 * 1 := by rw [e3, up_ne (by decide), f2.1 78 (by simp) (by decide), eA, up_at, pe, tl]
          have eY : ∀ k, k ≠ 4 → k ≠ 7 → ud (ud Z 7 1) 4 v k = Z k := fun k a b => by rw [ud_ne a, ud_ne b]
          have eY4 : ud (ud Z 7 1) 4 v 4 = v := ud_at
          have eY7 : ud (ud Z 7 1) 4 v 7 = 1 := by rw [ud_ne (by decide), ud_at]
          generalize ud (ud Z 7 1) 4 v = Y at eY eY4 eY7
          unfold BdM CdM
          rw [kk 73 (by decide) (by decide) (by decide), kk 74 (by decide) (by decide) (by decide), kk 75 (by decide) (by decide) (by decide), kk 76 (by decide) (by decide) (by decide), kk 79 (by decide) (by decide) (by decide), kk 80 (by decide) (by decide) (by decide), kk 81 (by decide) (by decide) (by decide), kk 82 (by decide) (by decide) (by decide), kk 83 (by decide) (by decide) (by decide), kk 84 (by decide) (by decide) (by decide), kk 85 (by decide) (by decide) (by decide), kk 86 (by decide) (by decide) (by decide), k30, k78, eY4, eY7, eY 1 (by decide) (by decide), eY 2 (by decide) (by decide), eY 3 (by decide) (by decide), eY 5 (by decide) (by decide), eY 6 (by decide) (by decide), eY 8 (by decide) (by decide)]
          refine ⟨⟨p1, pa, pb, by rw [e3, up_at], pd, rfl⟩, fun i i0 i1 => ?_, fun i i0 i1 => ?_, fun i j i0 i1 j0 j1 => ?_, p5, p6⟩
          · rw [eY (10 + i) (by omega) (by omega), eY (20 + i) (by omega) (by omega)]; exact p2 i i0 i1
          · rw [eY (30 + i) (by omega) (by omega)]; exact p3 i i0 i1
          · rw [eY (40 + 5 * i + j) (by omega) (by omega)]; exact p4 i j i0 i1 j0 j1
      · exact absurd c0 (y6 k1)
    · -- a word out of place
      rcases hR with ⟨-, -, k3⟩ | ⟨k2, k3, -⟩ | ⟨k2, -⟩ | ⟨k2, -⟩ | ⟨-, -, k3⟩ | ⟨k2, k3, -⟩ | ⟨-, -, k3⟩ | ⟨k2, k3, -⟩ | ⟨-, -, k3⟩ | ⟨k2, k3, -⟩ | ⟨-, k3⟩
      · exact b2 k1 k3
      · exact absurd ((y1 k2).mpr (by omega)) c0
      · exact absurd (y2 (Or.inl k2)) c0
      · exact absurd (y2 (Or.inr k2)) c0
      · exact b2 k1 k3
      · exact absurd ((y3 k2).mpr k3) c0
      · exact b2 k1 k3
      · exact absurd ((y4 k2).mpr k3) c0
      · exact b2 k1 k3
      · exact absurd ((y5 k2).mpr k3) c0
      · exact k3
end LinesM5
