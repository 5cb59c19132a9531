/-! a line read by the class -/
section LineX3
variable {l : Launch} {G : GT} {d : Nat} {m m' m1 : MM} {b : Nat} {T : Int → Int} {N q : Int} {Z : Int → Int} {cs : List Int}
theorem BdX.zero {x : Int} (h : BdX b Z cs m) : BdX b (ud Z 0 x) cs m := by
  obtain ⟨p1, pt, pn, ph, pD, pW, pc⟩ := h
  have e : ∀ k, k ≠ 0 → ud Z 0 x k = Z k := fun k a => ud_ne a
  unfold BdX
  rw [e 1 (by decide), e 2 (by decide), e 3 (by decide), e 4 (by decide), e 5 (by decide), e 6 (by decide), e 7 (by decide), e 8 (by decide)]
  refine ⟨p1, pt, fun i i0 i1 => ?_, fun i i0 i1 => ?_, fun i i0 i1 => ?_, fun i j i0 i1 j0 j1 => ?_, pc⟩
  · rw [e (10 + i) (by omega)]; exact pn i i0 i1
  · rw [e (20 + i) (by omega)]; exact ph i i0 i1
  · rw [e (30 + i) (by omega)]; exact pD i i0 i1
  · rw [e (40 + 5 * i + j) (by omega)]; exact pW i j i0 i1 j0 j1
theorem c_expectY {x : Int} (hG : GVok G) (h : HdX T N b q m) : CV l G Y_Reader_expect (d + 5) [.inr (.inr 2), .inl x] m (fun m' => FrT m m' ∧ (kd T N q = x → HdX T N b (en T N q) m') ∧ (kd T N q ≠ x → FyX b (bdF T N q) m')) := by
  have h4 := h.1.2.2.2.1
  refine e_Reader_expect x (fun _ _ => ⟨fun _ => ?_, fun c => absurd h.2.1 c⟩)
  rw [h4]
  refine ⟨fun c => ⟨d + 1, _, by omega, c_refuseY h, fun m1 h1 _ => ⟨h1.2, fun q => absurd q c, fun _ => h1.1⟩⟩, fun c => ⟨d + 4, _, by omega, c_nextX2 hG h.1, fun m1 h1 _ => ⟨FrT.next h1.1, fun _ => h.next h1.1 h1.2, fun q => absurd (Classical.not_not.mp c) q⟩⟩⟩
/-- behind a line -/
def LyX (T : Int → Int) (N : Int) (b : Nat) (Pl : Rz → Prop) (m m' : MM) : Prop := FrY b m m' ∧ ∃ R, Pl R ∧ ((∃ f, R = .inl f ∧ FyX b f m') ∨ ∃ Y c, R = .inr (Y, c) ∧ HdX T N b (Y 0) m' ∧ BdX b Y c m')
theorem c_semiX (hG : GVok G) {Pl : Rz → Prop} {m0 : MM} (h : LqX T N b Pl m0 m) {P : MM → Prop} (hP : ∀ m', LyX T N b Pl m0 m' → P m') {D : Nat} (hD : 5 < D) : ∃ (e43 : Nat) (P44 : MM → Prop), e43 < D ∧ CV l G Y_Reader_expect e43 [.inr (.inr 2), .inl 59] m P44 ∧ (∀ m50, P44 m50 → wfM m50 → (P m50)) := by
  obtain ⟨f, h⟩ := h
  rcases h with ⟨g, hg, hm⟩ | ⟨q, Y, c, H, B, hs⟩
  · refine ⟨5, _, hD, e_Reader_expect (P := fun m' => m' = m) 59 (fun _ _ => ⟨fun c => absurd (hm.1.symm.trans c) hm.2.2.1, fun _ => rfl⟩), fun m1 e1 _ => hP m1 ?_⟩
    subst e1
    exact ⟨f, _, hg, Or.inl ⟨g, rfl, hm⟩⟩
  · refine ⟨5, _, hD, c_expectY (d := 0) hG H, fun m1 h1 _ => hP m1 ?_⟩
    obtain ⟨f1, a, c2⟩ := h1
    refine ⟨f.tr f1.fry, ?_⟩
    by_cases k : kd T N q = 59
    · exact ⟨_, hs _ (Or.inl ⟨k, rfl⟩), Or.inr ⟨_, _, rfl, by rw [ud_at]; exact a k, (B.frt H.2.2.2.2 f1).zero⟩⟩
    · exact ⟨_, hs _ (Or.inr ⟨k, rfl⟩), Or.inl ⟨_, rfl, c2 k⟩⟩
theorem FrX.fry (h : FrX b m m') : FrY b m m' := fun a i hi => h a i (fun g => hi (by
  rcases g with g | g | g | g | g
  · exact Or.inl ⟨g.1, by omega, by omega⟩
  · exact Or.inr (Or.inl g.1)
  · exact Or.inr (Or.inr (Or.inr (by omega)))
  · exact Or.inr (Or.inr (Or.inr (by omega)))
  · exact Or.inr (Or.inr (Or.inr (by omega)))))
/-- falls -/
theorem c_ruleX (hG : GVok G) (h : HdX T N b q m) (hB : BdX b Z cs m) (hZ : ZC Z cs) (h5 : Z 5 = 0) {m0 : MM} (e0 : m0 = up m 2 3 1) : CV l G Y_Reader_readEither 54 [.inr (.inr 2), .inl 0] m0 (LqX T N b (ruR T N Z q) m) := by
  have hb := h.2.2.2
  have nb := isB_ne hb.2
  obtain ⟨z8, rfl⟩ := hZ.2.2.2.2.2.2.2.2.2.1 h5
  have kk : ∀ a, a ≠ 2 → m0 a = m a := fun a ha => by rw [e0, up_ne ha]
  have k2 : ∀ i : Int, i ≠ 3 → m0 2 i = m 2 i := fun i hi => by rw [e0, up_off hi]
  have F0 : FxS T N b q 0 [] m0 := by
    refine ⟨h.1.fx hb.2 (fun a ha => kk a (by omega)), by rw [k2 6 (by decide)]; exact h.2.1, by rw [k2 7 (by decide)]; exact h.2.2.1, by rw [k2 2 (by decide)]; exact hb, ⟨by rw [kk b (by omega), hB.1.2.2.2.2, z8], by decide, by decide⟩, ?_, by decide⟩
    unfold CF
    rw [kk (b + 6) (by omega), kk (b + 6 + 1) (by omega)]
    exact hB.2.2.2.2.2.2
  have f0 : FrY b m m0 := FrY.pt e0 (Or.inl ⟨rfl, by decide, by decide⟩)
  refine (c_eitherX (l := l) (G := G) (T := T) (N := N) (b := b) hG [(8, 0)] q 0 [] m0 rfl (by decide) F0).imp (fun m1 h1 => ?_)
  obtain ⟨f1, h1⟩ := h1
  refine ⟨f0.tr f1.fry, ?_⟩
  rcases h1 with ⟨f, he, hf⟩ | ⟨p', u', ns, F1, a1, a2, a3, a4, a5, a6, a7⟩
  · exact Or.inl ⟨f, ⟨.inl f, he, (fun g e => by cases e; rfl), (fun p' u' c' e => by cases e)⟩, hf.1, hf.2.1, hf.2.2.1, hf.2.2.2.1⟩
  · have F1 : FxS T N b p' u' ns m1 := F1
    have hu := F1.2.2.2.2.1
    have kx : ∀ a i, ¬ rgX b a i → m1 a i = m0 a i := f1
    have hBd : BdX b (ud (ud Z 5 1) 8 u') ns m1 := by
      obtain ⟨⟨p0, p1, p2, p3, p4⟩, pt, pn, ph, pD, pW, pc⟩ := hB
      have kB : ∀ i : Int, i ≠ 4 → m1 b i = m b i := fun i hi => by
        rw [kx b i (fun g => by unfold rgX at g; omega), kk b (by omega)]
      have kA : ∀ a, a ≠ 2 → a ≠ 3 → a ≠ b → a ≠ b + 6 → a ≠ b + 7 → m1 a = m a := fun a c2 c3 cb c6 c7 => funext (fun i => by
        rw [kx a i (fun g => by unfold rgX at g; omega), kk a c2])
      have e : ∀ k, k ≠ 5 → k ≠ 8 → ud (ud Z 5 1) 8 u' k = Z k := fun k a c => by rw [ud_ne c, ud_ne a]
      have e5 : ud (ud Z 5 1) 8 u' 5 = 1 := by rw [ud_ne (by decide), ud_at]
      have e8 : ud (ud Z 5 1) 8 u' 8 = u' := ud_at
      generalize ud (ud Z 5 1) 8 u' = Y at e e5 e8
      unfold BdX
      rw [kB 0 (by decide), kB 1 (by decide), kB 2 (by decide), kB 3 (by decide), hu.1, kA 6 (by decide) (by decide) (by omega) (by omega) (by omega), kA (b + 1) (by omega) (by omega) (by omega) (by omega) (by omega), kA (b + 2) (by omega) (by omega) (by omega) (by omega) (by omega), kA (b + 3) (by omega) (by omega) (by omega) (by omega) (by omega), e 1 (by decide) (by decide), e 2 (by decide) (by decide), e 3 (by decide) (by decide), e 4 (by decide) (by decide), e5, e 6 (by decide) (by decide), e 7 (by decide) (by decide), e8]
      refine ⟨⟨p0, p1, p2, p3, rfl⟩, ⟨?_, ?_, ?_⟩, fun i i0 i1 => ?_, fun i i0 i1 => ?_, fun i i0 i1 => ?_, fun i j i0 i1 j0 j1 => ?_, F1.2.2.2.2.2.1⟩
      · rw [kx 2 3 (fun g => by unfold rgX at g; omega), e0, up_at]
      · rw [kx 2 4 (fun g => by unfold rgX at g; omega), k2 4 (by decide)]; exact pt.2.1
      · rw [kx 2 5 (fun g => by unfold rgX at g; omega), k2 5 (by decide)]; exact pt.2.2
      · rw [e (10 + i) (by omega) (by omega)]; exact pn i i0 i1
      · rw [e (20 + i) (by omega) (by omega)]; exact ph i i0 i1
      · rw [e (30 + i) (by omega) (by omega)]; exact pD i i0 i1
      · rw [e (40 + 5 * i + j) (by omega) (by omega)]; exact pW i j i0 i1 j0 j1
    have hp' := F1.1.2.1
    refine Or.inr ⟨p', _, ns, ⟨F1.1, F1.2.1, F1.2.2.1, F1.2.2.2.1⟩, hBd, fun R hR => ?_⟩
    rcases a5 with r0 | r4
    · refine ⟨.inr (p', u', ns), a6 (fun _ => by omega) _ (Eo.all rfl r0 Eo.done), (fun g e => by cases e), fun p2 u2 c2 e => ?_⟩
      cases e
      exact ⟨⟨hp'.1, hp'.2, a2⟩, hu.2, a4 0 (Int.le_refl 0) (Int.le_refl 0), hR⟩
    · have k1 : kd T N p' ≠ 1 := fun e => by rw [e] at r4; exact absurd r4 (by decide)
      have k59 : kd T N p' ≠ 59 := fun e => by rw [e] at r4; exact absurd r4 (by decide)
      rcases hR with ⟨g, -⟩ | ⟨-, g⟩
      · exact absurd g k59
      · rw [bdF_ne.2 k1] at g
        exact ⟨.inl (2, plc T N p'), a7 trivial r4, (fun f e => by cases e; exact g), (fun p2 u2 c2 e => by cases e)⟩
/-- what may begin a line -/
theorem c_canBegin (hb : m 2 2 = b ∧ isB b) (hB : BdX b Z cs m) {x : Int} : CI l G Y_Reader_canBegin d [.inr (.inr 2), .inl x] m (fun z m' => m = m' ∧ (z ≠ 0 ↔ ((x = 100 ∧ Z 1 < 5) ∨ x = 102 ∨ x = 104 ∨ (x = 105 ∧ Z 5 = 0) ∨ (x = 106 ∧ Z 6 = 0) ∨ (x = 107 ∧ Z 7 = 0)))) := by
  obtain ⟨t5, t6, t7⟩ := hB.2.1
  refine e_Reader_canBegin x (fun _ _ => ?_)
  rw [t5, t6, t7]
  refine ⟨fun c => ⟨b, hb.1, hb.2, ?_⟩, fun c => ⟨rfl, ⟨fun _ => by omega, fun _ => by decide⟩⟩, fun c => ⟨rfl, ⟨fun _ => by omega, fun _ => by decide⟩⟩, fun c => ⟨fun c2 => ⟨rfl, ⟨fun g => absurd rfl g, fun g => by omega⟩⟩, fun c2 => ⟨rfl, ⟨fun _ => by omega, fun _ => by decide⟩⟩⟩, fun c => ⟨fun c2 => ⟨rfl, ⟨fun g => absurd rfl g, fun g => by omega⟩⟩, fun c2 => ⟨rfl, ⟨fun _ => by omega, fun _ => by decide⟩⟩⟩, fun c => ⟨fun c2 => ⟨rfl, ⟨fun g => absurd rfl g, fun g => by omega⟩⟩, fun c2 => ⟨rfl, ⟨fun _ => by omega, fun _ => by decide⟩⟩⟩, fun c1 c2 c3 c4 c5 c6 => ⟨rfl, ⟨fun g => absurd rfl g, fun g => by omega⟩⟩⟩
  rw [hB.1.1]
  exact ⟨fun c2 => ⟨rfl, ⟨fun g => absurd rfl g, fun g => by omega⟩⟩, fun c2 => ⟨rfl, ⟨fun _ => by omega, fun _ => by decide⟩⟩⟩
/-- a number told once: luck, draw -/
theorem BdX.once {k : Int} {f : Int} {v : Int} (h : BdX b Z cs m) (hb : isB b) (hk : (k = 2 ∧ f = 4) ∨ (k = 3 ∧ f = 5)) {m0 m2 m3 : MM} (e0 : m0 = up m 2 f 1) (ft : FrT m0 m2) (e3 : m3 = up m2 b k v) : BdX b (ud (ud Z (f + 2) 1) (k + 1) v) cs m3 := by
  have nb := isB_ne hb
  obtain ⟨⟨p0, p1, p2, p3, p4⟩, pt, pn, ph, pD, pW, pc⟩ := h
  have kA : ∀ a, a ≠ 2 → a ≠ 3 → a ≠ b → m3 a = m a := fun a c2 c3 cb => funext (fun i => by
    rw [e3, up_ne cb, ft a i (fun g => by unfold rgT at g; omega), e0, up_ne c2])
  have kB : ∀ i : Int, i ≠ k → m3 b i = m b i := fun i hi => by
    rw [e3, up_off hi, ft b i (fun g => by unfold rgT at g; omega), e0, up_ne (by omega)]
  have kBk : m3 b k = v := by rw [e3, up_at]
  have kT : ∀ i : Int, i ≠ 6 → i ≠ 7 → m3 2 i = m0 2 i := fun i h6 h7 => by
    rw [e3, up_ne (by omega), ft 2 i (fun g => by unfold rgT at g; omega)]
  have kTf : m0 2 f = 1 := by rw [e0, up_at]
  have kTo : ∀ i : Int, i ≠ f → m0 2 i = m 2 i := fun i hi => by rw [e0, up_off hi]
  have e : ∀ j, j ≠ f + 2 → j ≠ k + 1 → ud (ud Z (f + 2) 1) (k + 1) v j = Z j := fun j a c => by rw [ud_ne c, ud_ne a]
  have eF : ud (ud Z (f + 2) 1) (k + 1) v (f + 2) = 1 := by rw [ud_ne (by omega), ud_at]
  have eK : ud (ud Z (f + 2) 1) (k + 1) v (k + 1) = v := ud_at
  generalize ud (ud Z (f + 2) 1) (k + 1) v = Y at e eF eK
  unfold BdX CF
  rw [kB 0 (by omega), kB 1 (by omega), kB 4 (by omega), kA 6 (by decide) (by decide) (by omega), kA (b + 1) (by omega) (by omega) (by omega), kA (b + 2) (by omega) (by omega) (by omega), kA (b + 3) (by omega) (by omega) (by omega), kA (b + 6) (by omega) (by omega) (by omega), kA (b + 6 + 1) (by omega) (by omega) (by omega), kT 3 (by decide) (by decide), kT 4 (by decide) (by decide), kT 5 (by decide) (by decide), kTo 3 (by omega), e 1 (by omega) (by omega), e 2 (by omega) (by omega), e 5 (by omega) (by omega), e 8 (by omega) (by omega)]
  have names : (∀ i, 0 ≤ i → i < Z 1 → m 6 i = cvN 8 (Y (10 + i))) := fun i i0 i1 => by rw [e (10 + i) (by omega) (by omega)]; exact pn i i0 i1
  have hs : (∀ i, 0 ≤ i → i < 5 → m (b + 1) i = if i < Z 1 then Y (20 + i) else 0) := fun i i0 i1 => by rw [e (20 + i) (by omega) (by omega)]; exact ph i i0 i1
  have ds : (∀ i, 0 ≤ i → i < 5 → m (b + 3) i = Y (30 + i)) := fun i i0 i1 => by rw [e (30 + i) (by omega) (by omega)]; exact pD i i0 i1
  have ws : (∀ i j, 0 ≤ i → i < 5 → 0 ≤ j → j < 5 → m (b + 2) (i * 5 + j) = Y (40 + 5 * i + j)) := fun i j i0 i1 j0 j1 => by rw [e (40 + 5 * i + j) (by omega) (by omega)]; exact pW i j i0 i1 j0 j1
  rcases hk with ⟨rfl, rfl⟩ | ⟨rfl, rfl⟩
  · have e6 : Y 6 = 1 := eF
    have e3' : Y 3 = v := eK
    rw [kBk, kB 3 (by decide), kTf, kTo 5 (by decide), e3', e6, e 4 (by decide) (by decide), e 7 (by decide) (by decide)]
    exact ⟨⟨p0, p1, rfl, p3, p4⟩, ⟨pt.1, rfl, pt.2.2⟩, names, hs, ds, ws, pc⟩
  · have e7 : Y 7 = 1 := eF
    have e4' : Y 4 = v := eK
    rw [kBk, kB 2 (by decide), kTf, kTo 4 (by decide), e4', e7, e 3 (by decide) (by decide), e 6 (by decide) (by decide)]
    exact ⟨⟨p0, p1, p2, rfl, p4⟩, ⟨pt.1, pt.2.1, rfl⟩, names, hs, ds, ws, pc⟩
theorem c_lineX (hG : GVok G) (h : HdX T N b (Z 0) m) (hB : BdX b Z cs m) (hZ : ZI N Z cs) : CV l G Y_Reader_readLine (d + 55) [.inr (.inr 2)] m (LyX T N b (LnR T N Z cs) m) := by
  have h4 := h.1.2.2.2.1
  have hb := h.2.2.2
  have nb := isB_ne hb.2
  have hN := h.1.1.2.2.2.1
  have hI := hZ.1
  have hC := hZ.2
  have z1 := hC.1
  obtain ⟨x5, x6, x7⟩ := hC.2.2.2.1
  have hZ2 : 0 ≤ Z 2 ∧ Z 2 ≤ 1600 := by omega
  generalize hQ : LyX T N b (LnR T N Z cs) m = Q
  refine e_Reader_readLine (fun _ => ?_)
  rw [h4]
  refine ⟨d, _, by omega, c_canBegin hb hB, fun z m1 hz _ _ => ?_⟩
  obtain ⟨rfl, hz⟩ := hz
  refine ⟨fun cz => ⟨d + 54, _, by omega, c_nextX2 (d := d + 50) hG h.1, fun m1 h1 _ => ?_⟩, fun cz => ⟨d + 54, _, by omega, c_refuseY (d := d + 53) h, fun m1 h1 _ => ?_⟩⟩
  · have hz := hz.mp cz
    have H1 := h.next h1.1 h1.2
    have B1 := hB.frt hb.2 (FrT.next h1.1)
    have f1 : FrY b m m1 := (FrT.next h1.1).fry
    have semi : ∀ (Pl : Rz → Prop) (mA m2 : MM), FrY b m mA → LqX T N b Pl mA m2 → (∀ R, Pl R → LnR T N Z cs R) → ∃ (e43 : Nat) (P44 : MM → Prop), e43 < d + 55 ∧ CV l G Y_Reader_expect e43 [.inr (.inr 2), .inl 59] m2 P44 ∧ (∀ m50, P44 m50 → wfM m50 → (Q m50)) := fun Pl mA m2 fA h2 hPl => c_semiX hG h2 (fun m3 h3 => by
      rw [← hQ]
      obtain ⟨f3, R, hR, h3⟩ := h3
      exact ⟨fA.tr f3, R, hPl R hR, h3⟩) (by omega)
    refine ⟨fun k => ⟨d + 6, _, by omega, c_tellPlateX hG H1 B1 hC (by omega), fun m2 h2 _ => semi _ m1 m2 f1 h2 (fun R hR => Or.inr (Or.inl ⟨k, by omega, hR⟩))⟩, fun k => ⟨d + 7, _, by omega, c_chuteX hG H1 B1 hC hZ2, fun m2 h2 _ => semi _ m1 m2 f1 h2 (fun R hR => Or.inr (Or.inr (Or.inl ⟨k, hR⟩)))⟩, fun k => ⟨d + 7, _, by omega, c_drainX hG H1 B1 hC hZ2, fun m2 h2 _ => semi _ m1 m2 f1 h2 (fun R hR => Or.inr (Or.inr (Or.inr (Or.inl ⟨k, hR⟩))))⟩, fun k m2 e2 => ⟨54, _, by omega, c_ruleX hG H1 B1 hC (by omega) e2, fun m3 h3 _ => semi _ m1 m3 f1 h3 (fun R hR => Or.inr (Or.inr (Or.inr (Or.inr (Or.inr (Or.inl ⟨k, by omega, hR⟩))))))⟩, fun k m2 e2 => ?_, fun k0 k2 k4 k5 k6 m2 e2 => ?_⟩
    · have H2 : HdX T N b (en T N (Z 0)) m2 := by
        have kk : ∀ a, a ≠ 2 → m2 a = m1 a := fun a ha => by rw [e2, up_ne ha]
        exact ⟨H1.1.fx hb.2 (fun a ha => kk a (by omega)), by rw [e2, up_off (by decide)]; exact H1.2.1, by rw [e2, up_off (by decide)]; exact H1.2.2.1, by rw [e2, up_off (by decide)]; exact H1.2.2.2⟩
      refine ⟨b, H2.2.2.2.1, hb.2, d + 5, _, by omega, c_numX hG (by decide) H2, fun v m3 h3 _ _ m4 e4 => ?_⟩
      obtain ⟨f3, hv, h3⟩ := h3
      have B4 := B1.once hb.2 (Or.inl ⟨rfl, rfl⟩) e2 f3 e4
      refine semi (fun R => numR T N 0 100 (en T N (Z 0)) R (fun v q => semR T N q (ud (ud Z 6 1) 3 v) cs R)) m1 m4 f1 ⟨(FrY.pt e2 (Or.inl ⟨rfl, by decide, by decide⟩)).tr (f3.fry.tr (FrY.pt e4 (Or.inr (Or.inr (Or.inr (by omega)))))), ?_⟩ (fun R hR => Or.inr (Or.inr (Or.inr (Or.inr (Or.inr (Or.inr (Or.inr (Or.inl ⟨k, by omega, hR⟩))))))))
      rcases h3 with ⟨f, hf, hm⟩ | ⟨q', H3, -, hK⟩
      · exact Or.inl ⟨f, hf _, by rw [e4]; exact hm.put (by omega)⟩
      · exact Or.inr ⟨q', _, cs, by rw [e4]; exact H3.put (by omega), B4, fun R hR => hK R _ hR⟩
    · have k : kd T N (Z 0) = 107 := by omega
      have H2 : HdX T N b (en T N (Z 0)) m2 := by
        have kk : ∀ a, a ≠ 2 → m2 a = m1 a := fun a ha => by rw [e2, up_ne ha]
        exact ⟨H1.1.fx hb.2 (fun a ha => kk a (by omega)), by rw [e2, up_off (by decide)]; exact H1.2.1, by rw [e2, up_off (by decide)]; exact H1.2.2.1, by rw [e2, up_off (by decide)]; exact H1.2.2.2⟩
      refine ⟨b, H2.2.2.2.1, hb.2, d + 5, _, by omega, c_numX hG (by decide) H2, fun v m3 h3 _ _ m4 e4 => ?_⟩
      obtain ⟨f3, hv, h3⟩ := h3
      have B4 := B1.once hb.2 (Or.inr ⟨rfl, rfl⟩) e2 f3 e4
      refine semi (fun R => numR T N 0 999 (en T N (Z 0)) R (fun v q => semR T N q (ud (ud Z 7 1) 4 v) cs R)) m1 m4 f1 ⟨(FrY.pt e2 (Or.inl ⟨rfl, by decide, by decide⟩)).tr (f3.fry.tr (FrY.pt e4 (Or.inr (Or.inr (Or.inr (by omega)))))), ?_⟩ (fun R hR => Or.inr (Or.inr (Or.inr (Or.inr (Or.inr (Or.inr (Or.inr (Or.inr (Or.inr (Or.inl ⟨k, by omega, hR⟩))))))))))
      rcases h3 with ⟨f, hf, hm⟩ | ⟨q', H3, -, hK⟩
      · exact Or.inl ⟨f, hf _, by rw [e4]; exact hm.put (by omega)⟩
      · exact Or.inr ⟨q', _, cs, by rw [e4]; exact H3.put (by omega), B4, fun R hR => hK R _ hR⟩
  · have hn : ¬ ((kd T N (Z 0) = 100 ∧ Z 1 < 5) ∨ kd T N (Z 0) = 102 ∨ kd T N (Z 0) = 104 ∨ (kd T N (Z 0) = 105 ∧ Z 5 = 0) ∨ (kd T N (Z 0) = 106 ∧ Z 6 = 0) ∨ (kd T N (Z 0) = 107 ∧ Z 7 = 0)) := fun g => cz (hz.mpr g)
    rw [← hQ]
    refine ⟨h1.2.fry, .inl (bdF T N (Z 0)), ?_, Or.inl ⟨_, rfl, h1.1⟩⟩
    by_cases k0 : kd T N (Z 0) = 100
    · rw [bdF_ne.2 (by omega)]
      exact Or.inl ⟨k0, by omega, rfl⟩
    · by_cases k5 : kd T N (Z 0) = 105
      · rw [bdF_ne.2 (by omega)]
        exact Or.inr (Or.inr (Or.inr (Or.inr (Or.inl ⟨k5, by omega, rfl⟩))))
      · by_cases k6 : kd T N (Z 0) = 106
        · rw [bdF_ne.2 (by omega)]
          exact Or.inr (Or.inr (Or.inr (Or.inr (Or.inr (Or.inr (Or.inl ⟨k6, by omega, rfl⟩))))))
        · by_cases k7 : kd T N (Z 0) = 107
          · rw [bdF_ne.2 (by omega)]
            exact Or.inr (Or.inr (Or.inr (Or.inr (Or.inr (Or.inr (Or.inr (Or.inr (Or.inl ⟨k7, by omega, rfl⟩))))))))
          · exact Or.inr (Or.inr (Or.inr (Or.inr (Or.inr (Or.inr (Or.inr (Or.inr (Or.inr (Or.inr ⟨by omega, rfl⟩)))))))))
end LineX3
