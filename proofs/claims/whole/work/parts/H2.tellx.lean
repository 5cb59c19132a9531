/-! plates, chutes and drains told, by the class -/
def rgY (b : Nat) (a : Nat) (i : Int) : Prop := (a = 2 ∧ 2 ≤ i ∧ i ≤ 7) ∨ a = 3 ∨ a = 6 ∨ (b ≤ a ∧ a ≤ b + 8)
def FrY (b : Nat) (m m' : MM) : Prop := ∀ a i, ¬ rgY b a i → m' a i = m a i
/-- behind a line but for its end -/
def LqX (T : Int → Int) (N : Int) (b : Nat) (Pl : Rz → Prop) (m m' : MM) : Prop := FrY b m m' ∧ ((∃ f, Pl (.inl f) ∧ FyX b f m') ∨ ∃ q Y c, HdX T N b q m' ∧ BdX b Y c m' ∧ ∀ R, semR T N q Y c R → Pl R)
section LineX2
variable {l : Launch} {G : GT} {d : Nat} {m m' m1 : MM} {b : Nat} {T : Int → Int} {N q : Int} {Z : Int → Int} {cs : List Int}
theorem FrY.rf : FrY b m m := fun _ _ _ => rfl
theorem FrY.tr (h : FrY b m m1) (g : FrY b m1 m') : FrY b m m' := fun a i hi => (g a i hi).trans (h a i hi)
theorem FrT.fry (h : FrT m m') : FrY b m m' := fun a i hi => h a i (fun g => hi (by
  rcases g with g | g
  · exact Or.inl ⟨g.1, by omega, by omega⟩
  · exact Or.inr (Or.inl g.1)))
theorem FrY.pt {a : Nat} {i v : Int} (e : m' = up m a i v) (h : rgY b a i) : FrY b m m' := fun c j hj => by
  rw [e]
  unfold up
  rw [if_neg (fun q => hj (by rw [q.1, q.2]; exact h))]
theorem HdX.put {a : Nat} {i v : Int} (h : HdX T N b q m) (ha : a ≠ 1 ∧ a ≠ 2 ∧ a ≠ 3 ∧ a ≠ 4) : HdX T N b q (up m a i v) := by
  have k2 : up m a i v 2 = m 2 := up_ne (Ne.symm ha.2.1)
  exact ⟨h.1.fx h.2.2.2.2 (fun c hc => up_ne (by omega)), by rw [k2]; exact h.2.1, by rw [k2]; exact h.2.2.1, by rw [k2]; exact h.2.2.2⟩
theorem FyX.put {a : Nat} {i v : Int} {f : Int × Int} (h : FyX b f m) (ha : a ≠ 2) : FyX b f (up m a i v) := by
  unfold FyX
  rw [up_ne (Ne.symm ha)]
  exact h
theorem BdX.plate {v : Int} (h : BdX b Z cs m) (hb : isB b) (h1 : 0 ≤ Z 1 ∧ Z 1 < 5) (e : m' = up (up m 6 (Z 1) (cvN 8 v)) b 0 (Z 1 + 1)) : BdX b (ud (ud (ud Z (10 + Z 1) v) (20 + Z 1) 0) 1 (Z 1 + 1)) cs m' := by
  have nb := isB_ne hb
  obtain ⟨⟨p0, p1, p2, p3, p4⟩, pt, pn, ph, pD, pW, pc⟩ := h
  have kk : ∀ a, a ≠ 6 → a ≠ b → m' a = m a := fun a a1 a2 => by rw [e, up_ne a2, up_ne a1]
  have kb : ∀ i : Int, i ≠ 0 → m' b i = m b i := fun i hi => by rw [e, up_off hi, up_ne (by omega)]
  have k6 : m' 6 = up m 6 (Z 1) (cvN 8 v) 6 := by rw [e, up_ne (by omega)]
  have eY : ∀ k, k ≠ 1 → k ≠ 10 + Z 1 → k ≠ 20 + Z 1 → ud (ud (ud Z (10 + Z 1) v) (20 + Z 1) 0) 1 (Z 1 + 1) k = Z k := fun k a b c => by rw [ud_ne a, ud_ne c, ud_ne b]
  have eY1 : ud (ud (ud Z (10 + Z 1) v) (20 + Z 1) 0) 1 (Z 1 + 1) 1 = Z 1 + 1 := ud_at
  have eYn : ud (ud (ud Z (10 + Z 1) v) (20 + Z 1) 0) 1 (Z 1 + 1) (10 + Z 1) = v := by rw [ud_ne (by omega), ud_ne (by omega), ud_at]
  have eYh : ud (ud (ud Z (10 + Z 1) v) (20 + Z 1) 0) 1 (Z 1 + 1) (20 + Z 1) = 0 := by rw [ud_ne (by omega), ud_at]
  generalize ud (ud (ud Z (10 + Z 1) v) (20 + Z 1) 0) 1 (Z 1 + 1) = Y at eY eY1 eYn eYh
  unfold BdX CF
  rw [kb 1 (by decide), kb 2 (by decide), kb 3 (by decide), kb 4 (by decide), kk 2 (by decide) (by omega), kk (b + 1) (by omega) (by omega), kk (b + 2) (by omega) (by omega), kk (b + 3) (by omega) (by omega), kk (b + 6) (by omega) (by omega), kk (b + 6 + 1) (by omega) (by omega), eY1, eY 2 (by omega) (by omega) (by omega), eY 3 (by omega) (by omega) (by omega), eY 4 (by omega) (by omega) (by omega), eY 5 (by omega) (by omega) (by omega), eY 6 (by omega) (by omega) (by omega), eY 7 (by omega) (by omega) (by omega), eY 8 (by omega) (by omega) (by omega)]
  refine ⟨⟨by rw [e, up_at], p1, p2, p3, p4⟩, pt, fun i i0 i1 => ?_, fun i i0 i1 => ?_, fun i i0 i1 => ?_, fun i j i0 i1 j0 j1 => ?_, pc⟩
  · rw [k6]
    by_cases c : i = Z 1
    · rw [c, up_at, eYn]
    · rw [up_off c, eY (10 + i) (by omega) (by omega) (by omega)]; exact pn i i0 (by omega)
  · rw [ph i i0 i1]
    by_cases c : i = Z 1
    · rw [c, eYh, if_neg (by omega), if_pos (by omega)]
    · rw [eY (20 + i) (by omega) (by omega) (by omega)]
      by_cases c2 : i < Z 1
      · rw [if_pos c2, if_pos (by omega)]
      · rw [if_neg c2, if_neg (by omega)]
  · rw [eY (30 + i) (by omega) (by omega) (by omega)]; exact pD i i0 i1
  · rw [eY (40 + 5 * i + j) (by omega) (by omega) (by omega)]; exact pW i j i0 i1 j0 j1
theorem BdX.hold {k v : Int} (h : BdX b Z cs m) (hb : isB b) (hk : 0 ≤ k ∧ k < Z 1) (h5 : Z 1 ≤ 5) (e : m' = up m (b + 1) k v) : BdX b (ud Z (20 + k) v) cs m' := by
  have nb := isB_ne hb
  obtain ⟨p1, pt, pn, ph, pD, pW, pc⟩ := h
  have kk : ∀ a, a ≠ b + 1 → m' a = m a := fun a a1 => by rw [e, up_ne a1]
  have eY : ∀ j, j ≠ 20 + k → ud Z (20 + k) v j = Z j := fun j a => ud_ne a
  have eYh : ud Z (20 + k) v (20 + k) = v := ud_at
  generalize ud Z (20 + k) v = Y at eY eYh
  unfold BdX CF
  rw [kk b (by omega), kk 2 (by omega), kk 6 (by omega), kk (b + 2) (by omega), kk (b + 3) (by omega), kk (b + 6) (by omega), kk (b + 6 + 1) (by omega), eY 1 (by omega), eY 2 (by omega), eY 3 (by omega), eY 4 (by omega), eY 5 (by omega), eY 6 (by omega), eY 7 (by omega), eY 8 (by omega)]
  refine ⟨p1, pt, fun i i0 i1 => ?_, fun i i0 i1 => ?_, fun i i0 i1 => ?_, fun i j i0 i1 j0 j1 => ?_, pc⟩
  · rw [eY (10 + i) (by omega)]; exact pn i i0 i1
  · by_cases c : i = k
    · rw [c, e, up_at, eYh, if_pos hk.2]
    · rw [e, up_off c, eY (20 + i) (by omega)]; exact ph i i0 i1
  · rw [eY (30 + i) (by omega)]; exact pD i i0 i1
  · rw [eY (40 + 5 * i + j) (by omega)]; exact pW i j i0 i1 j0 j1
theorem BdX.drain {k v : Int} (h : BdX b Z cs m) (hb : isB b) (h5 : Z 1 ≤ 5) (hk : 0 ≤ k ∧ k < 5) (e : m' = up (up m (b + 3) k v) b 1 (Z 2 + 1)) : BdX b (ud (ud Z (30 + k) v) 2 (Z 2 + 1)) cs m' := by
  have nb := isB_ne hb
  obtain ⟨⟨p0, p1, p2, p3, p4⟩, pt, pn, ph, pD, pW, pc⟩ := h
  have kk : ∀ a, a ≠ b + 3 → a ≠ b → m' a = m a := fun a a1 a2 => by rw [e, up_ne a2, up_ne a1]
  have kb : ∀ i : Int, i ≠ 1 → m' b i = m b i := fun i hi => by rw [e, up_off hi, up_ne (by omega)]
  have k3 : m' (b + 3) = up m (b + 3) k v (b + 3) := by rw [e, up_ne (by omega)]
  have eY : ∀ j, j ≠ 2 → j ≠ 30 + k → ud (ud Z (30 + k) v) 2 (Z 2 + 1) j = Z j := fun j a c => by rw [ud_ne a, ud_ne c]
  have eY2 : ud (ud Z (30 + k) v) 2 (Z 2 + 1) 2 = Z 2 + 1 := ud_at
  have eYd : ud (ud Z (30 + k) v) 2 (Z 2 + 1) (30 + k) = v := by rw [ud_ne (by omega), ud_at]
  generalize ud (ud Z (30 + k) v) 2 (Z 2 + 1) = Y at eY eY2 eYd
  unfold BdX CF
  rw [kb 0 (by decide), kb 2 (by decide), kb 3 (by decide), kb 4 (by decide), kk 2 (by omega) (by omega), kk 6 (by omega) (by omega), kk (b + 1) (by omega) (by omega), kk (b + 2) (by omega) (by omega), kk (b + 6) (by omega) (by omega), kk (b + 6 + 1) (by omega) (by omega), eY2, eY 1 (by omega) (by omega), eY 3 (by omega) (by omega), eY 4 (by omega) (by omega), eY 5 (by omega) (by omega), eY 6 (by omega) (by omega), eY 7 (by omega) (by omega), eY 8 (by omega) (by omega)]
  refine ⟨⟨p0, by rw [e, up_at], p2, p3, p4⟩, pt, fun i i0 i1 => ?_, fun i i0 i1 => ?_, fun i i0 i1 => ?_, fun i j i0 i1 j0 j1 => ?_, pc⟩
  · rw [eY (10 + i) (by omega) (by omega)]; exact pn i i0 i1
  · rw [eY (20 + i) (by omega) (by omega)]; exact ph i i0 i1
  · rw [k3]
    by_cases c : i = k
    · rw [c, up_at, eYd]
    · rw [up_off c, eY (30 + i) (by omega) (by omega)]; exact pD i i0 i1
  · rw [eY (40 + 5 * i + j) (by omega) (by omega)]; exact pW i j i0 i1 j0 j1
theorem BdX.chute {k t v : Int} (h : BdX b Z cs m) (hb : isB b) (h5 : Z 1 ≤ 5) (hk : 0 ≤ k ∧ k < 5) (ht : 0 ≤ t ∧ t < 5) (e : m' = up (up (up m (b + 2) (k * 5 + t) v) (b + 2) (t * 5 + k) v) b 1 (Z 2 + 1)) : BdX b (ud (ud (ud Z (40 + 5 * k + t) v) (40 + 5 * t + k) v) 2 (Z 2 + 1)) cs m' := by
  have nb := isB_ne hb
  obtain ⟨⟨p0, p1, p2, p3, p4⟩, pt, pn, ph, pD, pW, pc⟩ := h
  have kk : ∀ a, a ≠ b + 2 → a ≠ b → m' a = m a := fun a a1 a2 => by rw [e, up_ne a2, up_ne a1, up_ne a1]
  have kb : ∀ i : Int, i ≠ 1 → m' b i = m b i := fun i hi => by rw [e, up_off hi, up_ne (by omega), up_ne (by omega)]
  have k2 : m' (b + 2) = up (up m (b + 2) (k * 5 + t) v) (b + 2) (t * 5 + k) v (b + 2) := by rw [e, up_ne (by omega)]
  have eY : ∀ j, j ≠ 2 → j ≠ 40 + 5 * k + t → j ≠ 40 + 5 * t + k → ud (ud (ud Z (40 + 5 * k + t) v) (40 + 5 * t + k) v) 2 (Z 2 + 1) j = Z j := fun j a c g => by rw [ud_ne a, ud_ne g, ud_ne c]
  have eY2 : ud (ud (ud Z (40 + 5 * k + t) v) (40 + 5 * t + k) v) 2 (Z 2 + 1) 2 = Z 2 + 1 := ud_at
  have eYb : ud (ud (ud Z (40 + 5 * k + t) v) (40 + 5 * t + k) v) 2 (Z 2 + 1) (40 + 5 * t + k) = v := by rw [ud_ne (by omega), ud_at]
  have eYa : ud (ud (ud Z (40 + 5 * k + t) v) (40 + 5 * t + k) v) 2 (Z 2 + 1) (40 + 5 * k + t) = v := by
    rw [ud_ne (by omega)]
    by_cases c : 40 + 5 * k + t = 40 + 5 * t + k
    · rw [c, ud_at]
    · rw [ud_ne c, ud_at]
  generalize ud (ud (ud Z (40 + 5 * k + t) v) (40 + 5 * t + k) v) 2 (Z 2 + 1) = Y at eY eY2 eYa eYb
  unfold BdX CF
  rw [kb 0 (by decide), kb 2 (by decide), kb 3 (by decide), kb 4 (by decide), kk 2 (by omega) (by omega), kk 6 (by omega) (by omega), kk (b + 1) (by omega) (by omega), kk (b + 3) (by omega) (by omega), kk (b + 6) (by omega) (by omega), kk (b + 6 + 1) (by omega) (by omega), eY2, eY 1 (by omega) (by omega) (by omega), eY 3 (by omega) (by omega) (by omega), eY 4 (by omega) (by omega) (by omega), eY 5 (by omega) (by omega) (by omega), eY 6 (by omega) (by omega) (by omega), eY 7 (by omega) (by omega) (by omega), eY 8 (by omega) (by omega) (by omega)]
  refine ⟨⟨p0, by rw [e, up_at], p2, p3, p4⟩, pt, fun i i0 i1 => ?_, fun i i0 i1 => ?_, fun i i0 i1 => ?_, fun i j i0 i1 j0 j1 => ?_, pc⟩
  · rw [eY (10 + i) (by omega) (by omega) (by omega)]; exact pn i i0 i1
  · rw [eY (20 + i) (by omega) (by omega) (by omega)]; exact ph i i0 i1
  · rw [eY (30 + i) (by omega) (by omega) (by omega)]; exact pD i i0 i1
  · rw [k2]
    by_cases c : 40 + 5 * i + j = 40 + 5 * t + k
    · rw [c, eYb, show i * 5 + j = t * 5 + k by omega, up_at]
    · rw [up_off (by omega)]
      by_cases c2 : 40 + 5 * i + j = 40 + 5 * k + t
      · rw [c2, eYa, show i * 5 + j = k * 5 + t by omega, up_at]
      · rw [eY (40 + 5 * i + j) (by omega) c2 c, up_off (by omega)]
        exact pW i j i0 i1 j0 j1
theorem c_joinX {n c x y v : Int} (hb : isB b) (h0 : m b 0 = n) (h1 : m b 1 = c ∧ 0 ≤ c ∧ c ≤ 1600) (hn : n ≤ 5) (hx : 0 ≤ x ∧ x < n) (hy : 0 ≤ y ∧ y < n) : CV l G Y_Board_join (d + 1) [.inr (.inr b), .inl x, .inl y, .inl v] m (fun m' => m' = up (up (up m (b + 2) (x * 5 + y) v) (b + 2) (y * 5 + x) v) b 1 (c + 1)) := by
  refine e_Board_join x y v b hb (fun _ _ _ _ => ⟨d, _, by omega, c_has hb, fun z m1 hz _ _ => ?_⟩)
  obtain ⟨rfl, rfl⟩ := hz
  rw [h0, if_pos hx]
  refine ⟨fun q => absurd q (by decide), fun _ => ⟨d, _, by omega, c_has hb, fun z m1 hz _ _ => ?_⟩⟩
  obtain ⟨rfl, rfl⟩ := hz
  rw [h0, if_pos hy]
  refine ⟨fun q => absurd q (by decide), fun _ => ⟨by unfold inR; omega, by unfold inR; omega, by omega, fun m1 e1 => ⟨by unfold inR; omega, by unfold inR; omega, by omega, fun m2 e2 => ?_⟩⟩⟩
  have k1 : m2 b 1 = c := by rw [e2, up_ne (by omega), e1, up_ne (by omega)]; exact h1.1
  rw [k1]
  refine ⟨by unfold inR; omega, fun m3 e3 => ?_⟩
  rw [e3, e2, e1]
theorem c_joinDrainX {n c x v : Int} (hb : isB b) (h0 : m b 0 = n) (h1 : m b 1 = c ∧ 0 ≤ c ∧ c ≤ 1600) (hn : n ≤ 5) (hx : 0 ≤ x ∧ x < n) : CV l G Y_Board_joinDrain (d + 1) [.inr (.inr b), .inl x, .inl v] m (fun m' => m' = up (up m (b + 3) x v) b 1 (c + 1)) := by
  refine e_Board_joinDrain x v b hb (fun _ _ _ => ⟨d, _, by omega, c_has hb, fun z m1 hz _ _ => ?_⟩)
  obtain ⟨rfl, rfl⟩ := hz
  rw [h0, if_pos hx]
  refine ⟨fun q => absurd q (by decide), fun _ => ⟨by omega, fun m1 e1 => ?_⟩⟩
  have k1 : m1 b 1 = c := by rw [e1, up_ne (by omega)]; exact h1.1
  rw [k1]
  refine ⟨by unfold inR; omega, fun m2 e2 => ?_⟩
  rw [e2, e1]
theorem c_widthOfX {n x y : Int} (hb : isB b) (h0 : m b 0 = n) (hn : n ≤ 5) (hx : 0 ≤ x ∧ x < n) (hy : 0 ≤ y ∧ y < n) : CI l G Y_Board_width (d + 1) [.inr (.inr b), .inl x, .inl y] m (fun z m' => z = m (b + 2) (x * 5 + y) ∧ m = m') := by
  refine e_Board_width x y b hb (fun _ _ _ => ⟨d, _, by omega, c_has hb, fun z m1 hz _ _ => ?_⟩)
  obtain ⟨rfl, rfl⟩ := hz
  rw [h0, if_pos hx]
  refine ⟨fun q => absurd q (by decide), fun _ => ⟨d, _, by omega, c_has hb, fun z m1 hz _ _ => ?_⟩⟩
  obtain ⟨rfl, rfl⟩ := hz
  rw [h0, if_pos hy]
  exact ⟨fun q => absurd q (by decide), fun _ => ⟨by unfold inR; omega, by unfold inR; omega, by omega, rfl, rfl⟩⟩
theorem c_tellPlateX (hG : GVok G) (h : HdX T N b q m) (hB : BdX b Z cs m) (hZ : ZC Z cs) (h5 : Z 1 < 5) : CV l G Y_Reader_readPlate (d + 6) [.inr (.inr 2)] m (LqX T N b (plR T N Z cs q) m) := by
  have h4 := h.1.2.2.2.1
  have hp5 := h.1.2.2.2.2.1
  have hb := h.2.2.2
  have nb := isB_ne hb.2
  have z1 := hZ.1
  refine e_Reader_readPlate (fun _ => ?_)
  rw [h4]
  refine ⟨fun k2 => ⟨d + 1, _, by omega, c_refuseY h, fun m1 h1 _ => ⟨h1.2.fry, Or.inl ⟨_, Or.inl ⟨k2, rfl⟩, h1.1⟩⟩⟩, fun k2 => ⟨b, hb.1, hb.2, ?_⟩⟩
  have k2 : kd T N q = 2 := Classical.not_not.mp k2
  rw [hB.1.1]
  refine ⟨fun _ => ?_, fun c => absurd h5 c⟩
  have hw := h.1.2.2.2.2.2.1 k2
  rw [hw]
  refine ⟨d, _, by omega, c_findX hb hB hZ (vl_word h.1.2.1 (Or.inl k2) sgn100).1, fun z m1 hz _ _ => ?_⟩
  obtain ⟨rfl, hz⟩ := hz
  refine ⟨fun cz => ⟨b, hb.1, hb.2, ?_⟩, fun cz => ?_⟩
  · have hno : ∀ i, 0 ≤ i → i < Z 1 → Z (10 + i) ≠ vl T N q := by
      rcases hz with ⟨-, g⟩ | ⟨g, -, -⟩
      · exact g
      · omega
    rw [hB.1.1, hw]
    refine ⟨by omega, fun m1 e1 => ?_⟩
    have H1 : HdX T N b q m1 := by rw [e1]; exact h.put (by decide)
    have j0 : m1 b 0 = Z 1 := by rw [e1, up_ne (by omega)]; exact hB.1.1
    refine ⟨b, H1.2.2.2.1, hb.2, ?_⟩
    rw [j0]
    refine ⟨by unfold inR; omega, fun m2 e2 => ?_⟩
    have H2 : HdX T N b q m2 := by rw [e2]; exact H1.put (by omega)
    have f2 : FrY b m m2 := (FrY.pt e1 (Or.inr (Or.inr (Or.inl rfl)))).tr (FrY.pt e2 (Or.inr (Or.inr (Or.inr (by omega)))))
    rw [e1] at e2
    have B2 := hB.plate hb.2 ⟨z1.1, h5⟩ e2
    refine ⟨d + 4, _, by omega, c_nextX2 hG H2.1, fun m3 h3 _ => ?_⟩
    have H3 := H2.next h3.1 h3.2
    have B3 := B2.frt hb.2 (FrT.next h3.1)
    have f3 : FrY b m m3 := f2.tr (FrT.next h3.1).fry
    rw [H3.1.2.2.2.1]
    refine ⟨fun c => ⟨f3, Or.inr ⟨_, _, _, H3, B3, fun R hR => Or.inr (Or.inr ⟨k2, hno, Or.inr ⟨c, hR⟩⟩)⟩⟩, fun c => ⟨d + 4, _, by omega, c_nextX2 hG H3.1, fun m4 h4' _ => ?_⟩⟩
    have k101 : kd T N (en T N q) = 101 := Classical.not_not.mp c
    have H4 := H3.next h4'.1 h4'.2
    have B4 := B3.frt hb.2 (FrT.next h4'.1)
    have f4 : FrY b m m4 := f3.tr (FrT.next h4'.1).fry
    refine ⟨b, H4.2.2.2.1, hb.2, d + 5, _, by omega, c_numX hG (by decide) H4, fun v m5 h5' _ _ => ⟨by omega, fun m6 e6 => ?_⟩⟩
    obtain ⟨f5, hv, h5'⟩ := h5'
    have f6 : FrY b m m6 := f4.tr (f5.fry.tr (FrY.pt e6 (Or.inr (Or.inr (Or.inr (by omega))))))
    refine ⟨f6, ?_⟩
    rcases h5' with ⟨f, hf, hm⟩ | ⟨q', H5, -, hK⟩
    · exact Or.inl ⟨f, Or.inr (Or.inr ⟨k2, hno, Or.inl ⟨k101, hf _⟩⟩), by rw [e6]; exact hm.put (by omega)⟩
    · have B6 := (B4.frt hb.2 f5).hold hb.2 (k := Z 1) (v := v) ⟨z1.1, by rw [ud_at]; omega⟩ (by rw [ud_at]; omega) e6
      refine Or.inr ⟨q', _, cs, by rw [e6]; exact H5.put (by omega), B6, fun R hR => Or.inr (Or.inr ⟨k2, hno, Or.inl ⟨k101, hK R _ ?_⟩⟩)⟩
      have e : ud (ud (ud (ud Z (10 + Z 1) (vl T N q)) (20 + Z 1) 0) 1 (Z 1 + 1)) (20 + Z 1) v = ud (ud (ud Z (10 + Z 1) (vl T N q)) (20 + Z 1) v) 1 (Z 1 + 1) := by
        funext j
        by_cases c1 : j = 20 + Z 1
        · rw [c1, ud_at, ud_ne (by omega), ud_at]
        · rw [ud_ne c1]
          by_cases c2 : j = 1
          · rw [c2, ud_at, ud_at]
          · rw [ud_ne c2, ud_ne c2, ud_ne c1, ud_ne c1]
      rw [e] at hR
      exact hR
  · rw [hp5]
    refine ⟨d, _, by omega, c_tellX h.2.1, fun m1 e1 _ => ?_⟩
    obtain ⟨g1, g2⟩ := h.fault e1 (by decide)
    rcases hz with ⟨g, -⟩ | ⟨z0, z1, z2⟩
    · exact absurd g cz
    · exact ⟨g2.fry, Or.inl ⟨_, Or.inr (Or.inl ⟨k2, ⟨z, z0, z1, z2⟩, rfl⟩), g1⟩⟩
theorem c_drainX (hG : GVok G) (h : HdX T N b q m) (hB : BdX b Z cs m) (hZ : ZC Z cs) (hc : 0 ≤ Z 2 ∧ Z 2 ≤ 1600) : CV l G Y_Reader_readDrain (d + 7) [.inr (.inr 2)] m (LqX T N b (drR T N Z cs q) m) := by
  have hp5 := h.1.2.2.2.2.1
  have hb := h.2.2.2
  have nb := isB_ne hb.2
  have z1 := hZ.1
  refine e_Reader_readDrain (fun _ => ⟨d + 2, _, by omega, c_knownX h hB hZ, fun z m1 hz _ _ => ?_⟩)
  obtain ⟨f1, hz⟩ := hz
  rcases hz with ⟨f, hf, hm⟩ | ⟨rfl, hz, hK⟩
  · exact ⟨fun c => absurd (hm.1.symm.trans c) hm.2.2.1, fun _ => ⟨f1.fry, Or.inl ⟨f, hf _, hm⟩⟩⟩
  · refine ⟨fun _ => ⟨b, hb.1, hb.2, by omega, ?_⟩, fun c => absurd h.2.1 c⟩
    rw [hB.2.2.2.2.1 z hz.1 (by omega), hp5]
    refine ⟨fun c => ⟨d + 4, _, by omega, c_nextX2 hG h.1, fun m2 h2 _ => ?_⟩, fun c => ⟨d, _, by omega, c_tellX h.2.1, fun m2 e2 _ => ?_⟩⟩
    · have H2 := h.next h2.1 h2.2
      have B2 := hB.frt hb.2 (FrT.next h2.1)
      refine ⟨b, H2.2.2.2.1, hb.2, d + 6, _, by omega, c_widthX hG H2, fun v m3 h3 _ _ => ?_⟩
      obtain ⟨f3, hv, h3⟩ := h3
      have B3 := B2.frt hb.2 f3
      refine ⟨d + 1, _, by omega, c_joinDrainX hb.2 B3.1.1 ⟨B3.1.2.1, hc⟩ z1.2 hz, fun m4 e4 _ => ?_⟩
      have f4 : FrY b m1 m4 := (FrT.next h2.1).fry.tr (f3.fry.tr ((FrY.pt rfl (Or.inr (Or.inr (Or.inr (by omega))))).tr (FrY.pt e4 (Or.inr (Or.inr (Or.inr (by omega)))))))
      refine ⟨f4, ?_⟩
      rcases h3 with ⟨f, hf, hm⟩ | ⟨q', H3, -, hO⟩
      · exact Or.inl ⟨f, hK _ _ (Or.inr ⟨by omega, hf _⟩), by rw [e4]; exact (hm.put (by omega)).put (by omega)⟩
      · exact Or.inr ⟨q', _, cs, by rw [e4]; exact (H3.put (by omega)).put (by omega), B3.drain hb.2 z1.2 ⟨hz.1, by omega⟩ e4, fun R hR => hK R _ (Or.inr ⟨by omega, hO R _ hR⟩)⟩
    · obtain ⟨g1, g2⟩ := h.fault e2 (by decide)
      exact ⟨g2.fry, Or.inl ⟨_, hK _ _ (Or.inl ⟨by omega, rfl⟩), g1⟩⟩
theorem c_chuteX (hG : GVok G) (h : HdX T N b q m) (hB : BdX b Z cs m) (hZ : ZC Z cs) (hc : 0 ≤ Z 2 ∧ Z 2 ≤ 1600) : CV l G Y_Reader_readChute (d + 7) [.inr (.inr 2)] m (LqX T N b (chR T N Z cs q) m) := by
  have hb := h.2.2.2
  have nb := isB_ne hb.2
  have z1 := hZ.1
  refine e_Reader_readChute (fun _ => ⟨d + 2, _, by omega, c_knownX h hB hZ, fun x m1 hz _ _ => ?_⟩)
  obtain ⟨f1, hz⟩ := hz
  rcases hz with ⟨f, hf, hm⟩ | ⟨rfl, hx, hK⟩
  · exact ⟨fun c => absurd (hm.1.symm.trans c) hm.2.2.1, fun _ => ⟨f1.fry, Or.inl ⟨f, hf _, hm⟩⟩⟩
  · refine ⟨fun _ => ⟨d + 4, _, by omega, c_nextX2 hG h.1, fun m2 h2 _ => ?_⟩, fun c => absurd h.2.1 c⟩
    have H2 := h.next h2.1 h2.2
    have B2 := hB.frt hb.2 (FrT.next h2.1)
    have f2 : FrY b m1 m2 := (FrT.next h2.1).fry
    refine ⟨d + 2, _, by omega, c_knownX H2 B2 hZ, fun y m3 hz _ _ => ?_⟩
    obtain ⟨f3, hz⟩ := hz
    rcases hz with ⟨f, hf, hm⟩ | ⟨rfl, hy, hK2⟩
    · exact ⟨fun c => absurd (hm.1.symm.trans c) hm.2.2.1, fun _ => ⟨f2.tr f3.fry, Or.inl ⟨f, hK _ _ (hf _), hm⟩⟩⟩
    · have hp5 := H2.1.2.2.2.2.1
      have told : (x = y ∨ 0 < Z (40 + 5 * x + y)) → ∀ m4, m4 = up (up m3 2 6 3) 2 7 (plc T N (en T N q)) → LqX T N b (chR T N Z cs q) m1 m4 := fun ht m4 e4 => by
        obtain ⟨g1, g2⟩ := H2.fault e4 (by decide)
        exact ⟨f2.tr g2.fry, Or.inl ⟨_, hK _ _ (hK2 _ _ (Or.inl ⟨ht, rfl⟩)), g1⟩⟩
      refine ⟨fun _ => ⟨fun c => ?_, fun c => ⟨b, H2.2.2.2.1, hb.2, d + 1, _, by omega, c_widthOfX hb.2 B2.1.1 z1.2 hx hy, fun w m4 hw _ _ => ?_⟩⟩, fun c => absurd H2.2.1 c⟩
      · rw [hp5]
        exact ⟨d, _, by omega, c_tellX H2.2.1, fun m4 e4 _ => told (Or.inl c) m4 e4⟩
      · obtain ⟨rfl, rfl⟩ := hw
        rw [B2.2.2.2.2.2.1 x y hx.1 (by omega) hy.1 (by omega), hp5]
        refine ⟨fun cw => ⟨d + 4, _, by omega, c_nextX2 hG H2.1, fun m4 h4 _ => ?_⟩, fun cw => ⟨d, _, by omega, c_tellX H2.2.1, fun m4 e4 _ => told (Or.inr (by omega)) m4 e4⟩⟩
        have H4 := H2.next h4.1 h4.2
        have B4 := B2.frt hb.2 (FrT.next h4.1)
        refine ⟨b, H4.2.2.2.1, hb.2, d + 6, _, by omega, c_widthX hG H4, fun v m5 h5 _ _ => ?_⟩
        obtain ⟨f5, hv, h5⟩ := h5
        have B5 := B4.frt hb.2 f5
        refine ⟨d + 1, _, by omega, c_joinX hb.2 B5.1.1 ⟨B5.1.2.1, hc⟩ z1.2 hx hy, fun m6 e6 _ => ?_⟩
        have f6 : FrY b m1 m6 := f2.tr ((FrT.next h4.1).fry.tr (f5.fry.tr ((FrY.pt rfl (Or.inr (Or.inr (Or.inr (by omega))))).tr ((FrY.pt rfl (Or.inr (Or.inr (Or.inr (by omega))))).tr (FrY.pt e6 (Or.inr (Or.inr (Or.inr (by omega)))))))))
        have nt : ¬ (x = y ∨ 0 < Z (40 + 5 * x + y)) := by omega
        refine ⟨f6, ?_⟩
        rcases h5 with ⟨f, hf, hm⟩ | ⟨q', H5, -, hO⟩
        · exact Or.inl ⟨f, hK _ _ (hK2 _ _ (Or.inr ⟨nt, hf _⟩)), by rw [e6]; exact ((hm.put (by omega)).put (by omega)).put (by omega)⟩
        · exact Or.inr ⟨q', _, cs, by rw [e6]; exact ((H5.put (by omega)).put (by omega)).put (by omega), B5.chute hb.2 z1.2 ⟨hx.1, by omega⟩ ⟨hy.1, by omega⟩ e6, fun R hR => hK R _ (hK2 R _ (Or.inr ⟨nt, hO R _ hR⟩))⟩
end LineX2
