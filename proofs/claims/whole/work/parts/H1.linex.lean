/-! lines of a table, by the class: small steps -/
def rgT (a : Nat) (i : Int) : Prop := (a = 2 ∧ (i = 6 ∨ i = 7)) ∨ (a = 3 ∧ (i = 3 ∨ i = 4 ∨ i = 5 ∨ i = 6))
def FrT (m m' : MM) : Prop := ∀ a i, ¬ rgT a i → m' a i = m a i
def HdX (T : Int → Int) (N : Int) (b : Nat) (q : Int) (m : MM) : Prop := TpX T N q m ∧ m 2 6 = 0 ∧ m 2 7 = -1 ∧ (m 2 2 = b ∧ isB b)
def FyX (b : Nat) (f : Int × Int) (m : MM) : Prop := m 2 6 = f.1 ∧ m 2 7 = f.2 ∧ f.1 ≠ 0 ∧ (m 2 2 = b ∧ isB b)
def BdX (b : Nat) (Z : Int → Int) (cs : List Int) (m : MM) : Prop :=
  (m b 0 = Z 1 ∧ m b 1 = Z 2 ∧ m b 2 = Z 3 ∧ m b 3 = Z 4 ∧ m b 4 = Z 8) ∧ (m 2 3 = Z 5 ∧ m 2 4 = Z 6 ∧ m 2 5 = Z 7) ∧
  (∀ i, 0 ≤ i → i < Z 1 → m 6 i = cvN 8 (Z (10 + i))) ∧ (∀ i, 0 ≤ i → i < 5 → m (b + 1) i = if i < Z 1 then Z (20 + i) else 0) ∧
  (∀ i, 0 ≤ i → i < 5 → m (b + 3) i = Z (30 + i)) ∧ (∀ i j, 0 ≤ i → i < 5 → 0 ≤ j → j < 5 → m (b + 2) (i * 5 + j) = Z (40 + 5 * i + j)) ∧ CF cs (b + 6) m
section LineX
variable {l : Launch} {G : GT} {d : Nat} {m m' m1 : MM} {b : Nat} {T : Int → Int} {N q : Int} {Z : Int → Int} {cs : List Int}
theorem FrT.rf : FrT m m := fun _ _ _ => rfl
theorem FrT.tr (h : FrT m m1) (g : FrT m1 m') : FrT m m' := fun a i hi => (g a i hi).trans (h a i hi)
theorem FrT.next (h : Fro 3 [] [3, 4, 5, 6] m m') : FrT m m' := fun a i hi => by
  by_cases q : a = 3
  · rw [q]
    exact h.2 i (fun g => hi (Or.inr ⟨q, by simp only [List.mem_cons, List.not_mem_nil, or_false] at g; exact g⟩))
  · rw [h.1 a (by simp) q]
theorem HdX.next (h : HdX T N b q m) (f : Fro 3 [] [3, 4, 5, 6] m m') (t : TpX T N (en T N q) m') : HdX T N b (en T N q) m' := by
  have k : m' 2 = m 2 := f.1 2 (by simp) (by decide)
  exact ⟨t, by rw [k]; exact h.2.1, by rw [k]; exact h.2.2.1, by rw [k]; exact h.2.2.2⟩
theorem HdX.fault {x k : Int} (h : HdX T N b q m) (e : m' = up (up m 2 6 x) 2 7 k) (hx : x ≠ 0) : FyX b (x, k) m' ∧ FrT m m' := by
  refine ⟨⟨by rw [e, up_off (by decide), up_at], by rw [e, up_at], hx, by rw [e, up_off (by decide), up_off (by decide)]; exact h.2.2.2⟩, fun a i hi => ?_⟩
  rw [e]
  unfold up
  rw [if_neg (fun g => hi (Or.inl ⟨g.1, Or.inr g.2⟩)), if_neg (fun g => hi (Or.inl ⟨g.1, Or.inl g.2⟩))]
theorem BdX.frt (h : BdX b Z cs m) (hb : isB b) (f : FrT m m') : BdX b Z cs m' := by
  have nb := isB_ne hb
  have k : ∀ a, a ≠ 2 → a ≠ 3 → m' a = m a := fun a h2 h3 => funext (fun i => f a i (fun g => by
    rcases g with g | g
    · exact h2 g.1
    · exact h3 g.1))
  have k2 : ∀ i : Int, i ≠ 6 → i ≠ 7 → m' 2 i = m 2 i := fun i h6 h7 => f 2 i (fun g => by
    rcases g with g | g
    · rcases g.2 with g | g
      · exact h6 g
      · exact h7 g
    · exact absurd g.1 (by decide))
  unfold BdX CF
  rw [k b (by omega) (by omega), k (b + 1) (by omega) (by omega), k (b + 2) (by omega) (by omega), k (b + 3) (by omega) (by omega), k (b + 6) (by omega) (by omega), k (b + 6 + 1) (by omega) (by omega), k 6 (by decide) (by decide), k2 3 (by decide) (by decide), k2 4 (by decide) (by decide), k2 5 (by decide) (by decide)]
  exact h
theorem c_refuseY (h : HdX T N b q m) : CV l G Y_Reader_refuseToken (d + 1) [.inr (.inr 2)] m (fun m' => FyX b (bdF T N q) m' ∧ FrT m m') := by
  have h4 := h.1.2.2.2.1
  have h5 := h.1.2.2.2.2.1
  refine e_Reader_refuseToken (fun _ => ?_)
  rw [h4, h5]
  refine ⟨fun c => ⟨d, _, by omega, c_tellX h.2.1, fun m1 e1 _ => ?_⟩, fun c => ⟨d, _, by omega, c_tellX h.2.1, fun m1 e1 _ => ?_⟩⟩
  · have := h.fault e1 (by decide)
    rw [bdF_ne.2 c]; exact this
  · have := h.fault e1 (by decide)
    unfold bdF
    rw [if_pos (Classical.not_not.mp c)]; exact this
/-- a number within bounds -/
def NmX (T : Int → Int) (N : Int) (b : Nat) (x y q : Int) (m : MM) (z : Int) (m' : MM) : Prop :=
  FrT m m' ∧ ((x ≤ z ∧ z ≤ y) ∧ ((∃ f, (∀ K, numR T N x y q (.inl f) K) ∧ FyX b f m') ∨ ∃ q', HdX T N b q' m' ∧ q ≤ q' ∧ ∀ (R : Rz) (K : Int → Int → Prop), K z q' → numR T N x y q R K))
theorem c_numX (hG : GVok G) {x y : Int} (hxy : x ≤ y) (h : HdX T N b q m) : CI l G Y_Reader_readNumber (d + 5) [.inr (.inr 2), .inl x, .inl y] m (NmX T N b x y q m) := by
  have h4 := h.1.2.2.2.1
  have h5 := h.1.2.2.2.2.1
  have tr := tk_rng (T := T) h.1.2.1
  refine e_Reader_readNumber x y (fun _ _ _ => ⟨fun _ => ?_, fun c => absurd h.2.1 c⟩)
  rw [h4, h5]
  refine ⟨fun k3 => ?_, fun k3 => ⟨d + 1, _, by omega, c_refuseY h, fun m1 h1 _ => ?_⟩⟩
  · have hv := h.1.2.2.2.2.2.2 k3
    have hr := vl_num h.1.2.1 k3
    rw [hv]
    have bad : ¬ (x ≤ vl T N q ∧ vl T N q ≤ y) → ∀ m1, m1 = up (up m 2 6 4) 2 7 (plc T N q) → NmX T N b x y q m x m1 := fun hb m1 e1 => by
      obtain ⟨g1, g2⟩ := h.fault e1 (by decide)
      exact ⟨g2, ⟨Int.le_refl x, hxy⟩, Or.inl ⟨_, fun K => Or.inr (Or.inl ⟨k3, hb, rfl⟩), g1⟩⟩
    refine ⟨fun c => ⟨d, _, by omega, c_tellX h.2.1, fun m1 e1 _ => bad (by omega) m1 e1⟩, fun c => ⟨fun c2 => ⟨by unfold inR; omega, d + 4, _, by omega, c_nextX2 hG h.1, fun m1 h1 _ => ?_⟩, fun c2 => ⟨d, _, by omega, c_tellX h.2.1, fun m1 e1 _ => bad (by omega) m1 e1⟩⟩⟩
    exact ⟨FrT.next h1.1, ⟨by omega, c2⟩, Or.inr ⟨_, h.next h1.1 h1.2, by omega, fun R K hK => Or.inr (Or.inr ⟨k3, ⟨by omega, c2⟩, hK⟩)⟩⟩
  · exact ⟨h1.2, ⟨Int.le_refl x, hxy⟩, Or.inl ⟨_, fun K => Or.inl ⟨k3, rfl⟩, h1.1⟩⟩
/-- how wide -/
def OpX (T : Int → Int) (N : Int) (b : Nat) (w x y v q : Int) (m : MM) (z : Int) (m' : MM) : Prop :=
  FrT m m' ∧ ((x ≤ z ∧ z ≤ y) ∧ ((∃ f, (∀ K, optR T N w x y v q (.inl f) K) ∧ FyX b f m') ∨ ∃ q', HdX T N b q' m' ∧ q ≤ q' ∧ ∀ (R : Rz) (K : Int → Int → Prop), K z q' → optR T N w x y v q R K))
theorem c_widthX (hG : GVok G) (h : HdX T N b q m) : CI l G Y_Reader_readWidth (d + 6) [.inr (.inr 2)] m (OpX T N b 103 1 2 1 q m) := by
  have h4 := h.1.2.2.2.1
  have tr := tk_rng (T := T) h.1.2.1
  refine e_Reader_readWidth (fun _ => ⟨fun c => absurd h.2.1 c, fun _ => ?_⟩)
  rw [h4]
  refine ⟨fun k => ⟨d + 4, _, by omega, c_nextX2 hG h.1, fun m1 h1 _ => ⟨d + 5, _, by omega, c_numX hG (by decide) (h.next h1.1 h1.2), fun z m2 h2 _ _ => ?_⟩⟩, fun k => ⟨FrT.rf, by decide, Or.inr ⟨q, h, Int.le_refl q, fun R K hK => Or.inr ⟨k, hK⟩⟩⟩⟩
  obtain ⟨f2, hz, h2⟩ := h2
  refine ⟨(FrT.next h1.1).tr f2, hz, ?_⟩
  rcases h2 with ⟨f, hf, hm⟩ | ⟨q', H2, hq, hK⟩
  · exact Or.inl ⟨f, fun K => Or.inl ⟨k, hf K⟩, hm⟩
  · exact Or.inr ⟨q', H2, by omega, fun R K hk => Or.inl ⟨k, hK R K hk⟩⟩
/-- the plate of that name -/
theorem c_findX (hb : m 2 2 = b ∧ isB b) (hB : BdX b Z cs m) (hZ : ZC Z cs) {v : Int} (hv : NmV v) : CI l G Y_Reader_find d [.inr (.inr 2), .inr (.inl (cvN 8 v))] m (fun z m' => m = m' ∧ ((z = -1 ∧ ∀ i, 0 ≤ i → i < Z 1 → Z (10 + i) ≠ v) ∨ (0 ≤ z ∧ z < Z 1 ∧ Z (10 + z) = v))) := by
  have h1 := hZ.1
  refine e_Reader_find _ (fun _ _ => ?_)
  have loop : ∀ (s : Nat) (i : Int), i + s = Z 1 → 0 ≤ i → (∀ t, 0 ≤ t → t < i → Z (10 + t) ≠ v) → Wq l G false Y_Reader_find d (QI fun z m' => m = m' ∧ ((z = -1 ∧ ∀ i, 0 ≤ i → i < Z 1 → Z (10 + i) ≠ v) ∨ (0 ≤ z ∧ z < Z 1 ∧ Z (10 + z) = v))) 2 [(0, .inr (.inr 2)), (1, .inr (.inl (cvN 8 v))), (3, .inl i)] [] m := by
    intro s
    induction s with
    | zero =>
      intro i hi i0 hno
      refine s_Reader_find_2 _ _ (fun _ _ _ => ⟨b, hb.1, hb.2, ?_⟩)
      rw [hB.1.1]
      exact ⟨fun _ => ⟨rfl, Or.inl ⟨rfl, fun t t0 t1 => hno t t0 (by omega)⟩⟩, fun c => absurd (show i ≥ Z 1 by omega) c⟩
    | succ s ih =>
      intro i hi i0 hno
      refine s_Reader_find_2 _ _ (fun _ _ _ => ⟨b, hb.1, hb.2, ?_⟩)
      rw [hB.1.1, hB.2.2.1 i i0 (by omega)]
      have hn := (hZ.2.2.2.2.2.1 i i0 (by omega)).1
      refine ⟨fun c => absurd c (by omega), fun _ => ⟨⟨i0, by omega⟩, fun c => ⟨by unfold inR; omega, ih (i + 1) (by omega) (by omega) (fun t t0 t1 => ?_)⟩, fun c => ⟨rfl, Or.inr ⟨i0, by omega, cv_inj hn hv (Classical.not_not.mp c)⟩⟩⟩⟩
      by_cases e : t = i
      · rw [e]; exact fun g => c (by rw [g])
      · exact hno t t0 (by omega)
  exact loop (Z 1).toNat 0 (by omega) (Int.le_refl 0) (fun t t0 t1 => by omega)
/-- a plate that was told -/
def KpX (T : Int → Int) (N : Int) (b : Nat) (Z : Int → Int) (q : Int) (m : MM) (z : Int) (m' : MM) : Prop :=
  FrT m m' ∧ ((∃ f, (∀ K, knR T N Z q (.inl f) K) ∧ FyX b f m') ∨ (m' = m ∧ (0 ≤ z ∧ z < Z 1) ∧ ∀ (R : Rz) (K : Int → Prop), K z → knR T N Z q R K))
theorem c_knownX (h : HdX T N b q m) (hB : BdX b Z cs m) (hZ : ZC Z cs) : CI l G Y_Reader_knownPlate (d + 2) [.inr (.inr 2)] m (KpX T N b Z q m) := by
  have h4 := h.1.2.2.2.1
  have h5 := h.1.2.2.2.2.1
  refine e_Reader_knownPlate (fun _ => ⟨fun _ => ?_, fun c => absurd h.2.1 c⟩)
  rw [h4]
  refine ⟨fun k2 => ?_, fun k2 => ⟨d + 1, _, by omega, c_refuseY h, fun m1 h1 _ => ⟨h1.2, Or.inl ⟨_, fun K => Or.inl ⟨k2, rfl⟩, h1.1⟩⟩⟩⟩
  rw [h.1.2.2.2.2.2.1 k2]
  refine ⟨d, _, by omega, c_findX h.2.2.2 hB hZ (vl_word h.1.2.1 (Or.inl k2) sgn100).1, fun z m1 hz _ _ => ?_⟩
  obtain ⟨rfl, hz⟩ := hz
  rw [h5]
  refine ⟨fun c => ?_, fun c => ⟨d, _, by omega, c_tellX h.2.1, fun m1 e1 _ => ?_⟩⟩
  · rcases hz with ⟨e, -⟩ | ⟨z0, z1, e⟩
    · exact absurd e c
    · exact ⟨FrT.rf, Or.inr ⟨rfl, ⟨z0, z1⟩, fun R K hK => Or.inr (Or.inr ⟨k2, z, z0, z1, e, hK⟩)⟩⟩
  · rcases hz with ⟨-, hno⟩ | ⟨z0, -, -⟩
    · obtain ⟨g1, g2⟩ := h.fault e1 (by decide)
      exact ⟨g2, Or.inl ⟨_, fun K => Or.inr (Or.inl ⟨k2, hno, rfl⟩), g1⟩⟩
    · have := Classical.not_not.mp c
      omega
end LineX
