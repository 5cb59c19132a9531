/-! the reference while it reads a table: what it holds and what it leaves alone -/
def rgn (r : Int) (a : Nat) (i : Int) : Prop :=
  (a = 70 ∧ i ∈ [(4 : Int), 5, 6, 7, 8, 9, 10, 30, 31, 32, 33]) ∨ ((a = 73 ∨ a = 74 ∨ a = 75 ∨ a = 76 ∨ a = 77 ∨ a = 78 ∨ a = 82 ∨ a = 83) ∧ i = r) ∨ ((a = 79 ∨ a = 81 ∨ a = 84) ∧ 5 * r ≤ i ∧ i < 5 * r + 5) ∨ (a = 80 ∧ 25 * r ≤ i ∧ i < 25 * r + 25) ∨ ((a = 85 ∨ a = 86) ∧ 560 * r ≤ i ∧ i < 560 * r + 560) ∨ a = 87 ∨ a = 88
def FrR (r : Int) (m m' : MM) : Prop := ∀ a i, ¬ rgn r a i → m' a i = m a i
section ReadR
variable {T : Int → Int} {N r q : Int} {m m' m1 : MM} {Z : Int → Int} {cs : List Int}
theorem FrR.rf : FrR r m m := fun _ _ _ => rfl
theorem FrR.tr (h : FrR r m m1) (g : FrR r m1 m') : FrR r m m' := fun a i hi => (g a i hi).trans (h a i hi)
theorem FrR.put {a : Nat} {i v : Int} (h : rgn r a i) : FrR r m (up m a i v) := fun b j hj => by
  unfold up
  rw [if_neg (fun q => hj (by rw [q.1, q.2]; exact h))]
theorem FrR.pt {a : Nat} {i v : Int} (e : m' = up m a i v) (h : rgn r a i) : FrR r m m' := by rw [e]; exact FrR.put h
theorem FrR.of {I : List Int} (h : Fro 70 [] I m m') (hI : ∀ i, i ∈ I → i ∈ [(4 : Int), 5, 6, 7, 8, 9, 10, 30, 31, 32, 33]) : FrR r m m' := fun a i hi => by
  by_cases q : a = 70
  · rw [q]; exact h.2 i (fun g => hi (Or.inl ⟨q, hI i g⟩))
  · rw [h.1 a (by simp) q]
theorem FrM.frr (h : FrM r m m') : FrR r m m' := fun a i hi => by
  by_cases q : a = 70
  · rw [q]; exact h.1.2 i (fun g => hi (Or.inl ⟨q, g⟩))
  · by_cases q1 : a = 75
    · rw [q1]; exact h.2.1 i (fun g => hi (Or.inr (Or.inl ⟨by omega, g⟩)))
    · by_cases q2 : a = 85
      · rw [q2]; exact (h.2.2 i (fun g => hi (Or.inr (Or.inr (Or.inr (Or.inr (Or.inl ⟨Or.inl q2, g⟩))))))).1
      · by_cases q3 : a = 86
        · rw [q3]; exact (h.2.2 i (fun g => hi (Or.inr (Or.inr (Or.inr (Or.inr (Or.inl ⟨Or.inr q3, g⟩))))))).2
        · by_cases q4 : a = 87
          · exact absurd (Or.inr (Or.inr (Or.inr (Or.inr (Or.inr (Or.inl q4)))))) hi
          · by_cases q5 : a = 88
            · exact absurd (Or.inr (Or.inr (Or.inr (Or.inr (Or.inr (Or.inr q5)))))) hi
            · rw [h.1.1 a (by simp only [List.mem_cons, List.not_mem_nil, or_false]; omega) q]
/-- at a token, without a fault -/
def HdM (T : Int → Int) (N r q : Int) (m : MM) : Prop := TpM T N q m ∧ m 70 4 = 0 ∧ (m 70 29 = r ∧ 0 ≤ r ∧ r ≤ 1 ∧ m 70 5 = -1)
/-- what is told so far -/
def BdM (r : Int) (Z : Int → Int) (cs : List Int) (m : MM) : Prop :=
  (m 73 r = Z 1 ∧ m 74 r = Z 2 ∧ m 76 r = Z 3 ∧ m 77 r = Z 4 ∧ m 75 r = Z 8 ∧ m 78 r = Z 5 + 2 * Z 6 + 4 * Z 7) ∧
  (∀ i, 0 ≤ i → i < Z 1 → m 84 (5 * r + i) = Z (10 + i) ∧ m 79 (5 * r + i) = Z (20 + i)) ∧
  (∀ i, 0 ≤ i → i < 5 → m 81 (5 * r + i) = Z (30 + i)) ∧ (∀ i j, 0 ≤ i → i < 5 → 0 ≤ j → j < 5 → m 80 (5 * (5 * r + i) + j) = Z (40 + 5 * i + j)) ∧
  (m 70 30 = 560 * r + cs.length ∧ CdM (560 * r) cs m) ∧ (Z 5 ≠ 0 → m 82 r = 560 * r ∧ m 83 r = 560 * r + cs.length)
theorem HdM.go (h : HdM T N r q m) (g : GoP N m m') : HdM T N r (en T N q) m' := ⟨h.1.go g, by rw [g.1.2 4 (by decide)]; exact h.2.1, by rw [g.1.2 29 (by decide), g.1.2 5 (by decide)]; exact h.2.2⟩
theorem BdM.fro {I : List Int} (h : BdM r Z cs m) (f : Fro 70 [] I m m') (hI : (30 : Int) ∉ I) : BdM r Z cs m' := by
  have k : ∀ a : Nat, a ≠ 70 → m' a = m a := fun a ha => f.1 a (by simp) ha
  unfold BdM CdM
  rw [k 73 (by decide), k 74 (by decide), k 75 (by decide), k 76 (by decide), k 77 (by decide), k 78 (by decide), k 79 (by decide), k 80 (by decide), k 81 (by decide), k 82 (by decide), k 83 (by decide), k 84 (by decide), k 85 (by decide), k 86 (by decide), f.2 30 hI]
  exact h
theorem BdM.zero {x : Int} (h : BdM r Z cs m) : BdM r (ud Z 0 x) cs m := by
  obtain ⟨h1, h2, h3, h4, h5, h6⟩ := h
  refine ⟨?_, fun i i0 i1 => ?_, fun i i0 i1 => ?_, fun i j i0 i1 j0 j1 => ?_, h5, ?_⟩
  · rw [ud_ne (by decide), ud_ne (by decide), ud_ne (by decide), ud_ne (by decide), ud_ne (by decide), ud_ne (by decide), ud_ne (by decide), ud_ne (by decide)]; exact h1
  · rw [ud_ne (by omega), ud_ne (by omega)]
    rw [ud_ne (by decide)] at i1
    exact h2 i i0 i1
  · rw [ud_ne (by omega)]; exact h3 i i0 i1
  · rw [ud_ne (by omega)]; exact h4 i j i0 i1 j0 j1
  · rw [ud_ne (by decide)]; exact h6
/-- all of it -/
def RdM (T : Int → Int) (N r : Int) (Z : Int → Int) (cs : List Int) (m : MM) : Prop := HdM T N r (Z 0) m ∧ BdM r Z cs m
/-- a fault, told -/
def FsM (N : Int) (R : Rz) (m : MM) : Prop := ∃ f, R = .inl f ∧ FtM f m ∧ TsM (tx m) N m
/-- behind a line but for its end -/
def LpM (T : Int → Int) (N r : Int) (R : Rz) (m m' : MM) : Prop := FrR r m m' ∧ (FsM N R m' ∨ ∃ q Y c, semR T N q Y c R ∧ HdM T N r q m' ∧ BdM r Y c m')
/-- behind a line -/
def LeM (T : Int → Int) (N r : Int) (R : Rz) (m m' : MM) : Prop := FrR r m m' ∧ (FsM N R m' ∨ ∃ Y c, R = .inr (Y, c) ∧ RdM T N r Y c m')
theorem HdM.fault {x k : Int} {R : Rz} (h : HdM T N r q m) (g : FlM x k m m') (hx : x ≠ 0) (hR : R = .inl (x, k)) : FsM N R m' ∧ Fro 70 [] [4, 5] m m' := by
  obtain ⟨g1, g2⟩ := g.ft h.2.1 hx
  exact ⟨⟨_, hR, g1, (h.1.fr g2 (by decide) (by decide)).ts⟩, g2⟩
theorem HdM.mis {R : Rz} (h : HdM T N r q m) (g : FlM (if m 70 8 = 1 then 1 else 2) (m 70 6) m m') (hR : R = .inl (bdF T N q)) : FsM N R m' ∧ Fro 70 [] [4, 5] m m' := by
  obtain ⟨g1, g2⟩ := h.1.mis h.2.1 g
  exact ⟨⟨_, hR, g1, (h.1.fr g2 (by decide) (by decide)).ts⟩, g2⟩
theorem FsM.ne {R : Rz} (h : FsM N R m) : m 70 4 ≠ 0 := by
  obtain ⟨f, -, g, -⟩ := h
  rw [g.1]; exact g.2.2
theorem FsM.ts {R : Rz} (h : FsM N R m) : TsM (tx m) N m := by
  obtain ⟨f, -, -, g⟩ := h
  exact g
theorem num_of {x y z : Int} {R : Rz} {K : Int → Int → Prop} (h : HdM T N r q m) (g : NuM N x y m z m') (k : numR T N x y q R K) : (z = x ∧ FsM N R m' ∧ Fro 70 [] [4, 5, 6, 7, 8, 9, 10] m m') ∨ ∃ q', K z q' ∧ HdM T N r q' m' ∧ Fro 70 [] [4, 5, 6, 7, 8, 9, 10] m m' := by
  have h8 := h.1.num
  rcases g.2 h.2.1 with ⟨g1, g2, g3⟩ | ⟨g1, g2, g3, g4⟩ | ⟨g1, g2, g3, g4⟩
  · rcases k with ⟨k1, k2⟩ | ⟨k1, -⟩ | ⟨k1, -⟩
    · obtain ⟨a, b⟩ := h.mis g3 k2
      exact Or.inl ⟨g2, a, b.mono (by simp) (by simp)⟩
    · exact absurd (h8.1.mpr k1) g1
    · exact absurd (h8.1.mpr k1) g1
  · have k3 := h8.1.mp g1
    rw [h8.2 k3] at g2
    rcases k with ⟨k1, k2⟩ | ⟨k1, k2, k4⟩ | ⟨k1, k2, -⟩
    · exact absurd k3 k1
    · rw [h.1.at] at g4
      obtain ⟨a, b⟩ := h.fault g4 (by decide) k4
      exact Or.inl ⟨g3, a, b.mono (by simp) (by simp)⟩
    · exact absurd k2 g2
  · have k3 := h8.1.mp g1
    rw [h8.2 k3] at g2 g3
    rcases k with ⟨k1, k2⟩ | ⟨k1, k2, k4⟩ | ⟨k1, k2, k4⟩
    · exact absurd k3 k1
    · exact absurd g2 k2
    · rw [g3]
      exact Or.inr ⟨_, k4, h.go g4, g4.1.mono (by simp) (by simp)⟩
theorem opt_of {w W x y v z : Int} {R : Rz} {K : Int → Int → Prop} (h : HdM T N r q m) (hw : w ∈ KW) (hW : kwF w = W) (g : ((m 70 4 ≠ 0 ∨ ¬ (m 70 8 = 3 ∧ m 70 10 = w)) → z = v ∧ m' = m) ∧ (m 70 4 = 0 → m 70 8 = 3 ∧ m 70 10 = w → ∃ m1, GoP N m m1 ∧ NuM N x y m1 z m')) (k : optR T N W x y v q R K) : (z = x ∧ FsM N R m' ∧ Fro 70 [] [4, 5, 6, 7, 8, 9, 10] m m') ∨ ∃ q', K z q' ∧ HdM T N r q' m' ∧ Fro 70 [] [4, 5, 6, 7, 8, 9, 10] m m' := by
  have hk := h.1.word hw
  rw [hW] at hk
  rcases k with ⟨k1, k2⟩ | ⟨k1, k2⟩
  · obtain ⟨m1, g1, g2⟩ := g.2 h.2.1 (hk.mpr k1)
    have f1 : Fro 70 [] [4, 5, 6, 7, 8, 9, 10] m m1 := g1.1.mono (by simp) (by simp)
    rcases num_of (h.go g1) g2 k2 with ⟨a, b, c⟩ | ⟨q', a, b, c⟩
    · exact Or.inl ⟨a, b, f1.tr c⟩
    · exact Or.inr ⟨q', a, b, f1.tr c⟩
  · obtain ⟨g1, g2⟩ := g.1 (Or.inr (fun e => k1 (hk.mp e)))
    rw [g1, g2]
    exact Or.inr ⟨q, k2, h, Fro.rf⟩
theorem kn_of {s z : Int} {k : Nat} {R : Rz} {B K : Int → Prop} (h : HdM T N r q m) (hb : BdM r Z cs m) (hk : Z 1 = k) (hinj : ∀ i j, 0 ≤ i → i < Z 1 → 0 ≤ j → j < Z 1 → Z (10 + i) = Z (10 + j) → i = j) (hs : ∀ j, 0 ≤ j → j < Z 1 → (bt s j = 1 ↔ B j)) (g : KnM N r s k m z m') (c : knR T N Z q R (fun j => (B j ∧ R = .inl (3, plc T N q)) ∨ (¬ B j ∧ K j))) : (0 ≤ z ∧ (z < Z 1 ∨ z = 0)) ∧ ((FsM N R m' ∧ Fro 70 [] [4, 5, 6, 7, 8, 9, 10] m m') ∨ (K z ∧ z < Z 1 ∧ HdM T N r (en T N q) m' ∧ Fro 70 [] [4, 5, 6, 7, 8, 9, 10] m m')) := by
  have h8 := h.1.name
  obtain ⟨y, hy, hz, g⟩ := g.2 h.2.1
  have hz2 : 0 ≤ z ∧ (z < Z 1 ∨ z = 0) := by
    rw [hz]
    by_cases y0 : 0 ≤ y
    · rw [if_pos y0]
      rcases hy with ⟨a, -⟩ | ⟨a, -⟩
      · omega
      · exact ⟨y0, Or.inl (by rw [hk]; exact a.2)⟩
    · rw [if_neg y0]; exact ⟨Int.le_refl 0, Or.inr rfl⟩
  refine ⟨hz2, ?_⟩
  have nm : kd T N q = 2 → ∀ i, 0 ≤ i → i < Z 1 → (m 84 (5 * r + i) = m 70 10 ↔ Z (10 + i) = vl T N q) := fun e i i0 i1 => by
    rw [(hb.2.1 i i0 i1).1, h8.2 e]
  have fnd : kd T N q = 2 → 0 ≤ y → y < Z 1 ∧ Z (10 + y) = vl T N q := fun e y0 => by
    rcases hy with ⟨a, -⟩ | ⟨a, b, -⟩
    · omega
    · have y1 : y < Z 1 := by rw [hk]; exact a.2
      exact ⟨y1, (nm e y y0 y1).mp b.2⟩
  have nof : kd T N q = 2 → y < 0 → ∀ i, 0 ≤ i → i < Z 1 → Z (10 + i) ≠ vl T N q := fun e y0 i i0 i1 g => by
    rcases hy with ⟨-, b⟩ | ⟨a, -⟩
    · exact b i ⟨i0, by rw [← hk]; exact i1⟩ ⟨h8.1.mpr e, (nm e i i0 i1).mpr g⟩
    · have := a.1; omega
  rcases g with ⟨g1, g2⟩ | ⟨g1, g2, g3⟩ | ⟨g1, g2, g3, g4⟩ | ⟨g1, g2, g3, g4⟩
  · have e2 : kd T N q ≠ 2 := fun e => g1 (h8.1.mpr e)
    rcases c with ⟨-, c2⟩ | ⟨c1, -⟩ | ⟨c1, -⟩
    · obtain ⟨a, b⟩ := h.mis g2 c2
      exact Or.inl ⟨a, b.mono (by simp) (by simp)⟩
    · exact absurd c1 e2
    · exact absurd c1 e2
  · have e2 := h8.1.mp g1
    rw [h.1.at] at g3
    rcases c with ⟨c1, -⟩ | ⟨-, -, c2⟩ | ⟨-, i, i0, i1, i2, -⟩
    · exact absurd e2 c1
    · obtain ⟨a, b⟩ := h.fault g3 (by decide) c2
      exact Or.inl ⟨a, b.mono (by simp) (by simp)⟩
    · exact absurd i2 (nof e2 g2 i i0 i1)
  · have e2 := h8.1.mp g1
    rw [h.1.at] at g4
    obtain ⟨y1, y2⟩ := fnd e2 g2
    rcases c with ⟨c1, -⟩ | ⟨-, c1, -⟩ | ⟨-, i, i0, i1, i2, c2⟩
    · exact absurd e2 c1
    · exact absurd y2 (c1 y g2 y1)
    · have : i = y := hinj i y i0 i1 g2 y1 (i2.trans y2.symm)
      subst this
      rcases c2 with ⟨-, c3⟩ | ⟨c3, -⟩
      · obtain ⟨a, b⟩ := h.fault g4 (by decide) c3
        exact Or.inl ⟨a, b.mono (by simp) (by simp)⟩
      · exact absurd ((hs i i0 i1).mp g3) c3
  · have e2 := h8.1.mp g1
    obtain ⟨y1, y2⟩ := fnd e2 g2
    rw [if_pos g2] at hz
    rcases c with ⟨c1, -⟩ | ⟨-, c1, -⟩ | ⟨-, i, i0, i1, i2, c2⟩
    · exact absurd e2 c1
    · exact absurd y2 (c1 y g2 y1)
    · have : i = y := hinj i y i0 i1 g2 y1 (i2.trans y2.symm)
      subst this
      rcases c2 with ⟨c3, -⟩ | ⟨-, c3⟩
      · exact absurd ((hs i i0 i1).mpr c3) g3
      · rw [hz]
        exact Or.inr ⟨c3, i1, h.go g4, g4.1.mono (by simp) (by simp)⟩
theorem tld {a b c : Int} (ha : a = 0 ∨ a = 1) (hb : b = 0 ∨ b = 1) (hc : c = 0 ∨ c = 1) : bt (a + 2 * b + 4 * c) 0 = a ∧ bt (a + 2 * b + 4 * c) 1 = b ∧ bt (a + 2 * b + 4 * c) 2 = c ∧ bOr (a + 2 * b + 4 * c) 1 = 1 + 2 * b + 4 * c ∧ bOr (a + 2 * b + 4 * c) (bShl 1 1) = a + 2 * 1 + 4 * c ∧ bOr (a + 2 * b + 4 * c) (bShl 1 2) = a + 2 * b + 4 * 1 := by
  rcases ha with rfl | rfl <;> rcases hb with rfl | rfl <;> rcases hc with rfl | rfl <;> decide +kernel
end ReadR
