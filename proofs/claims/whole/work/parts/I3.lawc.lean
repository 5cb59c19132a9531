/-! the law, call by call: what lies, levels, sights -/
/-- all but what lies -/
def Ivq (n : Nat) (D : Int → Int) (W : Int → Int → Int) (br : Int → Int) (b b' : Nat) (fs : List Int) (lk : Int) (hd : Int → Int) (c : Int) (m : MM) : Prop := IvA n D W br b b' m ∧ IvB b fs lk m ∧ IvC m ∧ IvD n c m ∧ IvF n D W br hd b m ∧ IvG n D W br m
section Keep3
variable {m m' : MM} {n : Nat} {D : Int → Int} {W : Int → Int → Int} {br hd : Int → Int} {b b' : Nat} {fs : List Int} {lk c c' : Int}
theorem Ivp.lvl (h : Ivp n D W br b b' fs lk hd c m) (f : Fro 45 [46, 48, 49, 50, 51, 52, 53] [3] m m') (H : LvC n D W br m') : Ivp n D W br b b' fs lk hd c m' := by
  obtain ⟨hA, hB, hC, hD, hE, hF, hG⟩ := h
  have hb := hA.2.1.1
  have e : ∀ a, a ≠ 45 → a ≠ 46 → (a < 48 ∨ 53 < a) → m' a = m a := fun a h1 h2 h3 => f.1 a (by simp only [List.mem_cons, List.not_mem_nil, or_false]; omega) h1
  have e7 : m' 70 = m 70 := e 70 (by decide) (by decide) (by decide)
  refine ⟨hA.fr (fun a ha => e a (by omega) (by omega) (by omega)) (by rw [e7]), hB.fr hb (fun a ha => e a (by omega) (by omega) (by omega)) (by rw [e7]), hC.fr (fun a ha => e a (by omega) (by omega) (by omega)) (fun i hi => by rw [e7]), hD.fr (fun a ha => e a (by omega) (by omega) (by omega)) (fun i hi => by rw [e7]), hE.fr (fun a ha => e a (by omega) (by omega) (by omega)) (by rw [e7]), hF.fr hb (fun a ha => e a (by omega) (by omega) (by omega)) (fun i hi => by rw [e7]), ?_⟩
  obtain ⟨g1, g2, g3, g4, g5⟩ := hG
  unfold IvG GL PtR GM
  rw [e 38 (by decide) (by decide) (by decide), e 39 (by decide) (by decide) (by decide), e 40 (by decide) (by decide) (by decide), e 44 (by decide) (by decide) (by decide), e 95 (by decide) (by decide) (by decide), e7]
  exact ⟨g1, g2, g3, H, g5⟩
theorem Ivp.q (h : Ivp n D W br b b' fs lk hd c m) : Ivq n D W br b b' fs lk hd c m := ⟨h.1, h.2.1, h.2.2.1, h.2.2.2.1, h.2.2.2.2.2.1, h.2.2.2.2.2.2⟩
theorem Ivq.inv (h : Ivq n D W br b b' fs lk hd c m) (e : IvE m) : Inv c m := ⟨n, D, W, br, b, b', fs, lk, hd, h.1, h.2.1, h.2.2.1, h.2.2.2.1, e, h.2.2.2.2.1, h.2.2.2.2.2⟩
theorem Ivq.scr (h : Ivq n D W br b b' fs lk hd c m) (e : ∀ a, a ∉ SCR → a ≠ 67 → a ≠ 68 → a ≠ 97 → a ≠ 70 → m' a = m a) (e70 : ∀ i : Int, i ≠ 34 → i ≠ 41 → i ≠ 43 → i ≠ 48 → m' 70 i = m 70 i) (hc : c ≤ c') : Ivq n D W br b b' fs lk hd c' m' := by
  obtain ⟨hA, hB, hC, hD, hF, hG⟩ := h
  have hb := hA.2.1.1
  exact ⟨hA.fr (fun a ha => e a (scr_no (by omega)) (by omega) (by omega) (by omega) (by omega)) (e70 28 (by decide) (by decide) (by decide) (by decide)), hB.fr hb (fun a ha => e a (scr_no (by omega)) (by omega) (by omega) (by omega) (by omega)) (e70 28 (by decide) (by decide) (by decide) (by decide)), hC.fr (fun a ha => e a (scr_no (by omega)) (by omega) (by omega) (by omega) (by omega)) (fun i hi => e70 i (by omega) (by omega) (by omega) (by omega)), (hD.fr (fun a ha => e a (scr_no (by omega)) (by omega) (by omega) (by omega) (by omega)) (fun i hi => e70 i (by omega) (by omega) (by omega) (by omega))).mono hc, hF.fr hb (fun a ha => e a (scr_no (by omega)) (by omega) (by omega) (by omega) (by omega)) (fun i hi => e70 i (by omega) (by omega) (by omega) (by omega)), hG.fr (fun a ha => e a (scr_no (by omega)) (by omega) (by omega) (by omega) (by omega)) (e70 42 (by decide) (by decide) (by decide) (by decide))⟩
theorem Ivq.fx {S : List Nat} (h : Ivq n D W br b b' fs lk hd c m) (f : Fr S m m') (hS : ∀ a ∈ S, a ∈ SCR ∨ a = 67 ∨ a = 68) (h7 : 70 ∉ S) : Ivq n D W br b b' fs lk hd c m' := h.scr (fun a ha h1 h2 _ _ => f a (fun q => by rcases hS a q with r | r | r; exact ha r; exact h1 r; exact h2 r)) (fun i _ _ _ _ => by rw [f 70 h7]) (Int.le_refl c)
theorem Ivq.fm {S : List Nat} {I : List Int} (h : Ivq n D W br b b' fs lk hd c m) (f : Fro 70 S I m m') (hS : ∀ a ∈ S, a ∈ SCR ∨ a = 97) (hI : ∀ i ∈ I, i = 34 ∨ i = 41 ∨ i = 43 ∨ i = 48) : Ivq n D W br b b' fs lk hd (c + 1) m' := h.scr (fun a ha _ _ h3 h7 => f.1 a (fun q => by rcases hS a q with r | r; exact ha r; exact h3 r) h7) (fun i c1 c2 c3 c4 => f.2 i (fun q => by have := hI i q; omega)) (by omega)
theorem IvE.mk2 {m1 m2 : MM} {k k' : Int} (f1 : m2 67 = m1 67) (f2 : m2 68 = m1 68) (e1 : m1 67 1 = k) (e2 : m2 70 48 = k') (ek : k = k') (h0 : 0 ≤ k ∧ k ≤ 60) (hL : ∀ i, 0 ≤ i → i < k → m1 68 i = m2 97 i) : IvE m2 := by
  unfold IvE
  rw [f1, f2, e1, e2]
  exact ⟨⟨ek, h0⟩, hL⟩
theorem MdR.congr {h0 h1 f : Int → Int} (e : ∀ i, In n i → h0 i = h1 i) (a : MdR n D W br h0 f) : MdR n D W br h1 f := by
  obtain ⟨a1, a2, a3⟩ := a
  refine ⟨fun i hi => by rw [← e i hi]; exact a1 i hi, a2.congr (fun i hi => by rw [e i hi]), fun g g1 g2 => a3 g (fun i hi => by rw [e i hi]; exact g1 i hi) (g2.congr (fun i hi => by rw [e i hi]))⟩
theorem DuA.le {g L : Int → Int} {p o z k : Int} (h : DuA n W br g p o z k L) : 0 ≤ k ∧ k ≤ 60 := by
  by_cases q : In n p ∧ In n o ∧ p ≠ o
  · obtain ⟨G0, G1, _, h1⟩ := h.1 q
    rcases h1.1 with ⟨_, r, _⟩ | ⟨_, r, _⟩ <;> omega
  · have := (h.2 q).2; omega
theorem SmA.le (hn : n ≤ 5) {g x L : Int → Int} {f : Prop} {z k : Int} (h : SmA n W br g x f z k L) : 0 ≤ k ∧ k ≤ 60 := by
  by_cases q : f
  · obtain ⟨u, _, r, _⟩ := h.1 q
    omega
  · have := (h.2 q).2; omega
/-- the class has worked its guesses out -/
theorem Ivp.sgf (h : Ivp n D W br b b' fs lk hd c m) (f : SgF n W br hd m m') : Ivp n D W br b b' fs lk hd c m' := by
  obtain ⟨hA, hB, hC, hD, hE, hF, hG⟩ := h
  have hb := hA.2.1.1
  have hb2 : b = 7 ∨ b = 16 := hb
  obtain ⟨f, fE⟩ := f
  have e : ∀ a, a ≠ 55 → (a < 61 ∨ 66 < a) → m' a = m a := fun a h1 h3 => f.1 a (by simp only [List.mem_cons, List.not_mem_nil, or_false]; omega) h1
  have e7 : m' 70 = m 70 := e 70 (by decide) (by decide)
  refine ⟨hA.fr (fun a ha => e a (by omega) (by omega)) (by rw [e7]), hB.fr hb (fun a ha => e a (by omega) (by omega)) (by rw [e7]), hC.fr (fun a ha => e a (by omega) (by omega)) (fun i hi => by rw [e7]), hD.fr (fun a ha => e a (by omega) (by omega)) (fun i hi => by rw [e7]), hE.fr (fun a ha => e a (by omega) (by omega)) (by rw [e7]), ?_, hG.fr (fun a ha => e a (by omega) (by omega)) (by rw [e7])⟩
  obtain ⟨⟨g1, g2, g3, g4⟩, g5, g6, g7, g8⟩ := hF
  unfold IvF SgX SgM
  rw [e (b + 1) (by omega) (by omega), e 56 (by decide) (by decide), e 57 (by decide) (by decide), e 58 (by decide) (by decide), e 59 (by decide) (by decide), e 60 (by decide) (by decide), e 79 (by decide) (by decide), e 103 (by decide) (by decide), e 104 (by decide) (by decide), e 105 (by decide) (by decide), e 106 (by decide) (by decide), e 107 (by decide) (by decide), e7, f.2 10 (by decide), f.2 11 (by decide)]
  exact ⟨⟨g1, g2, fE, g4⟩, g5, g6, g7, g8⟩
end Keep3
section Law3
variable {l : Launch} {G : GT} {m : MM} {Q : Option MV → MM → Nat → Prop}
theorem l_level {x3 c : Int} (hx : 0 ≤ x3 ∧ x3 + 6 ≤ (g_L G : Int)) (hL : g_L G ≤ 3072) (hI : Inv c m) (hc : 0 ≤ c ∧ c ≤ 511) (L : ∀ m1, Inv (c + 1) m1 → Wq l G true Y_Law 400 Q 1542 [(0, .inr (.inr 1000)), (1, .inr (.inr 0)), (2, .inr (.inr 70)), (3, .inl x3)] [] m1) : Wq l G true Y_Law 400 Q 832 [(0, .inr (.inr 1000)), (1, .inr (.inr 0)), (2, .inr (.inr 70)), (3, .inl x3)] [] m := by
  obtain ⟨n, D, W, br, b, b', fs, lk, hd, hI⟩ := hI
  have B := hI.1.1
  have X := hI.1.2.1
  have hn5 := B.1
  obtain ⟨hE, hS, hAR, -, hBox⟩ := hI.2.2.2.1
  have hg := hS.1
  have hN := hS.2.1
  have hEn : ∀ i, In n i → m 25 i = m 90 i := fun i hi => hE i hi.1 (by have := hi.2; omega)
  refine s_Law_832 x3 (fun _ _ => ⟨by unfold inR; omega, by omega, 17, _, by decide, c_levelX (d := 0) B X hI.2.2.2.2.2.2.2.2.2.1, fun z m1 h1 _ _ => ?_⟩)
  obtain ⟨f1, H1, a1, a2⟩ := h1
  have I1 := hI.lvl f1 H1
  refine ⟨by unfold inR; omega, by omega, 3, _, by decide, c_levelM (d := 0) I1.1.1 I1.1.2.2.1, fun z2 m2 h2 _ _ => ?_⟩
  obtain ⟨f2, b1, b2⟩ := h2
  have I2 := I1.fm f2 (by decide) (by decide)
  refine ⟨fun _ => L _ I2, fun q => q ?_⟩
  by_cases c : 0 ≤ (g_x G ((x3 + 1)).toNat)
  · rw [a1 c, b1 c]
  · rw [a2 c, b2 c]
theorem l_row {x3 c : Int} (hx : 0 ≤ x3 ∧ x3 + 6 ≤ (g_L G : Int)) (hL : g_L G ≤ 3072) (hI : Inv c m) (hc : 0 ≤ c ∧ c ≤ 511) (L : ∀ m1, Inv (c + 1) m1 → Wq l G true Y_Law 400 Q 1542 [(0, .inr (.inr 1000)), (1, .inr (.inr 0)), (2, .inr (.inr 70)), (3, .inl x3)] [] m1) : Wq l G true Y_Law 400 Q 721 [(0, .inr (.inr 1000)), (1, .inr (.inr 0)), (2, .inr (.inr 70)), (3, .inl x3)] [] m := by
  obtain ⟨n, D, W, br, b, b', fs, lk, hd, hI⟩ := hI
  have B := hI.1.1
  have X := hI.1.2.1
  have hn5 := B.1
  obtain ⟨hE, hS, hAR, -, hBox⟩ := hI.2.2.2.1
  have hg := hS.1
  have hN := hS.2.1
  have hEn : ∀ i, In n i → m 25 i = m 90 i := fun i hi => hE i hi.1 (by have := hi.2; omega)
  have hN3 : (495 : Int) + 20 * c ≤ 14000 := by omega
  refine s_Law_721 x3 (fun _ _ => ⟨3, _, by decide, c_rowX (d := 0) B X hg hN (by omega), fun z m1 h1 _ _ => ?_⟩)
  obtain ⟨K1, f1, e1, r1⟩ := h1
  have I1 := hI.q.fx f1 (by decide) (by decide)
  have e25 : m1 25 = m 25 := f1 25 (by decide)
  have e90 : m1 90 = m 90 := f1 90 (by decide)
  have hg1 : ∀ i, In n i → 0 ≤ m1 90 i := fun i hi => by rw [e90, ← hEn i hi]; exact hg i hi
  have hN1 : sm n (m1 90) ≤ 495 + 20 * c := by rw [e90, ← sm_congr hEn]; exact hN
  have hE1 : ∀ i, In n i → m 25 i = m1 90 i := fun i hi => by rw [e90]; exact hEn i hi
  refine ⟨3, _, by decide, c_rowM (d := 0) I1.1.1 I1.1.2.2.1 hg1 hN1 (by omega), fun z2 m2 h2 _ _ => ?_⟩
  obtain ⟨K2, f2, e2, r2⟩ := h2
  have I2q := I1.fm f2 (by decide) (by decide)
  have f67 : m2 67 = m1 67 := f2.1 67 (by decide) (by decide)
  have f68 : m2 68 = m1 68 := f2.1 68 (by decide) (by decide)
  obtain ⟨u1, u2, u3⟩ := RowR.uniq hE1 r1 r2
  have hK := r1.1
  have I2 := I2q.inv (IvE.mk2 f67 f68 e1 e2 (by omega) (by omega) (fun i i0 i1 => by have hq := u3 i.toNat (by omega); rwa [Int.toNat_of_nonneg i0] at hq))
  refine ⟨fun _ => L _ I2, fun q => q ?_⟩
  exact u2
theorem l_fire {x3 c : Int} (hx : 0 ≤ x3 ∧ x3 + 6 ≤ (g_L G : Int)) (hL : g_L G ≤ 3072) (hI : Inv c m) (hc : 0 ≤ c ∧ c ≤ 511) (L : ∀ m1, Inv (c + 1) m1 → Wq l G true Y_Law 400 Q 1542 [(0, .inr (.inr 1000)), (1, .inr (.inr 0)), (2, .inr (.inr 70)), (3, .inl x3)] [] m1) : Wq l G true Y_Law 400 Q 806 [(0, .inr (.inr 1000)), (1, .inr (.inr 0)), (2, .inr (.inr 70)), (3, .inl x3)] [] m := by
  obtain ⟨n, D, W, br, b, b', fs, lk, hd, hI⟩ := hI
  have B := hI.1.1
  have X := hI.1.2.1
  have hn5 := B.1
  obtain ⟨hE, hS, hAR, -, hBox⟩ := hI.2.2.2.1
  have hg := hS.1
  have hN := hS.2.1
  have hEn : ∀ i, In n i → m 25 i = m 90 i := fun i hi => hE i hi.1 (by have := hi.2; omega)
  have hN3 : (495 : Int) + 20 * c ≤ 14000 := by omega
  refine s_Law_806 x3 (fun _ _ => ⟨5, _, by decide, c_fireX (d := 0) B X hg hN (by omega), fun z m1 h1 _ _ => ?_⟩)
  obtain ⟨f1, v1, r1, K1, s1, p1, q1, e1, z1⟩ := h1
  have I1 := hI.q.fx f1 (by decide) (by decide)
  have e25 : m1 25 = m 25 := f1 25 (by decide)
  have e90 : m1 90 = m 90 := f1 90 (by decide)
  have hg1 : ∀ i, In n i → 0 ≤ m1 90 i := fun i hi => by rw [e90, ← hEn i hi]; exact hg i hi
  have hN1 : sm n (m1 90) ≤ 495 + 20 * c := by rw [e90, ← sm_congr hEn]; exact hN
  have hE1 : ∀ i, In n i → m 25 i = m1 90 i := fun i hi => by rw [e90]; exact hEn i hi
  refine ⟨4, _, by decide, c_fireM (d := 0) I1.1.1 I1.1.2.2.1 hg1 hN1 (by omega), fun z2 m2 h2 _ _ => ?_⟩
  obtain ⟨f2, v2, r2, K2, s2, p2, q2, e2, z2e⟩ := h2
  have I2q := I1.fm f2 (by decide) (by decide)
  have f67 : m2 67 = m1 67 := f2.1 67 (by decide) (by decide)
  have f68 : m2 68 = m1 68 := f2.1 68 (by decide) (by decide)
  have ev := (s1.congr hE1).uniq s2
  have er : ∀ i, In n i → r1 i = r2 i := fun i hi => by rw [p1 i hi, p2 i hi, hE1 i hi, Lp_congr ev i hi]
  obtain ⟨u1, u3⟩ := FiR.uniq er q1 q2
  have hK := FiR.le q1.1
  have I2 := I2q.inv (IvE.mk2 f67 f68 e1 e2 (by omega) (by omega) (fun i i0 i1 => by have hq := u3 i.toNat (by omega); rwa [Int.toNat_of_nonneg i0] at hq))
  refine ⟨fun _ => L _ I2, fun q => q ?_⟩
  rw [z1, z2e, u1]
theorem l_mend {x3 c : Int} (hx : 0 ≤ x3 ∧ x3 + 6 ≤ (g_L G : Int)) (hL : g_L G ≤ 3072) (hI : Inv c m) (hc : 0 ≤ c ∧ c ≤ 511) (L : ∀ m1, Inv (c + 1) m1 → Wq l G true Y_Law 400 Q 1542 [(0, .inr (.inr 1000)), (1, .inr (.inr 0)), (2, .inr (.inr 70)), (3, .inl x3)] [] m1) : Wq l G true Y_Law 400 Q 878 [(0, .inr (.inr 1000)), (1, .inr (.inr 0)), (2, .inr (.inr 70)), (3, .inl x3)] [] m := by
  obtain ⟨n, D, W, br, b, b', fs, lk, hd, hI⟩ := hI
  have B := hI.1.1
  have X := hI.1.2.1
  have hn5 := B.1
  obtain ⟨hE, hS, hAR, -, hBox⟩ := hI.2.2.2.1
  have hg := hS.1
  have hN := hS.2.1
  have hEn : ∀ i, In n i → m 25 i = m 90 i := fun i hi => hE i hi.1 (by have := hi.2; omega)
  have hN3 : (495 : Int) + 20 * c ≤ 14000 := by omega
  refine s_Law_878 x3 (fun _ _ => ⟨5, _, by decide, c_mendX (d := 0) B X hg hN (by omega), fun z m1 h1 _ _ => ?_⟩)
  obtain ⟨f1, v1, r1, g1, s1, p1, q1, z1, e1, L1⟩ := h1
  have I1 := hI.q.fx f1 (by decide) (by decide)
  have e25 : m1 25 = m 25 := f1 25 (by decide)
  have e90 : m1 90 = m 90 := f1 90 (by decide)
  have hg1 : ∀ i, In n i → 0 ≤ m1 90 i := fun i hi => by rw [e90, ← hEn i hi]; exact hg i hi
  have hN1 : sm n (m1 90) ≤ 495 + 20 * c := by rw [e90, ← sm_congr hEn]; exact hN
  have hE1 : ∀ i, In n i → m 25 i = m1 90 i := fun i hi => by rw [e90]; exact hEn i hi
  refine ⟨4, _, by decide, c_mendM (d := 0) I1.1.1 I1.1.2.2.1 hg1 hN1 (by omega), fun z2 m2 h2 _ _ => ?_⟩
  obtain ⟨f2, v2, r2, g2, s2, p2, q2, z2e, e2, L2⟩ := h2
  have I2q := I1.fm f2 (by decide) (by decide)
  have f67 : m2 67 = m1 67 := f2.1 67 (by decide) (by decide)
  have f68 : m2 68 = m1 68 := f2.1 68 (by decide) (by decide)
  have ev := (s1.congr hE1).uniq s2
  have er : ∀ i, In n i → r1 i = r2 i := fun i hi => by rw [p1 i hi, p2 i hi, hE1 i hi, Lp_congr ev i hi]
  have u3 := MdR.uniq B (fun i hi => ⟨by rw [p2 i hi]; exact s2.nonneg B hg1 i hi, by rw [p2 i hi]; exact s2.2.1 i hi⟩) (q1.congr er) q2
  have I2 := I2q.inv (IvE.mk2 f67 f68 e1 e2 rfl (by omega) (fun i i0 i1 => by rw [L1 i ⟨i0, i1⟩, L2 i ⟨i0, i1⟩, u3 i ⟨i0, i1⟩]))
  refine ⟨fun _ => L _ I2, fun q => q ?_⟩
  rw [z1, z2e, sm_congr u3]
theorem l_sumo {x3 c : Int} (hx : 0 ≤ x3 ∧ x3 + 6 ≤ (g_L G : Int)) (hL : g_L G ≤ 3072) (hI : Inv c m) (hc : 0 ≤ c ∧ c ≤ 511) (L : ∀ m1, Inv (c + 1) m1 → Wq l G true Y_Law 400 Q 1542 [(0, .inr (.inr 1000)), (1, .inr (.inr 0)), (2, .inr (.inr 70)), (3, .inl x3)] [] m1) : Wq l G true Y_Law 400 Q 960 [(0, .inr (.inr 1000)), (1, .inr (.inr 0)), (2, .inr (.inr 70)), (3, .inl x3)] [] m := by
  obtain ⟨n, D, W, br, b, b', fs, lk, hd, hI⟩ := hI
  have B := hI.1.1
  have X := hI.1.2.1
  have hn5 := B.1
  obtain ⟨hE, hS, hAR, -, hBox⟩ := hI.2.2.2.1
  have hg := hS.1
  have hN := hS.2.1
  have hEn : ∀ i, In n i → m 25 i = m 90 i := fun i hi => hE i hi.1 (by have := hi.2; omega)
  have hN3 : (495 : Int) + 20 * c ≤ 14000 := by omega
  refine s_Law_960 x3 (fun _ _ => ⟨by unfold inR; omega, by omega, 3, _, by decide, c_sumX (d := 0) B X hg hN (by omega) (fun q => by have h8 := ((hBox _ q.1.1 q.1.2).2 q.2).2; have h9 := h8.2.1; exact ⟨h8.1, by omega⟩), fun z m1 h1 _ _ => ?_⟩)
  obtain ⟨f1, r1⟩ := h1
  have I1 := hI.q.fx f1 (by decide) (by decide)
  have e25 : m1 25 = m 25 := f1 25 (by decide)
  have e90 : m1 90 = m 90 := f1 90 (by decide)
  have hg1 : ∀ i, In n i → 0 ≤ m1 90 i := fun i hi => by rw [e90, ← hEn i hi]; exact hg i hi
  have hN1 : sm n (m1 90) ≤ 495 + 20 * c := by rw [e90, ← sm_congr hEn]; exact hN
  have hE1 : ∀ i, In n i → m 25 i = m1 90 i := fun i hi => by rw [e90]; exact hEn i hi
  have hb1 : (0 ≤ (g_x G ((x3 + 1)).toNat) ∧ (g_x G ((x3 + 1)).toNat) < 3) ∧ m 31 (g_x G ((x3 + 1)).toNat) ≠ 0 ↔ (0 ≤ (g_x G ((x3 + 1)).toNat) ∧ (g_x G ((x3 + 1)).toNat) < 3) ∧ m1 110 (g_x G ((x3 + 1)).toNat) ≠ 0 := by
    rw [f1 110 (by decide)]
    exact ⟨fun q => ⟨q.1, (hBox _ q.1.1 q.1.2).1.mp q.2⟩, fun q => ⟨q.1, (hBox _ q.1.1 q.1.2).1.mpr q.2⟩⟩
  have hb2 : (0 ≤ (g_x G ((x3 + 1)).toNat) ∧ (g_x G ((x3 + 1)).toNat) < 3) ∧ m 31 (g_x G ((x3 + 1)).toNat) ≠ 0 → (∀ i, 0 ≤ i → i < 8 → m 30 (8 * (g_x G ((x3 + 1)).toNat) + i) = m1 109 (8 * (g_x G ((x3 + 1)).toNat) + i)) ∧ StO n c (fun i => m 30 (8 * (g_x G ((x3 + 1)).toNat) + i)) := fun q => by
    rw [f1 109 (by decide)]
    exact (hBox _ q.1.1 q.1.2).2 q.2
  refine ⟨by unfold inR; omega, by omega, 3, _, by decide, c_sumM (d := 0) I1.1.1 I1.1.2.2.1 hg1 hN1 (by omega) (fun q => by have h8 := hb2 (hb1.mpr q); have h9 := h8.2.2.1; have h7 : ∀ i, In n i → m 30 (8 * (g_x G ((x3 + 1)).toNat) + i) = m1 109 (8 * (g_x G ((x3 + 1)).toNat) + i) := fun i hi => h8.1 i hi.1 (by have := hi.2; omega); exact ⟨fun i hi => by rw [← h7 i hi]; exact h8.2.1 i hi, by rw [← sm_congr h7]; omega⟩), fun z2 m2 h2 _ _ => ?_⟩
  obtain ⟨f2, r2⟩ := h2
  have I2q := I1.fm f2 (by decide) (by decide)
  have f67 : m2 67 = m1 67 := f2.1 67 (by decide) (by decide)
  have f68 : m2 68 = m1 68 := f2.1 68 (by decide) (by decide)
  obtain ⟨u1, u2, u3⟩ := SmA.uniq hb1 hE1 (fun q i hi => (hb2 q).1 i hi.1 (by have := hi.2; omega)) r1 r2
  have hK := r1.le hn5
  have I2 := I2q.inv (IvE.mk2 f67 f68 rfl rfl u2 hK u3)
  refine ⟨fun _ => L _ I2, fun q => q ?_⟩
  exact u1
theorem l_duel {x3 c : Int} (hx : 0 ≤ x3 ∧ x3 + 6 ≤ (g_L G : Int)) (hL : g_L G ≤ 3072) (hI : Inv c m) (hc : 0 ≤ c ∧ c ≤ 511) (L : ∀ m1, Inv (c + 1) m1 → Wq l G true Y_Law 400 Q 1542 [(0, .inr (.inr 1000)), (1, .inr (.inr 0)), (2, .inr (.inr 70)), (3, .inl x3)] [] m1) : Wq l G true Y_Law 400 Q 1167 [(0, .inr (.inr 1000)), (1, .inr (.inr 0)), (2, .inr (.inr 70)), (3, .inl x3)] [] m := by
  obtain ⟨n, D, W, br, b, b', fs, lk, hd, hI⟩ := hI
  have B := hI.1.1
  have X := hI.1.2.1
  have hn5 := B.1
  obtain ⟨hE, hS, hAR, -, hBox⟩ := hI.2.2.2.1
  have hg := hS.1
  have hN := hS.2.1
  have hEn : ∀ i, In n i → m 25 i = m 90 i := fun i hi => hE i hi.1 (by have := hi.2; omega)
  have hN3 : (495 : Int) + 20 * c ≤ 14000 := by omega
  refine s_Law_1167 x3 (fun _ _ => ⟨by unfold inR; omega, by omega, by unfold inR; omega, by omega, 5, _, by decide, c_duelX (d := 0) B X hg hN (by omega), fun z m1 h1 _ _ => ?_⟩)
  obtain ⟨f1, r1⟩ := h1
  have I1 := hI.q.fx f1 (by decide) (by decide)
  have e25 : m1 25 = m 25 := f1 25 (by decide)
  have e90 : m1 90 = m 90 := f1 90 (by decide)
  have hg1 : ∀ i, In n i → 0 ≤ m1 90 i := fun i hi => by rw [e90, ← hEn i hi]; exact hg i hi
  have hN1 : sm n (m1 90) ≤ 495 + 20 * c := by rw [e90, ← sm_congr hEn]; exact hN
  have hE1 : ∀ i, In n i → m 25 i = m1 90 i := fun i hi => by rw [e90]; exact hEn i hi
  refine ⟨by unfold inR; omega, by omega, by unfold inR; omega, by omega, 3, _, by decide, c_duelM (d := 0) I1.1.1 I1.1.2.2.1 hg1 hN1 (by omega), fun z2 m2 h2 _ _ => ?_⟩
  obtain ⟨f2, r2⟩ := h2
  have I2q := I1.fm f2 (by decide) (by decide)
  have f67 : m2 67 = m1 67 := f2.1 67 (by decide) (by decide)
  have f68 : m2 68 = m1 68 := f2.1 68 (by decide) (by decide)
  obtain ⟨u1, u2, u3⟩ := DuA.uniq hE1 r1 r2
  have hK := r1.le
  have I2 := I2q.inv (IvE.mk2 f67 f68 rfl rfl u2 hK u3)
  refine ⟨fun _ => L _ I2, fun q => q ?_⟩
  exact u1
theorem l_fits {x3 c : Int} (hx : 0 ≤ x3 ∧ x3 + 6 ≤ (g_L G : Int)) (hL : g_L G ≤ 3072) (hI : Inv c m) (hc : 0 ≤ c ∧ c ≤ 511) (L : ∀ m1, Inv (c + 1) m1 → Wq l G true Y_Law 400 Q 1542 [(0, .inr (.inr 1000)), (1, .inr (.inr 0)), (2, .inr (.inr 70)), (3, .inl x3)] [] m1) : Wq l G true Y_Law 400 Q 1384 [(0, .inr (.inr 1000)), (1, .inr (.inr 0)), (2, .inr (.inr 70)), (3, .inl x3)] [] m := by
  obtain ⟨n, D, W, br, b, b', fs, lk, hd, hI⟩ := hI
  have B := hI.1.1
  have X := hI.1.2.1
  have hn5 := B.1
  obtain ⟨hE, hS, hAR, -, hBox⟩ := hI.2.2.2.1
  have hg := hS.1
  have hN := hS.2.1
  have hEn : ∀ i, In n i → m 25 i = m 90 i := fun i hi => hE i hi.1 (by have := hi.2; omega)
  refine s_Law_1384 x3 (fun _ _ => ⟨by unfold inR; omega, by omega, 5, _, by decide, c_fitsX (d := 0) B X hI.2.2.2.2.2.1.1, fun z m1 h1 _ _ => ?_⟩)
  obtain ⟨f1, E1, n1, r1⟩ := h1
  have I1 := hI.sgf f1
  have f3 := f1.1
  have e103 : m1 103 = m 103 := f3.1 103 (by decide) (by decide)
  have e104 : m1 104 = m 104 := f3.1 104 (by decide) (by decide)
  have e105 : m1 105 = m 105 := f3.1 105 (by decide) (by decide)
  have e106 : m1 106 = m 106 := f3.1 106 (by decide) (by decide)
  have e107 : m1 107 = m 107 := f3.1 107 (by decide) (by decide)
  have e70 : m1 70 = m 70 := f3.1 70 (by decide) (by decide)
  refine ⟨by unfold inR; omega, by omega, 4, _, by decide, c_fitsM (d := 0) I1.1.1 I1.1.2.2.1 I1.2.2.2.2.2.1.2.1, fun z2 m2 h2 _ _ => ?_⟩
  obtain ⟨f2, n2, r2⟩ := h2
  have I2 := I1.fm f2 (by decide) (by decide)
  rw [e103, e104, e105, e106, e107, e70, ← hI.2.2.2.2.2.1.2.2.1] at r2
  obtain ⟨sc, sw⟩ := hI.2.2.2.2.2.1.1.2.2.2
  have sq := hI.2.2.2.2.2.1.2.2.2.2
  refine ⟨fun _ => L _ I2, fun q => q ?_⟩
  have ke : ∀ v, In 31 v → (1 ≤ n) → ftk E1 (m 56) (m 57) (m 58) (m 59) (m 60) (g_x G ((x3 + 1)).toNat) v (m 55 10).toNat = ftk (fun v p => m2 102 (5 * v + p)) (m 103) (m 104) (m 105) (m 106) (m 107) (g_x G ((x3 + 1)).toNat) v (m 55 10).toNat := fun v hv hc => ftk_congr (fun i hi => by
    have hi2 : 0 ≤ i ∧ i < m 55 10 := ⟨hi.1, by have := hi.2; omega⟩
    obtain ⟨s1, s2, s3, s4, s5⟩ := sq i hi2.1 hi2.2
    exact ⟨s1, s2, s3, s4, s5, EnR.uniq (fun _ _ => rfl) (n1 hc) (n2 hc) ⟨hv.1, by have := hv.2; omega⟩ (sw i hi2.1 hi2.2).1⟩)
  rw [r1, r2]
  unfold fiV
  by_cases c : n = 0
  · rw [if_pos c, if_pos c]
  · rw [if_neg c, if_neg c]
    exact cntF_congr (fun v hv => ke v hv (by omega))
theorem l_sure {x3 c : Int} (hx : 0 ≤ x3 ∧ x3 + 6 ≤ (g_L G : Int)) (hL : g_L G ≤ 3072) (hI : Inv c m) (hc : 0 ≤ c ∧ c ≤ 511) (L : ∀ m1, Inv (c + 1) m1 → Wq l G true Y_Law 400 Q 1542 [(0, .inr (.inr 1000)), (1, .inr (.inr 0)), (2, .inr (.inr 70)), (3, .inl x3)] [] m1) : Wq l G true Y_Law 400 Q 1407 [(0, .inr (.inr 1000)), (1, .inr (.inr 0)), (2, .inr (.inr 70)), (3, .inl x3)] [] m := by
  obtain ⟨n, D, W, br, b, b', fs, lk, hd, hI⟩ := hI
  have B := hI.1.1
  have X := hI.1.2.1
  have hn5 := B.1
  obtain ⟨hE, hS, hAR, -, hBox⟩ := hI.2.2.2.1
  have hg := hS.1
  have hN := hS.2.1
  have hEn : ∀ i, In n i → m 25 i = m 90 i := fun i hi => hE i hi.1 (by have := hi.2; omega)
  refine s_Law_1407 x3 (fun _ _ => ⟨by unfold inR; omega, by omega, by unfold inR; omega, by omega, 5, _, by decide, c_sureX (d := 0) B X hI.2.2.2.2.2.1.1, fun z m1 h1 _ _ => ?_⟩)
  obtain ⟨f1, E1, n1, r1⟩ := h1
  have I1 := hI.sgf f1
  have f3 := f1.1
  have e103 : m1 103 = m 103 := f3.1 103 (by decide) (by decide)
  have e104 : m1 104 = m 104 := f3.1 104 (by decide) (by decide)
  have e105 : m1 105 = m 105 := f3.1 105 (by decide) (by decide)
  have e106 : m1 106 = m 106 := f3.1 106 (by decide) (by decide)
  have e107 : m1 107 = m 107 := f3.1 107 (by decide) (by decide)
  have e70 : m1 70 = m 70 := f3.1 70 (by decide) (by decide)
  refine ⟨by unfold inR; omega, by omega, by unfold inR; omega, by omega, 5, _, by decide, c_sureM (d := 0) I1.1.1 I1.1.2.2.1 I1.2.2.2.2.2.1.2.1, fun z2 m2 h2 _ _ => ?_⟩
  obtain ⟨f2, E2, n2, r2⟩ := h2
  have I2 := I1.fm f2 (by decide) (by decide)
  rw [e103, e104, e105, e106, e107, e70, ← hI.2.2.2.2.2.1.2.2.1] at r2
  obtain ⟨sc, sw⟩ := hI.2.2.2.2.2.1.1.2.2.2
  have sq := hI.2.2.2.2.2.1.2.2.2.2
  refine ⟨fun _ => L _ I2, fun q => q ?_⟩
  have ke : ∀ v, In 31 v → ((0 ≤ (g_x G ((x3 + 1)).toNat) ∧ (g_x G ((x3 + 1)).toNat) ≤ 1) ∧ n ≠ 0) → ftk E1 (m 56) (m 57) (m 58) (m 59) (m 60) (g_x G ((x3 + 2)).toNat) v (m 55 10).toNat = ftk E2 (m 103) (m 104) (m 105) (m 106) (m 107) (g_x G ((x3 + 2)).toNat) v (m 55 10).toNat := fun v hv hc => ftk_congr (fun i hi => by
    have hi2 : 0 ≤ i ∧ i < m 55 10 := ⟨hi.1, by have := hi.2; omega⟩
    obtain ⟨s1, s2, s3, s4, s5⟩ := sq i hi2.1 hi2.2
    exact ⟨s1, s2, s3, s4, s5, EnR.uniq (fun _ _ => rfl) (n1 hc) (n2 hc) ⟨hv.1, by have := hv.2; omega⟩ (sw i hi2.1 hi2.2).1⟩)
  by_cases c : (0 ≤ (g_x G ((x3 + 1)).toNat) ∧ (g_x G ((x3 + 1)).toNat) ≤ 1) ∧ n ≠ 0
  · exact suR.uniq (fun v hv => ke v hv c) r1 r2
  · rw [r1.2 (fun q => c ⟨q.1, q.2.1⟩), r2.2 (fun q => c ⟨q.1, q.2.1⟩)]
theorem l_ask {x3 c : Int} (hx : 0 ≤ x3 ∧ x3 + 6 ≤ (g_L G : Int)) (hL : g_L G ≤ 3072) (hI : Inv c m) (hc : 0 ≤ c ∧ c ≤ 511) (L : ∀ m1, Inv (c + 1) m1 → Wq l G true Y_Law 400 Q 1542 [(0, .inr (.inr 1000)), (1, .inr (.inr 0)), (2, .inr (.inr 70)), (3, .inl x3)] [] m1) : Wq l G true Y_Law 400 Q 1440 [(0, .inr (.inr 1000)), (1, .inr (.inr 0)), (2, .inr (.inr 70)), (3, .inl x3)] [] m := by
  obtain ⟨n, D, W, br, b, b', fs, lk, hd, hI⟩ := hI
  have B := hI.1.1
  have X := hI.1.2.1
  have hn5 := B.1
  obtain ⟨hE, hS, hAR, -, hBox⟩ := hI.2.2.2.1
  have hg := hS.1
  have hN := hS.2.1
  have hEn : ∀ i, In n i → m 25 i = m 90 i := fun i hi => hE i hi.1 (by have := hi.2; omega)
  refine s_Law_1440 x3 (fun _ _ => ⟨by unfold inR; omega, by omega, by unfold inR; omega, by omega, 5, _, by decide, c_askX (d := 0) B X hI.2.2.2.2.2.1.1, fun z m1 h1 _ _ => ?_⟩)
  obtain ⟨f1, E1, n1, r1⟩ := h1
  have I1 := hI.sgf f1
  have f3 := f1.1
  have e103 : m1 103 = m 103 := f3.1 103 (by decide) (by decide)
  have e104 : m1 104 = m 104 := f3.1 104 (by decide) (by decide)
  have e105 : m1 105 = m 105 := f3.1 105 (by decide) (by decide)
  have e106 : m1 106 = m 106 := f3.1 106 (by decide) (by decide)
  have e107 : m1 107 = m 107 := f3.1 107 (by decide) (by decide)
  have e70 : m1 70 = m 70 := f3.1 70 (by decide) (by decide)
  refine ⟨by unfold inR; omega, by omega, by unfold inR; omega, by omega, 5, _, by decide, c_askM (d := 0) I1.1.1 I1.1.2.2.1 I1.2.2.2.2.2.1.2.1, fun z2 m2 h2 _ _ => ?_⟩
  obtain ⟨f2, E2, n2, r2⟩ := h2
  have I2 := I1.fm f2 (by decide) (by decide)
  rw [e103, e104, e105, e106, e107, e70, ← hI.2.2.2.2.2.1.2.2.1] at r2
  obtain ⟨sc, sw⟩ := hI.2.2.2.2.2.1.1.2.2.2
  have sq := hI.2.2.2.2.2.1.2.2.2.2
  refine ⟨fun _ => L _ I2, fun q => q ?_⟩
  have ke : ∀ v, In 31 v → ((0 ≤ (g_x G ((x3 + 1)).toNat) ∧ (g_x G ((x3 + 1)).toNat) ≤ 1) ∧ n ≠ 0) → ftk E1 (m 56) (m 57) (m 58) (m 59) (m 60) (g_x G ((x3 + 2)).toNat) v (m 55 10).toNat = ftk E2 (m 103) (m 104) (m 105) (m 106) (m 107) (g_x G ((x3 + 2)).toNat) v (m 55 10).toNat := fun v hv hc => ftk_congr (fun i hi => by
    have hi2 : 0 ≤ i ∧ i < m 55 10 := ⟨hi.1, by have := hi.2; omega⟩
    obtain ⟨s1, s2, s3, s4, s5⟩ := sq i hi2.1 hi2.2
    exact ⟨s1, s2, s3, s4, s5, EnR.uniq (fun _ _ => rfl) (n1 hc) (n2 hc) ⟨hv.1, by have := hv.2; omega⟩ (sw i hi2.1 hi2.2).1⟩)
  by_cases c : (0 ≤ (g_x G ((x3 + 1)).toNat) ∧ (g_x G ((x3 + 1)).toNat) ≤ 1) ∧ n ≠ 0
  · rw [r1, r2]
    exact asV_congr (fun v hv => ke v hv c) (fun v p hv hp => EnR.uniq (fun _ _ => rfl) (n1 c) (n2 c) ⟨hv.1, by have := hv.2; omega⟩ hp)
  · rw [r1, r2]
    unfold asV
    rw [if_neg (fun q => c ⟨q.1, q.2.1⟩), if_neg (fun q => c ⟨q.1, q.2.1⟩)]
end Law3
