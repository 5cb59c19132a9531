/-! what holds between two calls -/
def StO (n : Nat) (c : Int) (s : Int → Int) : Prop := (∀ i, In n i → 0 ≤ s i) ∧ sm n s ≤ 495 + 20 * c ∧ (0 ≤ s 5 ∧ s 5 ≤ 11000 * c) ∧ (0 ≤ s 6 ∧ s 6 ≤ 999) ∧ (0 ≤ s 7 ∧ s 7 ≤ 999) ∧ ∀ i, ¬ In n i → 0 ≤ i → i < 5 → s i = 0
/-- the boards of both -/
def IvA (n : Nat) (D : Int → Int) (W : Int → Int → Int) (br : Int → Int) (b b' : Nat) (m : MM) : Prop := BW n D W br ∧ CX n D W br b m ∧ BM n D W br m ∧ (m 0 6 = b' ∧ isB b' ∧ b' ≠ b) ∧ ∀ i, In n i → FaR n D W i (m (b + 5) i)
/-- formula, luck, chutes, units -/
def IvB (b : Nat) (fs : List Int) (lk : Int) (m : MM) : Prop := CF fs (b + 6) m ∧ fOk fs ∧ MT fs m ∧ (m b 2 = lk ∧ m 76 (m 70 28) = lk ∧ 0 ≤ lk ∧ lk ≤ 100) ∧ (m b 1 = m 74 (m 70 28) ∧ m b 4 = m 75 (m 70 28) ∧ (bt (m 78 (m 70 28)) 0 = 1 → m 82 (m 70 28) = 560 * m 70 28))
/-- fault and tape -/
def IvC (m : MM) : Prop := (m 0 3 = m 70 4 ∧ m 0 4 = m 70 5) ∧ (m 0 1 = m 70 2 ∧ 0 ≤ m 0 1 ∧ m 0 1 ≤ 1600) ∧ (∀ t, 0 ≤ t → t < m 0 1 → m 1 t = m 71 t % 256) ∧ KyX m
/-- the heap, the acts, the boxes -/
def IvD (n : Nat) (c : Int) (m : MM) : Prop := (∀ i, 0 ≤ i → i < 8 → m 25 i = m 90 i) ∧ StO n c (m 25) ∧ AR m ∧ (∀ j, 0 ≤ j → j ≤ m 28 2 → StO n c (fun i => m 29 (8 * j + i))) ∧ ∀ x, 0 ≤ x → x < 3 → (m 31 x ≠ 0 ↔ m 110 x ≠ 0) ∧ (m 31 x ≠ 0 → (∀ i, 0 ≤ i → i < 8 → m 30 (8 * x + i) = m 109 (8 * x + i)) ∧ StO n c (fun i => m 30 (8 * x + i)))
/-- what lies -/
def IvE (m : MM) : Prop := (m 67 1 = m 70 48 ∧ 0 ≤ m 67 1 ∧ m 67 1 ≤ 60) ∧ ∀ i, 0 ≤ i → i < m 67 1 → m 68 i = m 97 i
/-- sights -/
def IvF (n : Nat) (D : Int → Int) (W : Int → Int → Int) (br hd : Int → Int) (b : Nat) (m : MM) : Prop := SgX n D W br hd b m ∧ SgM n hd m ∧ m 55 10 = m 70 60 ∧ (m 55 11 = m 70 61 ∧ 0 ≤ m 55 11 ∧ m 55 11 ≤ 100000) ∧ ∀ i, 0 ≤ i → i < m 55 10 → m 56 i = m 103 i ∧ m 57 i = m 104 i ∧ m 58 i = m 105 i ∧ m 59 i = m 106 i ∧ m 60 i = m 107 i
/-- what is worked out once -/
def IvG (n : Nat) (D : Int → Int) (W : Int → Int → Int) (br : Int → Int) (m : MM) : Prop := GL n W br m ∧ PtR n W br m ∧ FlR n W br (m 40) ∧ LvC n D W br m ∧ GM n W br m
def Ivp (n : Nat) (D : Int → Int) (W : Int → Int → Int) (br : Int → Int) (b b' : Nat) (fs : List Int) (lk : Int) (hd : Int → Int) (c : Int) (m : MM) : Prop := IvA n D W br b b' m ∧ IvB b fs lk m ∧ IvC m ∧ IvD n c m ∧ IvE m ∧ IvF n D W br hd b m ∧ IvG n D W br m
def Inv (c : Int) (m : MM) : Prop := ∃ (n : Nat) (D : Int → Int) (W : Int → Int → Int) (br : Int → Int) (b b' : Nat) (fs : List Int) (lk : Int) (hd : Int → Int), Ivp n D W br b b' fs lk hd c m
section Keep2
variable {m m' : MM} {n : Nat} {D : Int → Int} {W : Int → Int → Int} {br hd : Int → Int} {b b' : Nat} {fs : List Int} {lk c c' : Int}
theorem IvA.fr (h : IvA n D W br b b' m) (e : ∀ a, a = 0 ∨ (7 ≤ a ∧ a ≤ 24 ∧ a ≠ 15 ∧ a ≠ 24) ∨ a = 73 ∨ a = 80 ∨ a = 81 ∨ a = 92 → m' a = m a) (e28 : m' 70 28 = m 70 28) : IvA n D W br b b' m' := by
  obtain ⟨h1, h2, h3, h4, h5⟩ := h
  have hb : b = 7 ∨ b = 16 := h2.1
  unfold IvA CX BX BM
  rw [e 0 (by omega), e b (by omega), e (b + 3) (by omega), e (b + 4) (by omega), e (b + 2) (by omega), e (b + 5) (by omega), e 73 (by omega), e 80 (by omega), e 81 (by omega), e 92 (by omega), e28]
  exact ⟨h1, h2, h3, h4, h5⟩
theorem IvB.fr (h : IvB b fs lk m) (hb : isB b) (e : ∀ a, (7 ≤ a ∧ a ≤ 24 ∧ a ≠ 15 ∧ a ≠ 24) ∨ (74 ≤ a ∧ a ≤ 78) ∨ a = 82 ∨ a = 83 ∨ a = 85 ∨ a = 86 → m' a = m a) (e28 : m' 70 28 = m 70 28) : IvB b fs lk m' := by
  have hb : b = 7 ∨ b = 16 := hb
  unfold IvB CF MT MF
  rw [e b (by omega), e (b + 6) (by omega), e (b + 6 + 1) (by omega), e 74 (by omega), e 75 (by omega), e 76 (by omega), e 78 (by omega), e 82 (by omega), e 83 (by omega), e 85 (by omega), e 86 (by omega), e28]
  exact h
theorem IvC.fr (h : IvC m) (e : ∀ a, a = 0 ∨ a = 1 ∨ a = 4 ∨ a = 71 → m' a = m a) (e70 : ∀ i : Int, i = 2 ∨ i = 4 ∨ i = 5 → m' 70 i = m 70 i) : IvC m' := by
  unfold IvC KyX
  rw [e 0 (by omega), e 1 (by omega), e 4 (by omega), e 71 (by omega), e70 2 (by omega), e70 4 (by omega), e70 5 (by omega)]
  exact h
theorem IvD.fr (h : IvD n c m) (e : ∀ a, a = 25 ∨ a = 28 ∨ a = 29 ∨ a = 30 ∨ a = 31 ∨ a = 90 ∨ a = 96 ∨ a = 109 ∨ a = 110 → m' a = m a) (e70 : ∀ i : Int, i = 45 ∨ i = 46 → m' 70 i = m 70 i) : IvD n c m' := by
  unfold IvD AR
  rw [e 25 (by omega), e 28 (by omega), e 29 (by omega), e 30 (by omega), e 31 (by omega), e 90 (by omega), e 96 (by omega), e 109 (by omega), e 110 (by omega), e70 45 (by omega), e70 46 (by omega)]
  exact h
theorem IvE.fr (h : IvE m) (e : ∀ a, a = 67 ∨ a = 68 ∨ a = 97 → m' a = m a) (e70 : m' 70 48 = m 70 48) : IvE m' := by
  unfold IvE
  rw [e 67 (by omega), e 68 (by omega), e 97 (by omega), e70]
  exact h
theorem IvF.fr (h : IvF n D W br hd b m) (hb : isB b) (e : ∀ a, (7 ≤ a ∧ a ≤ 24 ∧ a ≠ 15 ∧ a ≠ 24) ∨ a = 55 ∨ (56 ≤ a ∧ a ≤ 61) ∨ a = 79 ∨ (103 ≤ a ∧ a ≤ 107) → m' a = m a) (e70 : ∀ i : Int, i = 28 ∨ i = 60 ∨ i = 61 → m' 70 i = m 70 i) : IvF n D W br hd b m' := by
  have hb : b = 7 ∨ b = 16 := hb
  unfold IvF SgX SgM
  rw [e (b + 1) (by omega), e 55 (by omega), e 56 (by omega), e 57 (by omega), e 58 (by omega), e 59 (by omega), e 60 (by omega), e 61 (by omega), e 79 (by omega), e 103 (by omega), e 104 (by omega), e 105 (by omega), e 106 (by omega), e 107 (by omega), e70 28 (by omega), e70 60 (by omega), e70 61 (by omega)]
  exact h
theorem IvG.fr (h : IvG n D W br m) (e : ∀ a, a = 38 ∨ a = 39 ∨ a = 40 ∨ a = 44 ∨ a = 45 ∨ a = 46 ∨ a = 95 → m' a = m a) (e70 : m' 70 42 = m 70 42) : IvG n D W br m' := by
  unfold IvG GL PtR LvC GM
  rw [e 38 (by omega), e 39 (by omega), e 40 (by omega), e 44 (by omega), e 45 (by omega), e 46 (by omega), e 95 (by omega), e70]
  exact h
/-- the cells that a call may use as it likes -/
def SCR : List Nat := [15, 24, 26, 27, 32, 33, 34, 35, 36, 37, 41, 42, 43, 54, 62, 63, 64, 65, 66, 69, 89, 91, 93, 94, 98, 99, 100, 101, 102, 108]
theorem scr_no {a : Nat} (h : a < 15 ∨ (16 ≤ a ∧ a ≤ 23) ∨ a = 25 ∨ (28 ≤ a ∧ a ≤ 31) ∨ (38 ≤ a ∧ a ≤ 40) ∨ (44 ≤ a ∧ a ≤ 53) ∨ (55 ≤ a ∧ a ≤ 61) ∨ a = 67 ∨ a = 68 ∨ (70 ≤ a ∧ a ≤ 88) ∨ a = 90 ∨ a = 92 ∨ (95 ≤ a ∧ a ≤ 97) ∨ (103 ≤ a ∧ a ≤ 107) ∨ a = 109 ∨ a = 110) : a ∉ SCR := by
  unfold SCR
  simp only [List.mem_cons, List.not_mem_nil, or_false]
  omega
theorem StO.mono {s : Int → Int} (h : StO n c s) (hc : c ≤ c') : StO n c' s := ⟨h.1, by have := h.2.1; omega, ⟨h.2.2.1.1, by have := h.2.2.1.2; omega⟩, h.2.2.2⟩
theorem IvD.mono (h : IvD n c m) (hc : c ≤ c') : IvD n c' m := ⟨h.1, h.2.1.mono hc, h.2.2.1, fun j j0 j1 => (h.2.2.2.1 j j0 j1).mono hc, fun x x0 x1 => ⟨(h.2.2.2.2 x x0 x1).1, fun q => ⟨((h.2.2.2.2 x x0 x1).2 q).1, (((h.2.2.2.2 x x0 x1).2 q).2).mono hc⟩⟩⟩
/-- nothing that matters has changed -/
theorem Ivp.scr (h : Ivp n D W br b b' fs lk hd c m) (e : ∀ a, a ∉ SCR → a ≠ 70 → m' a = m a) (e70 : ∀ i : Int, i ≠ 34 → i ≠ 41 → i ≠ 43 → m' 70 i = m 70 i) (hc : c ≤ c') : Ivp n D W br b b' fs lk hd c' m' := by
  obtain ⟨hA, hB, hC, hD, hE, hF, hG⟩ := h
  have hb := hA.2.1.1
  exact ⟨hA.fr (fun a ha => e a (scr_no (by omega)) (by omega)) (e70 28 (by decide) (by decide) (by decide)), hB.fr hb (fun a ha => e a (scr_no (by omega)) (by omega)) (e70 28 (by decide) (by decide) (by decide)), hC.fr (fun a ha => e a (scr_no (by omega)) (by omega)) (fun i hi => e70 i (by omega) (by omega) (by omega)), (hD.fr (fun a ha => e a (scr_no (by omega)) (by omega)) (fun i hi => e70 i (by omega) (by omega) (by omega))).mono hc, hE.fr (fun a ha => e a (scr_no (by omega)) (by omega)) (e70 48 (by decide) (by decide) (by decide)), hF.fr hb (fun a ha => e a (scr_no (by omega)) (by omega)) (fun i hi => e70 i (by omega) (by omega) (by omega)), hG.fr (fun a ha => e a (scr_no (by omega)) (by omega)) (e70 42 (by decide) (by decide) (by decide))⟩
theorem Ivp.fx {S : List Nat} (h : Ivp n D W br b b' fs lk hd c m) (f : Fr S m m') (hS : ∀ a ∈ S, a ∈ SCR) (h7 : 70 ∉ S) : Ivp n D W br b b' fs lk hd c m' := h.scr (fun a ha _ => f a (fun q => ha (hS a q))) (fun i _ _ _ => by rw [f 70 h7]) (Int.le_refl c)
theorem Ivp.fm {S : List Nat} {I : List Int} (h : Ivp n D W br b b' fs lk hd c m) (f : Fro 70 S I m m') (hS : ∀ a ∈ S, a ∈ SCR) (hI : ∀ i ∈ I, i = 34 ∨ i = 41 ∨ i = 43) : Inv (c + 1) m' := ⟨n, D, W, br, b, b', fs, lk, hd, h.scr (fun a ha h7 => f.1 a (fun q => ha (hS a q)) h7) (fun i c1 c2 c3 => f.2 i (fun q => by have := hI i q; omega)) (by omega)⟩
theorem Ivp.up1 (h : Ivp n D W br b b' fs lk hd c m) : Inv (c + 1) m := h.fm (S := []) (I := []) Fro.rf (by simp) (by simp)
end Keep2
