/-! what a table says, line by line. State Z: 0 place, 1 plates, 2 chutes, 3 luck, 4 draw, 5 6 7 told, 8 units, 10.. names, 20.. holds, 30.. to the drain, 40.. widths -/
theorem ud_at {σ : Int → Int} {k v : Int} : ud σ k v k = v := if_pos rfl
theorem ud_ne {σ : Int → Int} {k v j : Int} (h : j ≠ k) : ud σ k v j = σ j := if_neg h
abbrev Rz := (Int × Int) ⊕ ((Int → Int) × List Int)
section Lines
variable (T : Int → Int) (N : Int)
def semR (q : Int) (Z : Int → Int) (cs : List Int) (R : Rz) : Prop := (kd T N q = 59 ∧ R = .inr (ud Z 0 (en T N q), cs)) ∨ (kd T N q ≠ 59 ∧ R = .inl (bdF T N q))
def numR (x y q : Int) (R : Rz) (K : Int → Int → Prop) : Prop := (kd T N q ≠ 3 ∧ R = .inl (bdF T N q)) ∨ (kd T N q = 3 ∧ ¬ (x ≤ vl T N q ∧ vl T N q ≤ y) ∧ R = .inl (4, plc T N q)) ∨ (kd T N q = 3 ∧ (x ≤ vl T N q ∧ vl T N q ≤ y) ∧ K (vl T N q) (en T N q))
def optR (w x y v q : Int) (R : Rz) (K : Int → Int → Prop) : Prop := (kd T N q = w ∧ numR T N x y (en T N q) R K) ∨ (kd T N q ≠ w ∧ K v q)
def knR (Z : Int → Int) (q : Int) (R : Rz) (K : Int → Prop) : Prop := (kd T N q ≠ 2 ∧ R = .inl (bdF T N q)) ∨ (kd T N q = 2 ∧ (∀ i, 0 ≤ i → i < Z 1 → Z (10 + i) ≠ vl T N q) ∧ R = .inl (5, plc T N q)) ∨ (kd T N q = 2 ∧ ∃ i, 0 ≤ i ∧ i < Z 1 ∧ Z (10 + i) = vl T N q ∧ K i)
def plR (Z : Int → Int) (cs : List Int) (q : Int) (R : Rz) : Prop :=
  (kd T N q ≠ 2 ∧ R = .inl (bdF T N q)) ∨ (kd T N q = 2 ∧ (∃ i, 0 ≤ i ∧ i < Z 1 ∧ Z (10 + i) = vl T N q) ∧ R = .inl (3, plc T N q)) ∨
  (kd T N q = 2 ∧ (∀ i, 0 ≤ i → i < Z 1 → Z (10 + i) ≠ vl T N q) ∧ optR T N 101 0 99 0 (en T N q) R (fun h q2 => semR T N q2 (ud (ud (ud Z (10 + Z 1) (vl T N q)) (20 + Z 1) h) 1 (Z 1 + 1)) cs R))
def chR (Z : Int → Int) (cs : List Int) (q : Int) (R : Rz) : Prop :=
  knR T N Z q R (fun i => knR T N Z (en T N q) R (fun j => ((i = j ∨ 0 < Z (40 + 5 * i + j)) ∧ R = .inl (3, plc T N (en T N q))) ∨ (¬ (i = j ∨ 0 < Z (40 + 5 * i + j)) ∧ optR T N 103 1 2 1 (en T N (en T N q)) R (fun v q3 => semR T N q3 (ud (ud (ud Z (40 + 5 * i + j) v) (40 + 5 * j + i) v) 2 (Z 2 + 1)) cs R))))
def drR (Z : Int → Int) (cs : List Int) (q : Int) (R : Rz) : Prop :=
  knR T N Z q R (fun i => (0 < Z (30 + i) ∧ R = .inl (3, plc T N q)) ∨ (¬ 0 < Z (30 + i) ∧ optR T N 103 1 2 1 (en T N q) R (fun v q3 => semR T N q3 (ud (ud Z (30 + i) v) 2 (Z 2 + 1)) cs R)))
def ruR (Z : Int → Int) (q : Int) (R : Rz) : Prop :=
  ∃ Rf, Eo T N true [(8, 0)] q 0 [] Rf ∧ (∀ f, Rf = .inl f → R = .inl f) ∧ ∀ p' u' cs', Rf = .inr (p', u', cs') → (0 ≤ p' ∧ p' ≤ N ∧ q ≤ p') ∧ (0 ≤ u' ∧ u' ≤ 30) ∧ fW cs' 0 1 ∧ semR T N p' (ud (ud Z 5 1) 8 u') cs' R
def LnR (Z : Int → Int) (cs : List Int) (R : Rz) : Prop :=
  (kd T N (Z 0) = 100 ∧ ¬ Z 1 < 5 ∧ R = .inl (2, plc T N (Z 0))) ∨ (kd T N (Z 0) = 100 ∧ Z 1 < 5 ∧ plR T N Z cs (en T N (Z 0)) R) ∨
  (kd T N (Z 0) = 102 ∧ chR T N Z cs (en T N (Z 0)) R) ∨ (kd T N (Z 0) = 104 ∧ drR T N Z cs (en T N (Z 0)) R) ∨
  (kd T N (Z 0) = 105 ∧ Z 5 ≠ 0 ∧ R = .inl (2, plc T N (Z 0))) ∨ (kd T N (Z 0) = 105 ∧ Z 5 = 0 ∧ ruR T N Z (en T N (Z 0)) R) ∨
  (kd T N (Z 0) = 106 ∧ Z 6 ≠ 0 ∧ R = .inl (2, plc T N (Z 0))) ∨ (kd T N (Z 0) = 106 ∧ Z 6 = 0 ∧ numR T N 0 100 (en T N (Z 0)) R (fun v q => semR T N q (ud (ud Z 6 1) 3 v) cs R)) ∨
  (kd T N (Z 0) = 107 ∧ Z 7 ≠ 0 ∧ R = .inl (2, plc T N (Z 0))) ∨ (kd T N (Z 0) = 107 ∧ Z 7 = 0 ∧ numR T N 0 999 (en T N (Z 0)) R (fun v q => semR T N q (ud (ud Z 7 1) 4 v) cs R)) ∨
  (¬ (kd T N (Z 0) = 100 ∨ kd T N (Z 0) = 102 ∨ kd T N (Z 0) = 104 ∨ kd T N (Z 0) = 105 ∨ kd T N (Z 0) = 106 ∨ kd T N (Z 0) = 107) ∧ R = .inl (bdF T N (Z 0)))
/-- lines to the end or the first fault -/
def TbR : Nat → (Int → Int) → List Int → Rz → Prop
  | 0, _, _, _ => False
  | k + 1, Z, cs, R => (kd T N (Z 0) = 0 ∧ R = .inr (Z, cs)) ∨ (kd T N (Z 0) ≠ 0 ∧ ∃ R1, LnR T N Z cs R1 ∧ (∀ f, R1 = .inl f → R = .inl f) ∧ ∀ Z' cs', R1 = .inr (Z', cs') → TbR k Z' cs' R)
end Lines
/-- what holds of every state on the way -/
def ZC (Z : Int → Int) (cs : List Int) : Prop :=
  (0 ≤ Z 1 ∧ Z 1 ≤ 5) ∧ (0 ≤ Z 3 ∧ Z 3 ≤ 100) ∧ (0 ≤ Z 4 ∧ Z 4 ≤ 999) ∧ ((Z 5 = 0 ∨ Z 5 = 1) ∧ (Z 6 = 0 ∨ Z 6 = 1) ∧ (Z 7 = 0 ∨ Z 7 = 1)) ∧ (0 ≤ Z 8 ∧ Z 8 ≤ 30) ∧
  (∀ i, 0 ≤ i → i < Z 1 → NmV (Z (10 + i)) ∧ 0 ≤ Z (20 + i) ∧ Z (20 + i) ≤ 99) ∧ (∀ i j, 0 ≤ i → i < Z 1 → 0 ≤ j → j < Z 1 → Z (10 + i) = Z (10 + j) → i = j) ∧
  (∀ i, 0 ≤ i → i < 5 → 0 ≤ Z (30 + i) ∧ Z (30 + i) ≤ 2) ∧ (∀ i j, 0 ≤ i → i < 5 → 0 ≤ j → j < 5 → 0 ≤ Z (40 + 5 * i + j) ∧ Z (40 + 5 * i + j) ≤ 2 ∧ Z (40 + 5 * i + j) = Z (40 + 5 * j + i) ∧ Z (40 + 5 * i + i) = 0) ∧
  (Z 5 = 0 → Z 8 = 0 ∧ cs = []) ∧ (Z 5 ≠ 0 → fW cs 0 1)
def ZI (N : Int) (Z : Int → Int) (cs : List Int) : Prop := (0 ≤ Z 0 ∧ Z 0 ≤ N ∧ 0 ≤ Z 2 ∧ Z 2 ≤ Z 0) ∧ ZC Z cs
theorem ZC.congr {Z Z' : Int → Int} {cs : List Int} (h : ZC Z cs) (e : ∀ k, 1 ≤ k → k ≠ 2 → Z' k = Z k) : ZC Z' cs := by
  obtain ⟨h1, h3, h4, h5, h8, hn, hd, hD, hW, hc, hf⟩ := h
  unfold ZC
  rw [e 1 (by decide) (by decide), e 3 (by decide) (by decide), e 4 (by decide) (by decide), e 5 (by decide) (by decide), e 6 (by decide) (by decide), e 7 (by decide) (by decide), e 8 (by decide) (by decide)]
  refine ⟨h1, h3, h4, h5, h8, fun i i0 i1 => ?_, fun i j i0 i1 j0 j1 => ?_, fun i i0 i1 => ?_, fun i j i0 i1 j0 j1 => ?_, hc, hf⟩
  · rw [e (10 + i) (by omega) (by omega), e (20 + i) (by omega) (by omega)]; exact hn i i0 i1
  · rw [e (10 + i) (by omega) (by omega), e (10 + j) (by omega) (by omega)]; exact hd i j i0 i1 j0 j1
  · rw [e (30 + i) (by omega) (by omega)]; exact hD i i0 i1
  · rw [e (40 + 5 * i + j) (by omega) (by omega), e (40 + 5 * j + i) (by omega) (by omega), e (40 + 5 * i + i) (by omega) (by omega)]; exact hW i j i0 i1 j0 j1
theorem ZC.plate {Z : Int → Int} {cs : List Int} {v x : Int} (h : ZC Z cs) (h5' : Z 1 < 5) (hv : NmV v) (hx : 0 ≤ x ∧ x ≤ 99) (hno : ∀ i, 0 ≤ i → i < Z 1 → Z (10 + i) ≠ v) : ZC (ud (ud (ud Z (10 + Z 1) v) (20 + Z 1) x) 1 (Z 1 + 1)) cs := by
  obtain ⟨h1, h3, h4, h5, h8, hn, hd, hD, hW, hc, hf⟩ := h
  have e : ∀ k, k ≠ 1 → k ≠ 10 + Z 1 → k ≠ 20 + Z 1 → ud (ud (ud Z (10 + Z 1) v) (20 + Z 1) x) 1 (Z 1 + 1) k = Z k := fun k a b c => by rw [ud_ne a, ud_ne c, ud_ne b]
  have e1 : ud (ud (ud Z (10 + Z 1) v) (20 + Z 1) x) 1 (Z 1 + 1) 1 = Z 1 + 1 := ud_at
  have en' : ud (ud (ud Z (10 + Z 1) v) (20 + Z 1) x) 1 (Z 1 + 1) (10 + Z 1) = v := by rw [ud_ne (by omega), ud_ne (by omega), ud_at]
  have eh : ud (ud (ud Z (10 + Z 1) v) (20 + Z 1) x) 1 (Z 1 + 1) (20 + Z 1) = x := by rw [ud_ne (by omega), ud_at]
  generalize ud (ud (ud Z (10 + Z 1) v) (20 + Z 1) x) 1 (Z 1 + 1) = Y at e e1 en' eh
  unfold ZC
  rw [e1, e 3 (by omega) (by omega) (by omega), e 4 (by omega) (by omega) (by omega), e 5 (by omega) (by omega) (by omega), e 6 (by omega) (by omega) (by omega), e 7 (by omega) (by omega) (by omega), e 8 (by omega) (by omega) (by omega)]
  refine ⟨by omega, h3, h4, h5, h8, fun i i0 i1 => ?_, fun i j i0 i1 j0 j1 => ?_, fun i i0 i1 => ?_, fun i j i0 i1 j0 j1 => ?_, hc, hf⟩
  · by_cases q : i = Z 1
    · rw [q, en', eh]; exact ⟨hv, hx⟩
    · rw [e (10 + i) (by omega) (by omega) (by omega), e (20 + i) (by omega) (by omega) (by omega)]; exact hn i i0 (by omega)
  · by_cases q : i = Z 1
    · by_cases g : j = Z 1
      · intro _; omega
      · rw [q, en', e (10 + j) (by omega) (by omega) (by omega)]
        intro r
        exact absurd r.symm (hno j j0 (by omega))
    · by_cases g : j = Z 1
      · rw [g, en', e (10 + i) (by omega) (by omega) (by omega)]
        intro r
        exact absurd r (hno i i0 (by omega))
      · rw [e (10 + i) (by omega) (by omega) (by omega), e (10 + j) (by omega) (by omega) (by omega)]
        exact hd i j i0 (by omega) j0 (by omega)
  · rw [e (30 + i) (by omega) (by omega) (by omega)]; exact hD i i0 i1
  · rw [e (40 + 5 * i + j) (by omega) (by omega) (by omega), e (40 + 5 * j + i) (by omega) (by omega) (by omega), e (40 + 5 * i + i) (by omega) (by omega) (by omega)]; exact hW i j i0 i1 j0 j1
theorem ZC.chute {Z : Int → Int} {cs : List Int} {a b v : Int} (h : ZC Z cs) (ha : 0 ≤ a ∧ a < 5) (hb : 0 ≤ b ∧ b < 5) (hab : a ≠ b) (hv : 0 ≤ v ∧ v ≤ 2) : ZC (ud (ud Z (40 + 5 * a + b) v) (40 + 5 * b + a) v) cs := by
  obtain ⟨h1, h3, h4, h5, h8, hn, hd, hD, hW, hc, hf⟩ := h
  have e : ∀ k, k ≠ 40 + 5 * a + b → k ≠ 40 + 5 * b + a → ud (ud Z (40 + 5 * a + b) v) (40 + 5 * b + a) v k = Z k := fun k x y => by rw [ud_ne y, ud_ne x]
  have e1 : ud (ud Z (40 + 5 * a + b) v) (40 + 5 * b + a) v (40 + 5 * b + a) = v := ud_at
  have e2 : ud (ud Z (40 + 5 * a + b) v) (40 + 5 * b + a) v (40 + 5 * a + b) = v := by rw [ud_ne (by omega), ud_at]
  generalize ud (ud Z (40 + 5 * a + b) v) (40 + 5 * b + a) v = Y at e e1 e2
  unfold ZC
  rw [e 1 (by omega) (by omega), e 3 (by omega) (by omega), e 4 (by omega) (by omega), e 5 (by omega) (by omega), e 6 (by omega) (by omega), e 7 (by omega) (by omega), e 8 (by omega) (by omega)]
  refine ⟨h1, h3, h4, h5, h8, fun i i0 i1 => ?_, fun i j i0 i1 j0 j1 => ?_, fun i i0 i1 => ?_, fun i j i0 i1 j0 j1 => ?_, hc, hf⟩
  · rw [e (10 + i) (by omega) (by omega), e (20 + i) (by omega) (by omega)]; exact hn i i0 i1
  · rw [e (10 + i) (by omega) (by omega), e (10 + j) (by omega) (by omega)]; exact hd i j i0 i1 j0 j1
  · rw [e (30 + i) (by omega) (by omega)]; exact hD i i0 i1
  · rw [e (40 + 5 * i + i) (by omega) (by omega)]
    have h0 := hW i j i0 i1 j0 j1
    by_cases q : 40 + 5 * i + j = 40 + 5 * a + b
    · have q2 : 40 + 5 * j + i = 40 + 5 * b + a := by omega
      rw [q, q2, e1, e2]; exact ⟨hv.1, hv.2, rfl, h0.2.2.2⟩
    · by_cases g : 40 + 5 * i + j = 40 + 5 * b + a
      · have g2 : 40 + 5 * j + i = 40 + 5 * a + b := by omega
        rw [g, g2, e1, e2]; exact ⟨hv.1, hv.2, rfl, h0.2.2.2⟩
      · rw [e (40 + 5 * i + j) q g, e (40 + 5 * j + i) (by omega) (by omega)]; exact h0
theorem ZC.drain {Z : Int → Int} {cs : List Int} {a v : Int} (h : ZC Z cs) (ha : 0 ≤ a ∧ a < 5) (hv : 0 ≤ v ∧ v ≤ 2) : ZC (ud Z (30 + a) v) cs := by
  obtain ⟨h1, h3, h4, h5, h8, hn, hd, hD, hW, hc, hf⟩ := h
  have e : ∀ k, k ≠ 30 + a → ud Z (30 + a) v k = Z k := fun k x => ud_ne x
  have e1 : ud Z (30 + a) v (30 + a) = v := ud_at
  generalize ud Z (30 + a) v = Y at e e1
  unfold ZC
  rw [e 1 (by omega), e 3 (by omega), e 4 (by omega), e 5 (by omega), e 6 (by omega), e 7 (by omega), e 8 (by omega)]
  refine ⟨h1, h3, h4, h5, h8, fun i i0 i1 => ?_, fun i j i0 i1 j0 j1 => ?_, fun i i0 i1 => ?_, fun i j i0 i1 j0 j1 => ?_, hc, hf⟩
  · rw [e (10 + i) (by omega), e (20 + i) (by omega)]; exact hn i i0 i1
  · rw [e (10 + i) (by omega), e (10 + j) (by omega)]; exact hd i j i0 i1 j0 j1
  · by_cases q : i = a
    · rw [q, e1]; exact hv
    · rw [e (30 + i) (by omega)]; exact hD i i0 i1
  · rw [e (40 + 5 * i + j) (by omega), e (40 + 5 * j + i) (by omega), e (40 + 5 * i + i) (by omega)]; exact hW i j i0 i1 j0 j1
theorem ZC.small {Z Y : Int → Int} {cs : List Int} (h : ZC Z cs) (cs' : List Int) (e : ∀ k, k ≠ 3 → k ≠ 4 → k ≠ 5 → k ≠ 6 → k ≠ 7 → k ≠ 8 → Y k = Z k) (y3 : 0 ≤ Y 3 ∧ Y 3 ≤ 100) (y4 : 0 ≤ Y 4 ∧ Y 4 ≤ 999) (y5 : (Y 5 = 0 ∨ Y 5 = 1) ∧ (Y 6 = 0 ∨ Y 6 = 1) ∧ (Y 7 = 0 ∨ Y 7 = 1)) (y8 : 0 ≤ Y 8 ∧ Y 8 ≤ 30) (yc : Y 5 = 0 → Y 8 = 0 ∧ cs' = []) (yf : Y 5 ≠ 0 → fW cs' 0 1) : ZC Y cs' := by
  obtain ⟨h1, h3, h4, h5, h8, hn, hd, hD, hW, hc, hf⟩ := h
  have e1 : Y 1 = Z 1 := e 1 (by decide) (by decide) (by decide) (by decide) (by decide) (by decide)
  have e' : ∀ k, 9 ≤ k → Y k = Z k := fun k hk => e k (by omega) (by omega) (by omega) (by omega) (by omega) (by omega)
  refine ⟨by rw [e1]; exact h1, y3, y4, y5, y8, fun i i0 i1 => ?_, fun i j i0 i1 j0 j1 => ?_, fun i i0 i1 => ?_, fun i j i0 i1 j0 j1 => ?_, yc, yf⟩
  · rw [e' (10 + i) (by omega), e' (20 + i) (by omega)]; exact hn i i0 (by omega)
  · rw [e' (10 + i) (by omega), e' (10 + j) (by omega)]; exact hd i j i0 (by omega) j0 (by omega)
  · rw [e' (30 + i) (by omega)]; exact hD i i0 i1
  · rw [e' (40 + 5 * i + j) (by omega), e' (40 + 5 * j + i) (by omega), e' (40 + 5 * i + i) (by omega)]; exact hW i j i0 i1 j0 j1
section Keep
variable {T : Int → Int} {N : Int} {Z Z' : Int → Int} {cs cs' : List Int}
theorem semR.inr {q : Int} {Y : Int → Int} {c : List Int} (h : semR T N q Y c (.inr (Z', cs'))) : kd T N q = 59 ∧ Z' = ud Y 0 (en T N q) ∧ cs' = c := by
  rcases h with ⟨h1, h2⟩ | ⟨-, h2⟩
  · have := Sum.inr.inj h2
    exact ⟨h1, (Prod.mk.inj this).1, (Prod.mk.inj this).2⟩
  · cases h2
theorem numR.inr {x y q : Int} {K : Int → Int → Prop} (h : numR T N x y q (.inr (Z', cs')) K) : kd T N q = 3 ∧ (x ≤ vl T N q ∧ vl T N q ≤ y) ∧ K (vl T N q) (en T N q) := by
  rcases h with ⟨-, h⟩ | ⟨-, -, h⟩ | h
  · cases h
  · cases h
  · exact h
theorem optR.inr {w x y v q : Int} {K : Int → Int → Prop} (h : optR T N w x y v q (.inr (Z', cs')) K) (hv : x ≤ v ∧ v ≤ y) (hq : 0 ≤ q ∧ q ≤ N) (hw : w ≠ 0) : ∃ a b, (x ≤ a ∧ a ≤ y) ∧ (q ≤ b ∧ b ≤ N) ∧ K a b := by
  rcases h with ⟨h1, h2⟩ | ⟨-, h2⟩
  · have t := tk_rng (T := T) hq
    obtain ⟨g1, g2, g3⟩ := h2.inr
    have t2 := tk_rng (T := T) (N := N) (p := en T N q) ⟨by omega, t.2.2.1⟩
    exact ⟨_, _, g2, ⟨by omega, t2.2.2.1⟩, g3⟩
  · exact ⟨v, q, hv, ⟨Int.le_refl q, hq.2⟩, h2⟩
theorem knR.inr {q : Int} {K : Int → Prop} (h : knR T N Z q (.inr (Z', cs')) K) : kd T N q = 2 ∧ ∃ i, 0 ≤ i ∧ i < Z 1 ∧ Z (10 + i) = vl T N q ∧ K i := by
  rcases h with ⟨-, h⟩ | ⟨-, -, h⟩ | h
  · cases h
  · cases h
  · exact h
theorem sgn100 : ∀ c ∈ SGN, c < 100 := fun c h => by have := sgn_rng h; omega
/-- a line keeps it, and goes on -/
theorem ZI.step (h : ZI N Z cs) (g : LnR T N Z cs (.inr (Z', cs'))) : ZI N Z' cs' ∧ Z 0 < Z' 0 := by
  obtain ⟨⟨p0, pN, c0, cp⟩, hC⟩ := h
  have t1 := tk_rng (T := T) ⟨p0, pN⟩
  have hq : 0 ≤ en T N (Z 0) ∧ en T N (Z 0) ≤ N := ⟨by omega, t1.2.2.1⟩
  have t2 := tk_rng (T := T) hq
  have hq2 : 0 ≤ en T N (en T N (Z 0)) ∧ en T N (en T N (Z 0)) ≤ N := ⟨by omega, t2.2.2.1⟩
  have t3 := tk_rng (T := T) hq2
  have hq3 : 0 ≤ en T N (en T N (en T N (Z 0))) ∧ en T N (en T N (en T N (Z 0))) ≤ N := ⟨by omega, t3.2.2.1⟩
  -- the end of a line
  have fin : ∀ (b : Int) (Y : Int → Int) (c : List Int), Z 0 < b → b ≤ N → semR T N b Y c (.inr (Z', cs')) → ZC Y c → (0 ≤ Y 2 ∧ Y 2 ≤ Z 0 + 1) → ZI N Z' cs' ∧ Z 0 < Z' 0 := by
    intro b Y c hb hbN hs hY h2
    obtain ⟨g1, g2, g3⟩ := hs.inr
    have tb := tk_rng (T := T) (N := N) (p := b) ⟨by omega, hbN⟩
    have tb3 := tb.2.2.2.1 (by rw [g1]; decide)
    rw [g2, g3]
    refine ⟨⟨⟨?_, ?_, ?_, ?_⟩, hY.congr (fun k k1 _ => ud_ne (by omega))⟩, ?_⟩
    · rw [ud_at]; omega
    · rw [ud_at]; omega
    · rw [ud_ne (by decide)]; omega
    · rw [ud_ne (by decide), ud_at]; omega
    · rw [ud_at]; omega
  have nz : ∀ {x : Int}, kd T N (Z 0) = x → x ≠ 0 → Z 0 < en T N (Z 0) := fun e hx => t1.2.2.2.1 (by rw [e]; exact hx)
  rcases g with ⟨-, -, g⟩ | ⟨k1, k2, g⟩ | ⟨k1, g⟩ | ⟨k1, g⟩ | ⟨-, -, g⟩ | ⟨k1, k2, g⟩ | ⟨-, -, g⟩ | ⟨k1, k2, g⟩ | ⟨-, -, g⟩ | ⟨k1, k2, g⟩ | ⟨-, g⟩
  · cases g
  · have z1 := nz k1 (by decide)
    rcases g with ⟨-, g⟩ | ⟨-, -, g⟩ | ⟨g1, g2, g3⟩
    · cases g
    · cases g
    · obtain ⟨a, b, ha, hb, hs⟩ := g3.inr (by decide) hq2 (by decide)
      have h2 : (0 : Int) ≤ ud (ud (ud Z (10 + Z 1) (vl T N (en T N (Z 0)))) (20 + Z 1) a) 1 (Z 1 + 1) 2 ∧ ud (ud (ud Z (10 + Z 1) (vl T N (en T N (Z 0)))) (20 + Z 1) a) 1 (Z 1 + 1) 2 ≤ Z 0 + 1 := by
        have := hC.1
        rw [ud_ne (by decide), ud_ne (by omega), ud_ne (by omega)]; omega
      exact fin b _ _ (by omega) hb.2 hs (hC.plate k2 (vl_word hq (Or.inl g1) sgn100).1 ha g2) h2
  · have z1 := nz k1 (by decide)
    obtain ⟨g1, i, i0, i1, i2, g⟩ := knR.inr g
    obtain ⟨g2, j, j0, j1, j2, g⟩ := knR.inr g
    have h5 := hC.1
    rcases g with ⟨-, g⟩ | ⟨hn, g⟩
    · cases g
    · obtain ⟨a, b, ha, hb, hs⟩ := g.inr (by decide) hq3 (by decide)
      have h2 : (0 : Int) ≤ ud (ud (ud Z (40 + 5 * i + j) a) (40 + 5 * j + i) a) 2 (Z 2 + 1) 2 ∧ ud (ud (ud Z (40 + 5 * i + j) a) (40 + 5 * j + i) a) 2 (Z 2 + 1) 2 ≤ Z 0 + 1 := by rw [ud_at]; omega
      exact fin b _ _ (by omega) hb.2 hs ((hC.chute ⟨i0, by omega⟩ ⟨j0, by omega⟩ (fun q => hn (Or.inl q)) ⟨by omega, by omega⟩).congr (fun k _ k2 => ud_ne k2)) h2
  · have z1 := nz k1 (by decide)
    obtain ⟨g1, i, i0, i1, i2, g⟩ := knR.inr g
    have h5 := hC.1
    rcases g with ⟨-, g⟩ | ⟨hn, g⟩
    · cases g
    · obtain ⟨a, b, ha, hb, hs⟩ := g.inr (by decide) hq2 (by decide)
      have h2 : (0 : Int) ≤ ud (ud Z (30 + i) a) 2 (Z 2 + 1) 2 ∧ ud (ud Z (30 + i) a) 2 (Z 2 + 1) 2 ≤ Z 0 + 1 := by rw [ud_at]; omega
      exact fin b _ _ (by omega) hb.2 hs ((hC.drain ⟨i0, by omega⟩ ⟨by omega, by omega⟩).congr (fun k _ k2 => ud_ne k2)) h2
  · cases g
  · have z1 := nz k1 (by decide)
    obtain ⟨Rf, g1, g2, g3⟩ := g
    match Rf, g2, g3 with
    | .inl f, g2, _ => exact absurd (g2 f rfl) (fun q => by cases q)
    | .inr (p', u', c'), _, g3 =>
      obtain ⟨hp', hu', hf', hs⟩ := g3 p' u' c' rfl
      have hC0 := hC
      obtain ⟨x1, x3, x4, x5, x8, -⟩ := hC0
      have h2 : (0 : Int) ≤ ud (ud Z 5 1) 8 u' 2 ∧ ud (ud Z 5 1) 8 u' 2 ≤ Z 0 + 1 := by rw [ud_ne (by decide), ud_ne (by decide)]; omega
      refine fin p' _ _ (by omega) hp'.2.1 hs (hC.small c' (fun k a3 a4 a5 a6 a7 a8 => by rw [ud_ne a8, ud_ne a5]) ?_ ?_ ?_ ?_ ?_ ?_) h2
      · rw [ud_ne (by decide), ud_ne (by decide)]; exact x3
      · rw [ud_ne (by decide), ud_ne (by decide)]; exact x4
      · refine ⟨Or.inr (by rw [ud_ne (by decide), ud_at]), ?_, ?_⟩
        · rw [ud_ne (by decide), ud_ne (by decide)]; exact x5.2.1
        · rw [ud_ne (by decide), ud_ne (by decide)]; exact x5.2.2
      · rw [ud_at]; exact hu'
      · intro q; rw [ud_ne (by decide), ud_at] at q; exact absurd q (by decide)
      · intro _; exact hf'
  · cases g
  · have z1 := nz k1 (by decide)
    obtain ⟨g1, g2, hs⟩ := g.inr
    have hC0 := hC
    obtain ⟨x1, x3, x4, x5, x8, -, -, -, -, xc, xf⟩ := hC0
    have h2 : (0 : Int) ≤ ud (ud Z 6 1) 3 (vl T N (en T N (Z 0))) 2 ∧ ud (ud Z 6 1) 3 (vl T N (en T N (Z 0))) 2 ≤ Z 0 + 1 := by rw [ud_ne (by decide), ud_ne (by decide)]; omega
    refine fin _ _ _ (by omega) hq2.2 hs (hC.small cs (fun k a3 a4 a5 a6 a7 a8 => by rw [ud_ne a3, ud_ne a6]) ?_ ?_ ?_ ?_ ?_ ?_) h2
    · rw [ud_at]; exact g2
    · rw [ud_ne (by decide), ud_ne (by decide)]; exact x4
    · refine ⟨?_, Or.inr (by rw [ud_ne (by decide), ud_at]), ?_⟩
      · rw [ud_ne (by decide), ud_ne (by decide)]; exact x5.1
      · rw [ud_ne (by decide), ud_ne (by decide)]; exact x5.2.2
    · rw [ud_ne (by decide), ud_ne (by decide)]; exact x8
    · rw [ud_ne (by decide), ud_ne (by decide), ud_ne (by decide), ud_ne (by decide)]; exact xc
    · rw [ud_ne (by decide), ud_ne (by decide)]; exact xf
  · cases g
  · have z1 := nz k1 (by decide)
    obtain ⟨g1, g2, hs⟩ := g.inr
    have hC0 := hC
    obtain ⟨x1, x3, x4, x5, x8, -, -, -, -, xc, xf⟩ := hC0
    have h2 : (0 : Int) ≤ ud (ud Z 7 1) 4 (vl T N (en T N (Z 0))) 2 ∧ ud (ud Z 7 1) 4 (vl T N (en T N (Z 0))) 2 ≤ Z 0 + 1 := by rw [ud_ne (by decide), ud_ne (by decide)]; omega
    refine fin _ _ _ (by omega) hq2.2 hs (hC.small cs (fun k a3 a4 a5 a6 a7 a8 => by rw [ud_ne a4, ud_ne a7]) ?_ ?_ ?_ ?_ ?_ ?_) h2
    · rw [ud_ne (by decide), ud_ne (by decide)]; exact x3
    · rw [ud_at]; exact g2
    · refine ⟨?_, ?_, Or.inr (by rw [ud_ne (by decide), ud_at])⟩
      · rw [ud_ne (by decide), ud_ne (by decide)]; exact x5.1
      · rw [ud_ne (by decide), ud_ne (by decide)]; exact x5.2.1
    · rw [ud_ne (by decide), ud_ne (by decide)]; exact x8
    · rw [ud_ne (by decide), ud_ne (by decide), ud_ne (by decide), ud_ne (by decide)]; exact xc
    · rw [ud_ne (by decide), ud_ne (by decide)]; exact xf
  · cases g
end Keep
