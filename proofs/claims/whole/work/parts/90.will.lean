/-! day and will of both -/
def Ag (y : Int) (s t : Int → Int) : Prop := (∀ i, 0 ≤ i → i < 7 → s i = t i) ∧ (y = 1 → s 7 = t 7)
/-- so many days -/
def DyI (n : Nat) (D : Int → Int) (W : Int → Int → Int) (br : Int → Int) (fs : List Int) (lk y : Int) : Nat → (Int → Int) → (Int → Int) → Prop
  | 0, s, s' => Ag y s s'
  | k + 1, s, s' => ∃ t z, DyI n D W br fs lk y k s t ∧ DyR n D W br fs lk y t s' z ∧ (y = 1 → s' 7 = dyS t)
section Will
variable {l : Launch} {G : GT} {d : Nat} {m : MM} {b : Nat} {n : Nat} {D : Int → Int} {W : Int → Int → Int} {br : Int → Int} {fs : List Int} {lk y : Int}
theorem DyI.uniq (hn : n ≤ 5) : ∀ (k : Nat) {s t s' t' : Int → Int}, Ag y s t → DyI n D W br fs lk y k s s' → DyI n D W br fs lk y k t t' → Ag y s' t'
  | 0, s, t, s', t', e, h1, h2 => ⟨fun i i0 i1 => by rw [← h1.1 i i0 i1, ← h2.1 i i0 i1]; exact e.1 i i0 i1, fun q => by rw [← h1.2 q, ← h2.2 q]; exact e.2 q⟩
  | k + 1, s, t, s', t', e, ⟨a, z, ha, hr, h7⟩, ⟨a', z', ha', hr', h7'⟩ => by
    have ih := DyI.uniq hn k e ha ha'
    have := DyR.uniq hn ih.1 ih.2 hr hr'
    refine ⟨this.2, fun q => ?_⟩
    rw [h7 q, h7' q]
    unfold dyS
    rw [ih.2 q]
theorem c_keepKX2 {m1 : MM} (f : Fr [15, 24, 25, 32, 33, 34] m m1) (ha : 0 ≤ m 28 1 ∧ m 28 1 ≤ 40) : CV l G Y_Acts_keep (d + 1) [.inr (.inr 28), .inr (.inr 25)] m1 (KX2 (m1 25) m) := by
  have e28 : m1 28 = m 28 := f 28 (by decide)
  have e29 : m1 29 = m 29 := f 29 (by decide)
  refine (c_keepX (m := m1) (h := 25) (len := 8) rfl (by decide) (by decide) (by decide) (by rw [e28]; exact ha)).imp (fun m' h => ?_)
  obtain ⟨f2, k1, k2, k3⟩ := h
  rw [e28] at k1 k2 k3
  rw [e29] at k3
  refine ⟨⟨fun c hc hc2 => ?_, fun i hi => ?_⟩, ?_, k1, k2, k3⟩
  · have h29 : c ∉ [29] := fun q => hc (by simp only [List.mem_cons, List.not_mem_nil, or_false] at q; simp [q])
    have h25 : c ∉ [15, 24, 25, 32, 33, 34] := fun q => hc (by
      simp only [List.mem_cons, List.not_mem_nil, or_false] at q ⊢
      omega)
    rw [f2.1 c h29 hc2, f c h25]
  · rw [f2.2 i hi, e28]
  · exact f2.1 25 (by decide) (by decide)
theorem b8_in {b : Nat} (hb : isB b) {S : List Nat} : ∀ c ∈ [25, 32, 33, 34, b + 8], c ∈ [15, 24, 25, 32, 33, 34] := by
  intro c hc
  rcases hb with rfl | rfl <;> (simp only [List.mem_cons, List.not_mem_nil, or_false] at hc ⊢; omega)
theorem c_dayX (B : BW n D W br) (X : CX n D W br b m) (F : CF fs (b + 6) m) (hf : fOk fs) (hlk : m b 2 = lk) (hg : ∀ i, In n i → 0 ≤ m 25 i) {N : Int} (hN : sm n (m 25) ≤ N) (hN3 : N + 101 ≤ 30000) (hd : 0 ≤ m 25 5 ∧ m 25 5 ≤ 1000000000) (h6 : 0 ≤ m 25 6 ∧ m 25 6 ≤ 100000) (h7 : 0 ≤ m 25 7 ∧ m 25 7 ≤ 1000) (ha : 0 ≤ m 28 1 ∧ m 28 1 ≤ 40) :
    CI l G Y_S_day (d + 5) [.inr (.inr 0)] m (fun z m' => (m 25 6 < 999 → ∃ s, DyR n D W br fs lk 1 (m 25) s z ∧ s 7 = dyS (m 25) ∧ KX2 s m m') ∧ (¬ m 25 6 < 999 → z = -1 ∧ m = m')) := by
  refine e_S_day (fun _ => ⟨fun c => ⟨d + 4, _, by omega, c_passDay B X F hf hlk (Or.inl rfl) hg hN hN3 hd h6 h7 (Or.inr rfl), fun z m1 h1 _ _ => ?_⟩, fun c => ⟨fun q => absurd q c, fun _ => ⟨rfl, rfl⟩⟩⟩)
  obtain ⟨f, hr, e7⟩ := h1
  exact ⟨d + 1, _, by omega, c_keepKX2 (f.mono (b8_in (S := []) X.1)) ha, fun m2 h2 _ => ⟨fun _ => ⟨m1 25, hr, e7, h2⟩, fun q => absurd c q⟩⟩
theorem c_dayM (B : BW n D W br) (X : BM n D W br m) (F : MT fs m) (hlk : m 76 (m 70 28) = lk) (hg : ∀ i, In n i → 0 ≤ m 90 i) {N : Int} (hN : sm n (m 90) ≤ N) (hN3 : N + 101 ≤ 1000000) (hd : 0 ≤ m 90 5 ∧ m 90 5 ≤ 1000000000) (h6 : 0 ≤ m 90 6 ∧ m 90 6 ≤ 999) (h7 : 0 ≤ m 90 7 ∧ m 90 7 ≤ 1000) (ha : 0 ≤ m 70 45 ∧ m 70 45 ≤ 40) :
    CI l G Y_M_day (d + 4) [.inr (.inr 70)] m (fun z m' => (m 90 6 < 999 → ∃ s, DyR n D W br fs lk 1 (m 90) s z ∧ s 7 = dyS (m 90) ∧ KM2 s m m') ∧ (¬ m 90 6 < 999 → z = -1 ∧ m = m')) := by
  refine e_M_day (fun _ => ⟨fun c => ⟨d, _, by omega, c_keepAct ha, fun m1 h1 _ => ?_⟩, fun c => ⟨fun q => absurd q (by omega), fun _ => ⟨rfl, rfl⟩⟩⟩)
  obtain ⟨f1, k1, k2, k3⟩ := h1
  have X1 : BM n D W br m1 := X.fro f1 (by decide) (by decide) (by decide) (by decide) (by decide)
  have F1 := F.fro f1 (by decide) (by decide) (by decide) (by decide) (by decide) (by decide)
  have e90 : m1 90 = m 90 := f1.1 90 (by decide) (by decide)
  have elk : m1 76 (m1 70 28) = lk := by rw [f1.1 76 (by decide) (by decide), f1.2 28 (by decide)]; exact hlk
  refine ⟨d + 3, _, by omega, c_goDay B X1 F1 elk (by rw [e90]; exact hg) (N := N) (by rw [e90]; exact hN) hN3 (by rw [e90]; exact hd) (by rw [e90]; omega) (by rw [e90]; exact h7) (Or.inr rfl), fun z m2 h2 _ _ => ⟨fun _ => ⟨m2 90, ?_, ?_, ?_⟩, fun q => absurd (by omega) q⟩⟩
  · rw [← e90]; exact h2.2.1
  · rw [← e90, h2.2.2, if_pos rfl]
  · obtain ⟨f2, -, -⟩ := h2
    refine ⟨⟨fun c hc hc2 => ?_, fun i hi => ?_⟩, rfl, ?_, ?_, fun k k0 => ?_⟩
    · simp only [List.mem_cons, List.not_mem_nil, or_false] at hc
      rw [f2.1 c (by simp only [List.mem_cons, List.not_mem_nil, or_false]; omega) hc2, f1.1 c (by simp only [List.mem_cons, List.not_mem_nil, or_false]; omega) hc2]
    · simp only [List.mem_cons, List.not_mem_nil, or_false] at hi
      rw [f2.2 i (by simp only [List.mem_cons, List.not_mem_nil, or_false]; omega), f1.2 i (by simp only [List.mem_cons, List.not_mem_nil, or_false]; omega)]
    · rw [f2.2 45 (by decide)]; exact k1
    · rw [f2.2 46 (by decide)]; exact k2
    · rw [f2.1 96 (by decide) (by decide), k3 k, if_pos k0]
/-- what is asked, and what is answered -/
def WlR (n : Nat) (D : Int → Int) (W : Int → Int → Int) (br : Int → Int) (fs : List Int) (lk : Int) (s : Int → Int) (x k y z : Int) : Prop :=
  (In n x ∧ (0 ≤ k ∧ k ≤ 30) ∧ 0 ≤ y ∧ y ≤ 1 → ∃ s', DyI n D W br fs lk y k.toNat s s' ∧ z = s' x) ∧ (¬ (In n x ∧ (0 ≤ k ∧ k ≤ 30) ∧ 0 ≤ y ∧ y ≤ 1) → z = -1)
theorem WlR.uniq (hn : n ≤ 5) {s t : Int → Int} {x k y z z' : Int} (e : ∀ i, 0 ≤ i → i < 8 → s i = t i) (h1 : WlR n D W br fs lk s x k y z) (h2 : WlR n D W br fs lk t x k y z') : z = z' := by
  by_cases c : In n x ∧ (0 ≤ k ∧ k ≤ 30) ∧ 0 ≤ y ∧ y ≤ 1
  · obtain ⟨s', a, b⟩ := h1.1 c
    obtain ⟨t', a', b'⟩ := h2.1 c
    rw [b, b']
    exact (DyI.uniq hn _ ⟨fun i i0 i7 => e i i0 (by omega), fun _ => e 7 (by decide) (by decide)⟩ a a').1 x c.1.1 (by omega)
  · rw [h1.2 c, h2.2 c]
/-- the bounds of a state k days on -/
def WlB (n : Nat) (N : Int) (s : Int → Int) (k : Int) : Prop :=
  (∀ i, In n i → 0 ≤ s i) ∧ sm n s ≤ N + 101 * k ∧ (0 ≤ s 5 ∧ s 5 ≤ 900000000 + 30000 * k) ∧ (0 ≤ s 6 ∧ s 6 ≤ 1000 + k) ∧ (0 ≤ s 7 ∧ s 7 ≤ 1000)
theorem WlB.next (B : BW n D W br) {N : Int} {s s' : Int → Int} {k z : Int} (hk : 0 ≤ k ∧ k < 30) (hN : N ≤ 20000) (h : WlB n N s k) (hr : DyR n D W br fs lk y s s' z) (h7 : s' 7 = dyS s ∨ s' 7 = s 7) : WlB n N s' (k + 1) ∧ (0 ≤ z ∧ z ≤ 900000) := by
  obtain ⟨a1, a2, a3, a4, a5⟩ := h
  obtain ⟨b1, b2, b3, b4, b5⟩ := hr.rng B a1 a2
  have hsr := dyS_rng (s := s)
  have hs0 := sm_nonneg a1
  exact ⟨⟨b1, by omega, by omega, by omega, by omega⟩, by omega⟩
theorem c_willX (B : BW n D W br) (X : CX n D W br b m) (F : CF fs (b + 6) m) (hf : fOk fs) (hlk : m b 2 = lk) (hg : ∀ i, In n i → 0 ≤ m 25 i) {N : Int} (hN : sm n (m 25) ≤ N) (hN3 : N ≤ 20000) (hd : 0 ≤ m 25 5 ∧ m 25 5 ≤ 900000000) (h6 : 0 ≤ m 25 6 ∧ m 25 6 ≤ 1000) (h7 : 0 ≤ m 25 7 ∧ m 25 7 ≤ 1000) {x k y : Int} :
    CI l G Y_S_will (d + 5) [.inr (.inr 0), .inl x, .inl k, .inl y] m (fun z m' => Fr [26, 32, 33, 34, b + 8] m m' ∧ WlR n D W br fs lk (m 25) x k y z) := by
  have hn5 := B.1
  refine e_S_will x k y (by omega) (fun _ _ _ _ => ⟨b, X.2.1, X.1, d, _, by omega, c_has X.1, fun z m1 hz _ _ => ?_⟩)
  obtain ⟨rfl, rfl⟩ := hz
  rw [has_if X.2.2]
  by_cases hx : In n x
  · rw [if_pos hx]
    refine ⟨fun c => absurd c (by decide), fun _ => ⟨fun c => ⟨Fr.rf, fun q => absurd q.2.1 (by omega), fun _ => rfl⟩, fun c => ⟨fun c2 => ⟨Fr.rf, fun q => absurd q.2.1 (by omega), fun _ => rfl⟩, fun c2 => ⟨fun c3 => ⟨Fr.rf, fun q => absurd q.2.2 (by omega), fun _ => rfl⟩, fun c3 => ⟨fun c4 => ⟨by decide, ?_⟩, fun c4 => ⟨Fr.rf, fun q => absurd q.2.2 (by omega), fun _ => rfl⟩⟩⟩⟩⟩⟩
    rintro m1 rfl
    have f0 : Fr [26, 32, 33, 34, b + 8] m (upC m 25 26 0 0 8) := fun c hc => upC_ne (fun e => hc (by rw [e]; simp))
    have v0 : ∀ i, 0 ≤ i → i < 8 → upC m 25 26 0 0 8 26 i = m 25 i := fun i i0 i8 => by
      rw [upC_row, if_pos (by omega)]
      exact congrArg (m 25) (by omega)
    generalize upC m 25 26 0 0 8 = m1 at f0 v0
    have hS0 : ∀ a, a = 0 ∨ (b ≤ a ∧ a < b + 8) → a ∉ [26, 32, 33, 34, b + 8] := fun a ha => by
      simp only [List.mem_cons, List.not_mem_nil, or_false]
      rcases X.1 with rfl | rfl <;> omega
    have loop : ∀ (j : Nat) (t : Nat) (m2 : MM), (t : Int) + j = k → Fr [26, 32, 33, 34, b + 8] m m2 → DyI n D W br fs lk y t (m 25) (m2 26) → WlB n N (m2 26) t →
        Wq l G false Y_S_will (d + 5) (QI fun z m' => Fr [26, 32, 33, 34, b + 8] m m' ∧ WlR n D W br fs lk (m 25) x k y z) 50 [(0, .inr (.inr 0)), (1, .inl x), (2, .inl k), (3, .inl y), (4, .inl (t : Int))] [] m2 := by
      intro j
      induction j with
      | zero =>
        intro t m2 ht f hI hB
        have et : k.toNat = t := by omega
        exact s_S_will_50 x k y t (fun _ _ _ _ _ => ⟨fun _ => ⟨by omega, f, fun _ => ⟨m2 26, by rw [et]; exact hI, rfl⟩, fun q => absurd ⟨hx, by omega, by omega⟩ q⟩, fun c => absurd (show (t : Int) ≥ k by omega) c⟩)
      | succ j ih =>
        intro t m2 ht f hI hB
        have X2 : CX n D W br b m2 := ⟨X.1, by rw [f 0 (hS0 0 (Or.inl rfl))]; exact X.2.1, X.2.2.fr f (hS0 b (Or.inr (by omega))) (hS0 (b + 2) (Or.inr (by omega))) (hS0 (b + 3) (Or.inr (by omega))) (hS0 (b + 4) (Or.inr (by omega)))⟩
        have F2 : CF fs (b + 6) m2 := F.fr f (hS0 _ (Or.inr (by omega))) (hS0 _ (Or.inr (by omega)))
        have elk : m2 b 2 = lk := by rw [f b (hS0 b (Or.inr (by omega)))]; exact hlk
        have hB' := hB
        obtain ⟨a1, a2, a3, a4, a5⟩ := hB'
        have call : ∀ y2, y2 = y → CI l G Y_S_passDay (d + 4) [.inr (.inr 0), .inr (.inr 26), .inl y2] m2 (fun z m' => Fr [26, 32, 33, 34, b + 8] m2 m' ∧ DyR n D W br fs lk y2 (m2 26) (m' 26) z ∧ m' 26 7 = dyS (m2 26)) := fun y2 e => c_passDay B X2 F2 hf elk (Or.inr rfl) a1 a2 (by omega) (by omega) (by omega) (by omega) (by omega)
        have go : ∀ z m3, (Fr [26, 32, 33, 34, b + 8] m2 m3 ∧ DyR n D W br fs lk y (m2 26) (m3 26) z ∧ m3 26 7 = dyS (m2 26)) → (inR ((t : Int) + 1)) ∧ Wq l G false Y_S_will (d + 5) (QI fun z m' => Fr [26, 32, 33, 34, b + 8] m m' ∧ WlR n D W br fs lk (m 25) x k y z) 50 [(0, .inr (.inr 0)), (1, .inl x), (2, .inl k), (3, .inl y), (4, .inl ((t : Int) + 1))] [] m3 := fun z m3 h3 =>
          ⟨by omega, ih (t + 1) m3 (by omega) (f.tr h3.1) ⟨m2 26, z, hI, h3.2.1, fun _ => h3.2.2⟩ (hB.next B (by omega) hN3 h3.2.1 (Or.inl h3.2.2)).1⟩
        refine s_S_will_50 x k y t (fun _ _ _ _ _ => ⟨fun c => absurd c (by omega), fun _ => ⟨fun c => ⟨d + 4, _, by omega, call 0 (by omega), fun z m3 h3 _ _ => ?_⟩, fun c => ⟨d + 4, _, by omega, call 1 (by omega), fun z m3 h3 _ _ => ?_⟩⟩⟩)
        · rw [show (0 : Int) = y by omega] at h3
          exact go z m3 h3
        · rw [show (1 : Int) = y by omega] at h3
          have := go z m3 h3
          exact this
    have hin : ∀ i, In n i → m1 26 i = m 25 i := fun i hi => v0 i hi.1 (by omega)
    refine loop k.toNat 0 m1 (by omega) f0 ⟨fun i i0 i7 => (v0 i i0 (by omega)).symm, fun _ => (v0 7 (by decide) (by decide)).symm⟩ ⟨fun i hi => by rw [hin i hi]; exact hg i hi, by rw [sm_congr hin]; omega, ?_, ?_, ?_⟩
    · rw [v0 5 (by decide) (by decide)]; omega
    · rw [v0 6 (by decide) (by decide)]; omega
    · rw [v0 7 (by decide) (by decide)]; omega
  · rw [if_neg hx]
    exact ⟨fun _ => ⟨Fr.rf, fun q => absurd q.1 hx, fun _ => rfl⟩, fun c => absurd rfl c⟩
theorem c_willM (B : BW n D W br) (X : BM n D W br m) (F : MT fs m) (hlk : m 76 (m 70 28) = lk) (hg : ∀ i, In n i → 0 ≤ m 90 i) {N : Int} (hN : sm n (m 90) ≤ N) (hN3 : N ≤ 20000) (hd : 0 ≤ m 90 5 ∧ m 90 5 ≤ 900000000) (h6 : 0 ≤ m 90 6 ∧ m 90 6 ≤ 1000) (h7 : 0 ≤ m 90 7 ∧ m 90 7 ≤ 1000) {x k y : Int} :
    CI l G Y_M_will (d + 4) [.inr (.inr 70), .inl x, .inl k, .inl y] m (fun z m' => Fro 70 [89, 90, 91, 93, 94] [34, 41] m m' ∧ (∀ i, 0 ≤ i → i < 8 → m' 90 i = m 90 i) ∧ WlR n D W br fs lk (m 90) x k y z) := by
  have hn5 := B.1
  have no : ¬ (In n x ∧ (0 ≤ k ∧ k ≤ 30) ∧ 0 ≤ y ∧ y ≤ 1) → Fro 70 [89, 90, 91, 93, 94] [34, 41] m m ∧ (∀ i, 0 ≤ i → i < 8 → m 90 i = m 90 i) ∧ WlR n D W br fs lk (m 90) x k y (-1) := fun c => ⟨Fro.rf, fun _ _ _ => rfl, fun q => absurd q c, fun _ => rfl⟩
  refine e_M_will x k y (fun _ _ _ _ => ⟨d + 1, _, by omega, c_isPlate hn5 X, fun z m1 hz _ _ => ?_⟩)
  obtain ⟨rfl, rfl⟩ := hz
  by_cases hx : In n x
  · rw [if_pos hx]
    refine ⟨fun c => absurd c (by decide), fun _ => ⟨d, _, by omega, c_isIn, fun z m1 hz _ _ => ?_⟩⟩
    obtain ⟨rfl, rfl⟩ := hz
    by_cases hk : 0 ≤ k ∧ k ≤ 30
    · rw [if_pos hk]
      refine ⟨fun c => absurd c (by decide), fun _ => ⟨d, _, by omega, c_isIn, fun z m1 hz _ _ => ?_⟩⟩
      obtain ⟨rfl, rfl⟩ := hz
      by_cases hy : 0 ≤ y ∧ y ≤ 1
      · rw [if_pos hy]
        refine ⟨fun _ => ⟨d, _, by omega, c_keepNow, fun m1 h1 _ => ?_⟩, fun c => absurd (by decide) c⟩
        obtain ⟨fk, hk91⟩ := h1
        have fk' : Fro 70 [89, 90, 91, 93, 94] [34, 41] m m1 := ⟨fun c hc _ => fk c (by simp only [List.mem_cons, List.not_mem_nil, or_false] at hc ⊢; omega), fun i _ => by rw [fk 70 (by decide)]⟩
        have k90 : m1 90 = m 90 := fk 90 (by decide)
        have loop : ∀ (j : Nat) (t : Nat) (w : Int) (m2 : MM), (t : Int) + j = k → (0 ≤ w ∧ w ≤ 900000 * t) → Fro 70 [89, 90, 91, 93, 94] [34, 41] m m2 → m2 91 = m1 91 → DyI n D W br fs lk y t (m 90) (m2 90) → WlB n N (m2 90) t →
            Wq l G false Y_M_will (d + 4) (QI fun z m' => Fro 70 [89, 90, 91, 93, 94] [34, 41] m m' ∧ (∀ i, 0 ≤ i → i < 8 → m' 90 i = m 90 i) ∧ WlR n D W br fs lk (m 90) x k y z) 39 [(0, .inr (.inr 70)), (1, .inl x), (2, .inl k), (3, .inl y), (4, .inl w), (5, .inl (t : Int))] [] m2 := by
          intro j
          induction j with
          | zero =>
            intro t w m2 ht hw f e91 hI hB
            have et : k.toNat = t := by omega
            refine s_M_will_39 x k y w t (fun _ _ _ _ _ _ => ⟨fun _ => ?_, fun c => absurd (show (t : Int) ≥ k by omega) c⟩)
            rw [Int.zero_add]
            refine ⟨by omega, by omega, d, _, by omega, c_bringBack, fun m3 h3 _ => ?_⟩
            obtain ⟨f3, b3⟩ := h3
            refine ⟨f.tr ⟨fun c hc _ => f3 c (by simp only [List.mem_cons, List.not_mem_nil, or_false] at hc ⊢; omega), fun i _ => by rw [f3 70 (by decide)]⟩, fun i i0 i8 => by rw [b3 i i0 i8, e91, hk91 i i0 i8], fun _ => ⟨m2 90, by rw [et]; exact hI, rfl⟩, fun q => absurd ⟨hx, hk, hy⟩ q⟩
          | succ j ih =>
            intro t w m2 ht hw f e91 hI hB
            have X2 := X.fro f (by decide) (by decide) (by decide) (by decide) (by decide)
            have F2 := F.fro f (by decide) (by decide) (by decide) (by decide) (by decide) (by decide)
            have elk : m2 76 (m2 70 28) = lk := by rw [f.1 76 (by decide) (by decide), f.2 28 (by decide)]; exact hlk
            have hB' := hB
            obtain ⟨a1, a2, a3, a4, a5⟩ := hB'
            have call : ∀ y2, y2 = y → CI l G Y_M_goDay (d + 3) [.inr (.inr 70), .inl y2] m2 (fun z m' => Fro 70 [89, 90, 93, 94] [34, 41] m2 m' ∧ DyR n D W br fs lk y2 (m2 90) (m' 90) z ∧ m' 90 7 = if y2 = 1 then dyS (m2 90) else m2 90 7) := fun y2 e => c_goDay B X2 F2 elk a1 a2 (by omega) (by omega) (by omega) (by omega) (by omega)
            have go : ∀ z m3, (Fro 70 [89, 90, 93, 94] [34, 41] m2 m3 ∧ DyR n D W br fs lk y (m2 90) (m3 90) z ∧ m3 90 7 = if y = 1 then dyS (m2 90) else m2 90 7) → (inR (w + z)) ∧ (inR ((t : Int) + 1)) ∧ Wq l G false Y_M_will (d + 4) (QI fun z m' => Fro 70 [89, 90, 91, 93, 94] [34, 41] m m' ∧ (∀ i, 0 ≤ i → i < 8 → m' 90 i = m 90 i) ∧ WlR n D W br fs lk (m 90) x k y z) 39 [(0, .inr (.inr 70)), (1, .inl x), (2, .inl k), (3, .inl y), (4, .inl (w + z)), (5, .inl ((t : Int) + 1))] [] m3 := by
              intro z m3 h3
              have h7 : m3 90 7 = dyS (m2 90) ∨ m3 90 7 = m2 90 7 := by
                rw [h3.2.2]
                split
                · exact Or.inl rfl
                · exact Or.inr rfl
              have hnx := hB.next B (by omega) hN3 h3.2.1 h7
              refine ⟨by omega, by omega, ih (t + 1) (w + z) m3 (by omega) (by omega) (f.tr (h3.1.mono (by simp) (by simp))) ((h3.1.1 91 (by decide) (by decide)).trans e91) ⟨m2 90, z, hI, h3.2.1, fun q => by rw [h3.2.2, if_pos q]⟩ hnx.1⟩
            refine s_M_will_39 x k y w t (fun _ _ _ _ _ _ => ⟨fun c => absurd c (by omega), fun _ => ⟨fun c => ⟨d + 3, _, by omega, call 0 (by omega), fun z m3 h3 _ _ => ?_⟩, fun c => ⟨d + 3, _, by omega, call 1 (by omega), fun z m3 h3 _ _ => ?_⟩⟩⟩)
            · rw [show (0 : Int) = y by omega] at h3
              exact go z m3 h3
            · have e1 : y = 1 := by omega
              exact go z m3 ⟨h3.1, by rw [e1]; exact h3.2.1, by rw [h3.2.2, if_pos rfl, if_pos e1]⟩
        refine loop k.toNat 0 0 m1 (by omega) (by omega) fk' rfl ⟨fun i i0 i7 => by rw [k90], fun _ => by rw [k90]⟩ ⟨?_, ?_, ?_, ?_, ?_⟩ <;> rw [k90]
        · exact hg
        · omega
        · omega
        · omega
        · omega
      · rw [if_neg hy]
        exact ⟨fun c => absurd rfl c, fun _ => no (fun q => hy q.2.2)⟩
    · rw [if_neg hk]
      exact ⟨fun _ => no (fun q => hk q.2.1), fun c => absurd rfl c⟩
  · rw [if_neg hx]
    exact ⟨fun _ => no (fun q => hx q.1), fun c => absurd rfl c⟩
end Will
