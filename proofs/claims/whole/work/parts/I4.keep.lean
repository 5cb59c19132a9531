/-! what is left when a state, a sight or the tape has changed -/
theorem out_of {S T U : List Nat} (hS : ∀ a ∈ S, a ∈ T ∨ a ∈ U) {a : Nat} (h1 : a ∉ T) (h2 : a ∉ U) : a ∉ S := fun q => by
  rcases hS a q with r | r
  · exact h1 r
  · exact h2 r
def DCR : List Nat := [25, 28, 29, 30, 31, 90, 96, 109, 110]
theorem dcr_no {a : Nat} (h : a < 25 ∨ (31 < a ∧ a < 90) ∨ (90 < a ∧ a < 96) ∨ (96 < a ∧ a < 109) ∨ 110 < a) : a ∉ DCR := by
  unfold DCR
  simp only [List.mem_cons, List.not_mem_nil, or_false]
  omega
theorem Fr.to28 {S : List Nat} {m m' : MM} (f : Fr S m m') (h : 28 ∉ S) : Fro 28 S [] m m' := ⟨fun a ha _ => f a ha, fun i _ => by rw [f 28 h]⟩
theorem KX.two {s : Int → Int} {m m' : MM} (h : KX s m m') : KX2 s m m' := ⟨h.1.mono (by decide) (by decide), h.2⟩
theorem KM.two {s : Int → Int} {m m' : MM} (h : KM s m m') : KM2 s m m' := ⟨h.1.mono (by decide) (by decide), h.2⟩
section Keep4
variable {m m1 m2 : MM} {n : Nat} {D : Int → Int} {W : Int → Int → Int} {br hd : Int → Int} {b b' : Nat} {fs : List Int} {lk c : Int} {o : Nat} {S1 S2 : List Nat} {I1 I2 : List Int} {s t u v : Int → Int}
/-- after the class, before the reference -/
theorem Ivp.mid (h : Ivp n D W br b b' fs lk hd c m) (f1 : Fro o S1 I1 m m1) (ho : o ∈ SCR ∨ o ∈ DCR) (h7 : o ≠ 70 ∧ 70 ∉ S1) (hS1 : ∀ a ∈ S1, a ∈ SCR ∨ a ∈ DCR) : IvA n D W br b b' m1 ∧ IvB b fs lk m1 ∧ m1 70 = m 70 := by
  obtain ⟨hA, hB, hC, -, hE, hF, hG⟩ := h
  have hb := hA.2.1.1
  have e : ∀ a, a ∉ SCR → a ∉ DCR → m1 a = m a := fun a q1 q2 => f1.1 a (out_of hS1 q1 q2) (fun r => by subst r; rcases ho with s | s; exact q1 s; exact q2 s)
  have e7 : m1 70 = m 70 := f1.1 70 h7.2 (Ne.symm h7.1)
  exact ⟨hA.fr (fun a ha => e a (scr_no (by omega)) (dcr_no (by omega))) (by rw [e7]), hB.fr hb (fun a ha => e a (scr_no (by omega)) (dcr_no (by omega))) (by rw [e7]), e7⟩
theorem Ivp.d2 (h : Ivp n D W br b b' fs lk hd c m) (f1 : Fro o S1 I1 m m1) (f2 : Fro 70 S2 I2 m1 m2) (ho : o ∈ SCR ∨ o ∈ DCR) (h7 : o ≠ 70 ∧ 70 ∉ S1) (hS1 : ∀ a ∈ S1, a ∈ SCR ∨ a ∈ DCR) (hS2 : ∀ a ∈ S2, a ∈ SCR ∨ a ∈ DCR) (hI2 : ∀ i ∈ I2, i = 34 ∨ i = 41 ∨ i = 43 ∨ i = 45 ∨ i = 46) (hD : IvD n (c + 1) m2) : Inv (c + 1) m2 := by
  obtain ⟨hA, hB, hC, -, hE, hF, hG⟩ := h
  have hb := hA.2.1.1
  have e : ∀ a, a ∉ SCR → a ∉ DCR → a ≠ 70 → m2 a = m a := fun a q1 q2 q3 => (f2.1 a (out_of hS2 q1 q2) q3).trans (f1.1 a (out_of hS1 q1 q2) (fun r => by subst r; rcases ho with s | s; exact q1 s; exact q2 s))
  have e70 : ∀ i : Int, i ≠ 34 ∧ i ≠ 41 ∧ i ≠ 43 ∧ i ≠ 45 ∧ i ≠ 46 → m2 70 i = m 70 i := fun i q => (f2.2 i (fun r => by have := hI2 i r; omega)).trans (by rw [f1.1 70 h7.2 (Ne.symm h7.1)])
  exact ⟨n, D, W, br, b, b', fs, lk, hd, hA.fr (fun a ha => e a (scr_no (by omega)) (dcr_no (by omega)) (by omega)) (e70 28 (by decide)), hB.fr hb (fun a ha => e a (scr_no (by omega)) (dcr_no (by omega)) (by omega)) (e70 28 (by decide)), hC.fr (fun a ha => e a (scr_no (by omega)) (dcr_no (by omega)) (by omega)) (fun i hi => e70 i (by omega)), hD, hE.fr (fun a ha => e a (scr_no (by omega)) (dcr_no (by omega)) (by omega)) (e70 48 (by decide)), hF.fr hb (fun a ha => e a (scr_no (by omega)) (dcr_no (by omega)) (by omega)) (fun i hi => e70 i (by omega)), hG.fr (fun a ha => e a (scr_no (by omega)) (dcr_no (by omega)) (by omega)) (e70 42 (by decide))⟩
theorem Ivp.f2 (h : Ivp n D W br b b' fs lk hd c m) (e : ∀ a, (a < 55 ∨ (60 < a ∧ a < 103) ∨ 107 < a) → a ≠ 70 → m2 a = m a) (e70 : ∀ i : Int, i ≠ 60 → i ≠ 61 → m2 70 i = m 70 i) (hF : IvF n D W br hd b m2) : Inv (c + 1) m2 := by
  obtain ⟨hA, hB, hC, hD, hE, -, hG⟩ := h
  have hb := hA.2.1.1
  exact ⟨n, D, W, br, b, b', fs, lk, hd, hA.fr (fun a ha => e a (by omega) (by omega)) (e70 28 (by decide) (by decide)), hB.fr hb (fun a ha => e a (by omega) (by omega)) (e70 28 (by decide) (by decide)), hC.fr (fun a ha => e a (by omega) (by omega)) (fun i hi => e70 i (by omega) (by omega)), (hD.fr (fun a ha => e a (by omega) (by omega)) (fun i hi => e70 i (by omega) (by omega))).mono (by omega), hE.fr (fun a ha => e a (by omega) (by omega)) (e70 48 (by decide) (by decide)), hF, hG.fr (fun a ha => e a (by omega) (by omega)) (e70 42 (by decide) (by decide))⟩
theorem Ivp.c2 (h : Ivp n D W br b b' fs lk hd c m) (e : ∀ a, a ≠ 0 → a ≠ 1 → a ≠ 71 → a ≠ 70 → m2 a = m a) (e0 : ∀ i : Int, i ≠ 1 → m2 0 i = m 0 i) (e70 : ∀ i : Int, i ≠ 2 → m2 70 i = m 70 i) (hC : IvC m2) : Inv (c + 1) m2 := by
  obtain ⟨hA, hB, -, hD, hE, hF, hG⟩ := h
  have hb := hA.2.1.1
  have hb2 : b = 7 ∨ b = 16 := hb
  refine ⟨n, D, W, br, b, b', fs, lk, hd, ?_, hB.fr hb (fun a ha => e a (by omega) (by omega) (by omega) (by omega)) (e70 28 (by decide)), hC, (hD.fr (fun a ha => e a (by omega) (by omega) (by omega) (by omega)) (fun i hi => e70 i (by omega))).mono (by omega), hE.fr (fun a ha => e a (by omega) (by omega) (by omega) (by omega)) (e70 48 (by decide)), hF.fr hb (fun a ha => e a (by omega) (by omega) (by omega) (by omega)) (fun i hi => e70 i (by omega)), hG.fr (fun a ha => e a (by omega) (by omega) (by omega) (by omega)) (e70 42 (by decide))⟩
  obtain ⟨h1, h2, h3, h4, h5⟩ := hA
  unfold IvA CX BX BM
  rw [e0 5 (by decide), e0 6 (by decide), e b (by omega) (by omega) (by omega) (by omega), e (b + 3) (by omega) (by omega) (by omega) (by omega), e (b + 4) (by omega) (by omega) (by omega) (by omega), e (b + 2) (by omega) (by omega) (by omega) (by omega), e (b + 5) (by omega) (by omega) (by omega) (by omega), e 73 (by omega) (by omega) (by omega) (by omega), e 80 (by omega) (by omega) (by omega) (by omega), e 81 (by omega) (by omega) (by omega) (by omega), e 92 (by omega) (by omega) (by omega) (by omega), e70 28 (by decide)]
  exact ⟨h1, h2, h3, h4, h5⟩
theorem StO.congr (h : StO n c s) (hn : n ≤ 5) (e : ∀ i, 0 ≤ i → i < 8 → s i = t i) : StO n c t := by
  have e' : ∀ i, In n i → s i = t i := fun i hi => e i hi.1 (by have := hi.2; omega)
  obtain ⟨h1, h2, h3, h4, h5, h6⟩ := h
  unfold StO
  rw [← e 5 (by decide) (by decide), ← e 6 (by decide) (by decide), ← e 7 (by decide) (by decide), ← sm_congr e']
  exact ⟨fun i hi => by rw [← e' i hi]; exact h1 i hi, h2, h3, h4, h5, fun i q i0 i5 => by rw [← e i i0 (by omega)]; exact h6 i q i0 i5⟩
theorem StO.up {x y : Int} (h : StO n c s) (hn : n ≤ 5) (hx : In n x) (y0 : 0 ≤ y) (hy : y ≤ s x + 20) : StO n (c + 1) (upS s x y) := by
  obtain ⟨h1, h2, h3, h4, h5, h6⟩ := h
  have hx2 := hx.2
  have e : ∀ i, i ≠ x → upS s x y i = s i := fun i hi => by unfold upS; rw [if_neg hi]
  refine ⟨fun i hi => ?_, ?_, ?_, ?_, ?_, fun i q i0 i5 => ?_⟩
  · unfold upS
    have := h1 i hi
    split <;> omega
  · have a := sm_le (n := n) (f := upS s x y) (g := fun i => if i = x then s i + 20 else s i) (fun i hi => by
      unfold upS
      by_cases q : i = x
      · rw [if_pos q]
        show y ≤ if i = x then s i + 20 else s i
        rw [if_pos q, q]; exact hy
      · rw [if_neg q]
        show s i ≤ if i = x then s i + 20 else s i
        rw [if_neg q]; exact Int.le_refl _)
    rw [sm_upd n s x 20 hx] at a
    omega
  · rw [e 5 (by omega)]; omega
  · rw [e 6 (by omega)]; exact h4
  · rw [e 7 (by omega)]; exact h5
  · rw [e i (fun r => q (by rw [r]; exact hx))]; exact h6 i q i0 i5
theorem stS_in {i : Int} (hi : In n i) : stS n D W br s u i = s i - Lp n W br u i := by unfold stS; rw [if_pos hi]
theorem stS_five (hn : n ≤ 5) : stS n D W br s u 5 = s 5 + sm n (fun j => D j * u j) := by unfold stS; rw [if_neg (fun q : In n 5 => by have := q.2; omega), if_pos rfl]
theorem stS_out {i : Int} (hi : ¬ In n i) (h5 : i ≠ 5) : stS n D W br s u i = s i := by unfold stS; rw [if_neg hi, if_neg h5]
theorem stS_congr (hn : n ≤ 5) (e : ∀ i, 0 ≤ i → i < 8 → s i = t i) (eu : ∀ i, In n i → u i = v i) : ∀ i, 0 ≤ i → i < 8 → stS n D W br s u i = stS n D W br t v i := fun i i0 i8 => by
  unfold stS
  rw [e i i0 i8, e 5 (by decide) (by decide), sm_congr (f := fun j => D j * u j) (g := fun j => D j * v j) (fun j hj => by rw [eu j hj])]
  by_cases q : In n i
  · rw [if_pos q, if_pos q, Lp_congr eu i q]
  · rw [if_neg q, if_neg q]
theorem StO.st (B : BW n D W br) (h : StO n c s) (hc : 0 ≤ c ∧ c ≤ 511) (hu : Stb n W br s u) : StO n (c + 1) (stS n D W br s u) := by
  have hn5 := B.1
  obtain ⟨h1, h2, h3, h4, h5, h6⟩ := h
  have nn := hu.nonneg B h1
  have a := sm_br B (f := stS n D W br s u) (fun i hi => by rw [stS_in hi]; exact ⟨nn i hi, hu.2.1 i hi⟩)
  have dr := hu.drain B h1
  refine ⟨fun i hi => by rw [stS_in hi]; exact nn i hi, by omega, ?_, ?_, ?_, fun i q i0 i5 => ?_⟩
  · rw [stS_five hn5]; omega
  · rw [stS_out (fun q => by have := q.2; omega) (by decide)]; exact h4
  · rw [stS_out (fun q => by have := q.2; omega) (by decide)]; exact h5
  · rw [stS_out q (by omega)]; exact h6 i q i0 i5
theorem StO.tip {x : Int} (B : BW n D W br) (h : StO n c s) (hc : 0 ≤ c ∧ c ≤ 511) (hx : In n x) (hb : br x ≤ s x) : StO n (c + 1) (stS n D W br s (u1 x)) := by
  have hn5 := B.1
  obtain ⟨h1, h2, h3, h4, h5, h6⟩ := h
  have hD := B.2.1 x hx
  have tot : sm n (stS n D W br s (u1 x)) = sm n s - D x := by
    rw [sm_congr (fun i hi => stS_in hi), sm_sub, Lp_sum B, sm_u1 hx]
  refine ⟨fun i hi => ?_, by omega, ?_, ?_, ?_, fun i q i0 i5 => ?_⟩
  · rw [stS_in hi, Lp_u1 B hx hi]
    have := h1 i hi
    have := (B.2.2.1 x i hx hi).1
    by_cases q : i = x
    · rw [if_pos q, q]; rw [q] at this; omega
    · rw [if_neg q]; omega
  · rw [stS_five hn5, sm_u1 hx]; omega
  · rw [stS_out (fun q => by have := q.2; omega) (by decide)]; exact h4
  · rw [stS_out (fun q => by have := q.2; omega) (by decide)]; exact h5
  · rw [stS_out q (by omega)]; exact h6 i q i0 i5
theorem StO.day {z : Int} (B : BW n D W br) (h : StO n c s) (hc : 0 ≤ c ∧ c ≤ 511) (r : DyR n D W br fs lk 1 s t z) (e7 : t 7 = dyS s) (h9 : s 6 < 999) : StO n (c + 1) t := by
  have hn5 := B.1
  obtain ⟨h1, h2, h3, h4, h5, h6⟩ := h
  obtain ⟨r1, r2, r3, r4, r5⟩ := r.rng B h1 h2
  have r7 := dyS_rng (s := s)
  obtain ⟨u, hu, hz, hs⟩ := r
  have a := sm_br B (f := t) (fun i hi => ⟨r1 i hi, by
    rw [hs i hi.1 (by have := hi.2; omega), if_pos hi]; exact hu.2.1 i hi⟩)
  refine ⟨r1, by omega, by omega, by omega, by omega, fun i q i0 i5 => ?_⟩
  rw [hs i i0 (by omega), if_neg q, if_neg (by omega), if_neg (by omega)]
  exact h6 i q i0 i5
theorem IvD.kept (h : IvD n c m) (hn : n ≤ 5) (k1 : KX2 s m m1) (k2 : KM2 t m1 m2) (e : ∀ i, 0 ≤ i → i < 8 → s i = t i) (S : StO n (c + 1) s) : IvD n (c + 1) m2 := by
  obtain ⟨hE, hS, hAR, hJ, hBox⟩ := h
  have hAR2 := hAR.keep2 hE k1 k2
  obtain ⟨f1, x1, x2, x3, x4⟩ := k1
  obtain ⟨f2, y1, y2, y3, y4⟩ := k2
  obtain ⟨⟨a0, aL, L40, e45, e46⟩, hb, hr, hq⟩ := hAR
  have g25 : m2 25 = s := (f2.1 25 (by decide) (by decide)).trans x1
  have g29 : m2 29 = m1 29 := f2.1 29 (by decide) (by decide)
  have g28 : m2 28 = m1 28 := f2.1 28 (by decide) (by decide)
  have g30 : m2 30 = m 30 := (f2.1 30 (by decide) (by decide)).trans (f1.1 30 (by decide) (by decide))
  have g31 : m2 31 = m 31 := (f2.1 31 (by decide) (by decide)).trans (f1.1 31 (by decide) (by decide))
  have g09 : m2 109 = m 109 := (f2.1 109 (by decide) (by decide)).trans (f1.1 109 (by decide) (by decide))
  have g10 : m2 110 = m 110 := (f2.1 110 (by decide) (by decide)).trans (f1.1 110 (by decide) (by decide))
  refine ⟨fun i i0 i8 => by rw [g25, y1]; exact e i i0 i8, by rw [g25]; exact S, hAR2, fun j j0 j1 => ?_, fun x x0 x1 => ?_⟩
  · rw [g28, x3] at j1
    generalize m 28 1 = a at *
    by_cases hj : j = min 40 (a + 1)
    · refine S.congr hn (fun i i0 i8 => ?_)
      show s i = m2 29 (8 * j + i)
      rw [g29, x4 _ (by omega) (by omega)]
      unfold kpA
      by_cases ha : a ≥ 40
      · rw [if_pos ha, if_pos (by omega)]
        congr 1; omega
      · rw [if_neg ha, if_pos (by omega)]
        congr 1; omega
    · by_cases ha : a ≥ 40
      · refine ((hJ (j + 1) (by omega) (by omega)).mono (by omega)).congr hn (fun i i0 i8 => ?_)
        show m 29 (8 * (j + 1) + i) = m2 29 (8 * j + i)
        rw [g29, x4 _ (by omega) (by omega)]
        unfold kpA
        rw [if_pos ha, if_neg (by omega)]
        congr 1; omega
      · refine ((hJ j (by omega) (by omega)).mono (by omega)).congr hn (fun i i0 i8 => ?_)
        show m 29 (8 * j + i) = m2 29 (8 * j + i)
        rw [g29, x4 _ (by omega) (by omega)]
        unfold kpA
        rw [if_neg ha, if_neg (by omega)]
  · rw [g30, g31, g09, g10]
    exact ⟨(hBox x x0 x1).1, fun q => ⟨((hBox x x0 x1).2 q).1, ((hBox x x0 x1).2 q).2.mono (by omega)⟩⟩
theorem Ivp.kept (h : Ivp n D W br b b' fs lk hd c m) (k1 : KX2 s m m1) (k2 : KM2 t m1 m2) (e : ∀ i, 0 ≤ i → i < 8 → s i = t i) (S : StO n (c + 1) s) : Inv (c + 1) m2 := h.d2 k1.1 k2.1 (by decide) ⟨by decide, by decide⟩ (by decide) (by decide) (by decide) (h.2.2.2.1.kept h.1.1.1 k1 k2 e S)
theorem IvD.gone {t' : Int} (h : IvD n c m) (hn : n ≤ 5) (ht : 0 ≤ t' ∧ t' ≤ m 28 2) (h1 : UX t' m m1) (f2 : Fro 70 [90, 96] [45, 46] m1 m2) (hA : AR m2) (he : ∀ i, 0 ≤ i → i < 8 → m2 25 i = m2 90 i) : IvD n (c + 1) m2 := by
  obtain ⟨hE, hS, hAR, hJ, hBox⟩ := h
  obtain ⟨f1, x1, x2⟩ := h1
  have g25 : m2 25 = m1 25 := f2.1 25 (by decide) (by decide)
  have g28 : m2 28 = m1 28 := f2.1 28 (by decide) (by decide)
  have g29 : m2 29 = m 29 := (f2.1 29 (by decide) (by decide)).trans (f1.1 29 (by decide) (by decide))
  have g30 : m2 30 = m 30 := (f2.1 30 (by decide) (by decide)).trans (f1.1 30 (by decide) (by decide))
  have g31 : m2 31 = m 31 := (f2.1 31 (by decide) (by decide)).trans (f1.1 31 (by decide) (by decide))
  have g09 : m2 109 = m 109 := (f2.1 109 (by decide) (by decide)).trans (f1.1 109 (by decide) (by decide))
  have g10 : m2 110 = m 110 := (f2.1 110 (by decide) (by decide)).trans (f1.1 110 (by decide) (by decide))
  refine ⟨he, ?_, hA, fun j j0 j1 => ?_, fun x x0 x1 => ?_⟩
  · refine ((hJ t' ht.1 ht.2).mono (by omega)).congr hn (fun i i0 i8 => ?_)
    show m 29 (8 * t' + i) = m2 25 i
    rw [g25, x2 i, if_pos ⟨i0, i8⟩]
  · rw [g28, f1.2 2 (by decide)] at j1
    rw [g29]
    exact (hJ j j0 j1).mono (by omega)
  · rw [g30, g31, g09, g10]
    exact ⟨(hBox x x0 x1).1, fun q => ⟨((hBox x x0 x1).2 q).1, ((hBox x x0 x1).2 q).2.mono (by omega)⟩⟩
end Keep4
