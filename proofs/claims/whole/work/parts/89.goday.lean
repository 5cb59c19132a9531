/-! the day of the reference, day of both -/
/-- as KX and KM, by a day -/
def KX2 (s : Int → Int) (m m' : MM) : Prop :=
  Fro 28 [15, 24, 25, 29, 32, 33, 34] [1, 2] m m' ∧ m' 25 = s ∧ m' 28 1 = min 40 (m 28 1 + 1) ∧ m' 28 2 = min 40 (m 28 1 + 1) ∧ ∀ k, 0 ≤ k → k < 328 → m' 29 k = kpA (m 28 1) s (m 29) k
def KM2 (s : Int → Int) (m m' : MM) : Prop :=
  Fro 70 [89, 90, 93, 94, 96] [34, 41, 45, 46] m m' ∧ m' 90 = s ∧ m' 70 45 = min 40 (m 70 45 + 1) ∧ m' 70 46 = 0 ∧ ∀ k, 0 ≤ k → m' 96 k = kpB (m 70 45) (m 90) (m 96) k
theorem AR.keep2 {m m1 m2 : MM} {s t : Int → Int} (h : AR m) (hs : ∀ i, 0 ≤ i → i < 8 → m 25 i = m 90 i) (h1 : KX2 s m m1) (h2 : KM2 t m1 m2) : AR m2 := by
  obtain ⟨⟨a0, aL, L40, e45, e46⟩, hb, hr, -⟩ := h
  obtain ⟨f1, x25, x1, x2, x3⟩ := h1
  obtain ⟨f2, y90, y45, y46, y3⟩ := h2
  have z28 : m2 28 = m1 28 := f2.1 28 (by decide) (by decide)
  have z29 : m2 29 = m1 29 := f2.1 29 (by decide) (by decide)
  have z25 : m2 25 = s := (f2.1 25 (by decide) (by decide)).trans x25
  have w70 : m1 70 = m 70 := f1.1 70 (by decide) (by decide)
  have w90 : m1 90 = m 90 := f1.1 90 (by decide) (by decide)
  have w96 : m1 96 = m 96 := f1.1 96 (by decide) (by decide)
  rw [w70, e45] at y45 y3
  rw [w90, w96] at y3
  have p1 : m2 28 1 = min 40 (m 28 1 + 1) := by rw [z28]; exact x1
  have p2 : m2 28 2 = min 40 (m 28 1 + 1) := by rw [z28]; exact x2
  refine ⟨⟨by omega, by omega, by omega, by omega, by omega⟩, fun i i0 i8 => ?_, fun k k0 k1 => ?_, fun k k0 k1 => absurd k1 (by omega)⟩
  · rw [z29, z25, p1, x3 _ (by omega) (by omega)]
    by_cases c : m 28 1 ≥ 40
    · have e : min 40 (m 28 1 + 1) = 40 := by omega
      have hk : kpA (m 28 1) s (m 29) (8 * 40 + i) = if 320 ≤ 8 * 40 + i then s (8 * 40 + i - 320) else m 29 (8 * 40 + i + 8) := if_pos c
      rw [e, hk, if_pos (by omega)]
      exact congrArg s (by omega)
    · have e : min 40 (m 28 1 + 1) = m 28 1 + 1 := by omega
      have hk : kpA (m 28 1) s (m 29) (8 * (m 28 1 + 1) + i) = if 8 * (m 28 1 + 1) ≤ 8 * (m 28 1 + 1) + i ∧ 8 * (m 28 1 + 1) + i < 8 * (m 28 1 + 1) + 8 then s (8 * (m 28 1 + 1) + i - 8 * (m 28 1 + 1)) else m 29 (8 * (m 28 1 + 1) + i) := if_neg c
      rw [e, hk, if_pos (by omega)]
      exact congrArg s (by omega)
  · rw [p1] at k1
    rw [z29, x3 k k0 (by omega), y3 k k0]
    by_cases c : m 28 1 ≥ 40
    · have hk : kpA (m 28 1) s (m 29) k = if 320 ≤ k then s (k - 320) else m 29 (k + 8) := if_pos c
      have hk2 : kpB (m 28 1) (m 90) (m 96) k = if 320 ≤ k then m 96 k else if 312 ≤ k then m 90 (k - 312) else m 96 (k + 8) := if_pos (by omega)
      rw [hk, hk2, if_neg (show ¬ 320 ≤ k by omega), if_neg (show ¬ 320 ≤ k by omega)]
      by_cases c2 : 312 ≤ k
      · rw [if_pos c2, ← hs _ (by omega) (by omega), ← hb _ (by omega) (by omega)]
        exact congrArg (m 29) (by omega)
      · rw [if_neg c2]
        exact hr (k + 8) (by omega) (by omega)
    · have hk : kpA (m 28 1) s (m 29) k = if 8 * (m 28 1 + 1) ≤ k ∧ k < 8 * (m 28 1 + 1) + 8 then s (k - 8 * (m 28 1 + 1)) else m 29 k := if_neg c
      have hk2 : kpB (m 28 1) (m 90) (m 96) k = if 8 * m 28 1 ≤ k ∧ k < 8 * m 28 1 + 8 then m 90 (k - 8 * m 28 1) else m 96 k := if_neg (by omega)
      rw [hk, hk2, if_neg (show ¬ (8 * (m 28 1 + 1) ≤ k ∧ k < 8 * (m 28 1 + 1) + 8) by omega)]
      by_cases c2 : 8 * m 28 1 ≤ k ∧ k < 8 * m 28 1 + 8
      · rw [if_pos c2, ← hs _ (by omega) (by omega), ← hb _ (by omega) (by omega)]
        exact congrArg (m 29) (by omega)
      · rw [if_neg c2]
        exact hr k k0 (by omega)
/-- whether the reference was told what falls -/
def MT (fs : List Int) (m : MM) : Prop := (bt (m 78 (m 70 28)) 0 = 1 ∧ fW fs 0 1 ∧ MF fs m) ∨ (bt (m 78 (m 70 28)) 0 ≠ 1 ∧ fs = [])
theorem MF.fro {fs : List Int} {m m' : MM} (F : MF fs m) {S : List Nat} {I : List Int} (h : Fro 70 S I m m') (h1 : 82 ∉ S) (h2 : 83 ∉ S) (h3 : 85 ∉ S) (h4 : 86 ∉ S) (h5 : 28 ∉ I) : MF fs m' := by
  unfold MF at F ⊢
  rw [h.2 28 h5, h.1 82 h1 (by decide), h.1 83 h2 (by decide), h.1 85 h3 (by decide), h.1 86 h4 (by decide)]
  exact F
theorem MT.fro {fs : List Int} {m m' : MM} (F : MT fs m) {S : List Nat} {I : List Int} (h : Fro 70 S I m m') (h0 : 78 ∉ S) (h1 : 82 ∉ S) (h2 : 83 ∉ S) (h3 : 85 ∉ S) (h4 : 86 ∉ S) (h5 : 28 ∉ I) : MT fs m' := by
  unfold MT
  rw [h.2 28 h5, h.1 78 h0 (by decide)]
  rcases F with ⟨a, b, c⟩ | ⟨a, b⟩
  · exact Or.inl ⟨a, b, c.fro h h1 h2 h3 h4 h5⟩
  · exact Or.inr ⟨a, b⟩
section DayM
variable {l : Launch} {G : GT} {d : Nat} {m : MM} {b : Nat} {n : Nat} {D : Int → Int} {W : Int → Int → Int} {br : Int → Int} {fs : List Int} {lk y : Int}
theorem DyR.rng (B : BW n D W br) {s s' : Int → Int} {z : Int} (hs : ∀ i, In n i → 0 ≤ s i) {N : Int} (hN : sm n s ≤ N) (h : DyR n D W br fs lk y s s' z) : (∀ i, In n i → 0 ≤ s' i) ∧ sm n s' ≤ N + 101 ∧ (0 ≤ z ∧ z ≤ 30 * (N + 101)) ∧ (s 5 ≤ s' 5 ∧ s' 5 ≤ s 5 + (N + 101)) ∧ s' 6 = s 6 + 1 := by
  have hn5 := B.1
  obtain ⟨u, hu, hz, he⟩ := h
  have hH : ∀ i, In n i → 0 ≤ dyH n br fs lk y s i := fun i hi => by
    have := (dyH_rng (br := br) (fs := fs) (lk := lk) (y := y) hi (hs i hi)).1
    have := hs i hi
    omega
  have hNH := dyH_sum (br := br) (fs := fs) (lk := lk) (y := y) hn5 hs hN
  have hin : ∀ i, In n i → s' i = dyH n br fs lk y s i - Lp n W br u i := fun i hi => by rw [he i hi.1 (by omega), if_pos hi]
  have hdr := hu.drain B hH
  have hsum := (hu.way B hH).sum B hH hNH
  have hu0 := sm_nonneg hu.1
  have e5 := he 5 (by decide) (by decide)
  rw [if_neg (by omega), if_pos rfl] at e5
  have e6 := he 6 (by decide) (by decide)
  rw [if_neg (by omega), if_neg (by decide), if_pos rfl] at e6
  refine ⟨fun i hi => by rw [hin i hi]; exact hu.nonneg B hH i hi, ?_, ⟨by omega, by omega⟩, ⟨by omega, by omega⟩, e6⟩
  rw [sm_congr hin, sm_sub, Lp_sum B]
  omega
theorem c_goDay (B : BW n D W br) (X : BM n D W br m) (F : MT fs m) (hlk : m 76 (m 70 28) = lk) (hg : ∀ i, In n i → 0 ≤ m 90 i) {N : Int} (hN : sm n (m 90) ≤ N) (hN3 : N + 101 ≤ 1000000) (hd : 0 ≤ m 90 5 ∧ m 90 5 ≤ 1000000000) (h6 : 0 ≤ m 90 6 ∧ m 90 6 ≤ 100000) (h7 : 0 ≤ m 90 7 ∧ m 90 7 ≤ 1000) (hy : y = 0 ∨ y = 1) :
    CI l G Y_M_goDay (d + 3) [.inr (.inr 70), .inl y] m (fun z m' => Fro 70 [89, 90, 93, 94] [34, 41] m m' ∧ DyR n D W br fs lk y (m 90) (m' 90) z ∧ m' 90 7 = if y = 1 then dyS (m 90) else m 90 7) := by
  have hn5 := B.1
  refine e_M_goDay y (fun _ _ => ⟨d + 1, _, by omega, c_layNow hn5 X, fun m0 h0 _ => ?_⟩)
  obtain ⟨f0, g0, -⟩ := h0
  generalize hQ : (fun (z : Int) (m' : MM) => Fro 70 [89, 90, 93, 94] [34, 41] m m' ∧ DyR n D W br fs lk y (m 90) (m' 90) z ∧ m' 90 7 = if y = 1 then dyS (m 90) else m 90 7) = Q
  have tail : ∀ m1 : MM, Fro 70 [89, 90, 93, 94] [34, 41] m m1 → (∀ i, In n i → m1 93 i = dyH n br fs lk y (m 90) i) → (∀ i, m1 90 i = if i = 7 then (if y = 1 then dyS (m 90) else m 90 7) else m 90 i) →
      (∃ (e6 : Nat) (P7 : Int → MM → Prop), e6 < d + 3 ∧ CI l G Y_M_settleHeap e6 [.inr (.inr 70)] m1 P7 ∧ (∀ z12 m13, P7 z12 m13 → inR z12 → wfM m13 → (∃ (e17 : Nat) (P18 : MM → Prop), e17 < d + 3 ∧ CV l G Y_M_bring e17 [.inr (.inr 70)] m13 P18 ∧ (∀ m24, P18 m24 → wfM m24 → ((inR ((m24 90 6) + 1)) ∧ (∀ m30, m30 = up m24 90 6 ((m24 90 6) + 1) → (Q z12 m30))))))) := by
    intro m1 f hv h9
    have X1 := X.fro f (by decide) (by decide) (by decide) (by decide) (by decide)
    have hH : ∀ i, In n i → 0 ≤ dyH n br fs lk y (m 90) i := fun i hi => by
      have := (dyH_rng (br := br) (fs := fs) (lk := lk) (y := y) hi (hg i hi)).1
      have := hg i hi
      omega
    have hNH := dyH_sum (br := br) (fs := fs) (lk := lk) (y := y) hn5 hg hN
    refine ⟨d + 2, _, by omega, c_settleHeap B X1 (fun i hi => by rw [hv i hi]; exact hH i hi) (N := N + 101) (by rw [sm_congr hv]; exact hNH) hN3, fun z m2 h2 _ _ => ?_⟩
    obtain ⟨u, hu, ⟨f2, g2, -, -, -, e2⟩, hz⟩ := h2
    have hu2 := hu.congr hv
    have hdr := hu2.drain B hH
    have X2 := X1.fro f2 (by decide) (by decide) (by decide) (by decide) (by decide)
    have e90 : m2 90 = m1 90 := f2.1 90 (by decide) (by decide)
    have e95 : m2 90 5 = m 90 5 := by rw [e90, h9 5, if_neg (by decide)]
    refine ⟨d + 1, _, by omega, c_bring hn5 X2 (by rw [e95, e2]; constructor <;> omega), fun m3 h3 _ => ?_⟩
    obtain ⟨f3, g3⟩ := h3
    have e36 : m3 90 6 = m 90 6 := by rw [g3 6, if_neg (by omega), if_neg (by decide), e90, h9 6, if_neg (by decide)]
    refine ⟨by omega, ?_⟩
    rintro m4 rfl
    subst hQ
    have f3' : Fro 70 [89, 90, 93, 94] [34, 41] m2 m3 := ⟨fun c hc _ => f3 c (by simp only [List.mem_cons, List.not_mem_nil, or_false] at hc ⊢; omega), fun i _ => by rw [f3 70 (by decide)]⟩
    refine ⟨Fro_up ((f.tr (f2.mono (by simp) (by simp))).tr f3') (by simp) (by decide), ⟨u, hu2, hz, fun i i0 i7 => ?_⟩, ?_⟩
    · rw [up_row]
      by_cases c6 : i = 6
      · rw [if_pos c6, e36, if_neg (by omega), if_neg (by omega), if_pos c6]
      · rw [if_neg c6, g3 i]
        by_cases c : In n i
        · rw [if_pos c, if_pos c, g2 i c, hv i c]
        · rw [if_neg c, if_neg c, if_neg c6]
          by_cases c5 : i = 5
          · rw [if_pos c5, if_pos c5, e95, e2]
          · rw [if_neg c5, if_neg c5, e90, h9 i, if_neg (by omega)]
    · rw [up_off (by decide), g3 7, if_neg (by omega), if_neg (by decide), e90, h9 7, if_pos rfl]
  have at153 : ∀ (p : Int) (m1 : MM), Fro 70 [89, 90, 93, 94] [34, 41] m m1 → (∀ i, In n i → m1 93 i = dyF n br fs (m 90) i) → (∀ i, m1 90 i = if i = 7 then (if y = 1 then dyS (m 90) else m 90 7) else m 90 i) → y = 1 → ((p = -1 ∧ ¬ (0 < n ∧ dyS (m 90) % 100 < lk)) ∨ (p = dyS (m 90) % n ∧ 0 < n ∧ dyS (m 90) % 100 < lk)) →
      Wq l G false Y_M_goDay (d + 3) (QI Q) 153 [(0, .inr (.inr 70))] [.inl p] m1 := by
    intro p m1 f hv h9 hy1 hp
    refine s_M_goDay_153 p (fun _ _ => ?_)
    rcases hp with ⟨rfl, hp⟩ | ⟨rfl, hp0, hp1⟩
    · refine ⟨fun _ => tail m1 f (fun i hi => ?_) h9, fun c => absurd (by decide) c⟩
      rw [hv i hi]
      unfold dyH dyL
      rw [if_pos hy1, if_neg hp]
    · have hpn : In n (dyS (m 90) % n) := ⟨Int.emod_nonneg _ (by omega), Int.emod_lt_of_pos _ (by omega)⟩
      have hcur := hv _ hpn
      have hc0 := dyF_rng (br := br) (fs := fs) hpn (hg _ hpn)
      have hc1 := hg _ hpn
      have hc2 := sm_term hg _ hpn
      refine ⟨fun c => absurd hpn.1 (by omega), fun _ => ⟨by omega, by omega, by omega, d, _, by omega, c_keptTo, fun z m2 hz _ _ => ⟨by omega, ?_⟩⟩⟩
      obtain ⟨rfl, rfl⟩ := hz
      rw [fal_kept (by decide)]
      rintro m3 rfl
      refine tail _ (Fro_up f (by simp) (by decide)) (fun i hi => ?_) (fun i => by rw [up_ne (by decide)]; exact h9 i)
      rw [up_row, hv i hi, hcur]
      have eH : dyH n br fs lk y (m 90) i = (if i = dyS (m 90) % n then fal (dyF n br fs (m 90) i) 1 else dyF n br fs (m 90) i) := by
        unfold dyH dyL
        rw [if_pos hy1, if_pos (show 0 < n ∧ dyS (m 90) % 100 < lk from ⟨hp0, hp1⟩)]
      rw [eH]
      show _ = (if i = dyS (m 90) % n then fal (dyF n br fs (m 90) i) 1 else dyF n br fs (m 90) i)
      by_cases q : i = dyS (m 90) % n
      · rw [if_pos q, if_pos q, q]
      · rw [if_neg q, if_neg q]
  have loop : ∀ (j : Nat) (i : Int) (m1 : MM), i + j = n → 0 ≤ i → Fro 70 [89, 93] [34] m m1 → (∀ t, In n t → m1 93 t = if t < i then dyF n br fs (m 90) t else m 90 t) →
      Wq l G false Y_M_goDay (d + 3) (QI Q) 6 [(0, .inr (.inr 70)), (1, .inl y), (2, .inl i)] [] m1 := by
    intro j
    induction j with
    | zero =>
      intro i m1 hij h0 f hv
      have X1 := X.fro f (by decide) (by decide) (by decide) (by decide) (by decide)
      have f' : Fro 70 [89, 90, 93, 94] [34, 41] m m1 := f.mono (by simp) (by simp)
      have e90 : m1 90 = m 90 := f.1 90 (by decide) (by decide)
      have hv' : ∀ t, In n t → m1 93 t = dyF n br fs (m 90) t := fun t ht => by rw [hv t ht, if_pos (by omega)]
      refine s_M_goDay_6 y i (fun _ _ _ => ⟨d, _, by omega, c_lots X1, fun z m2 hz _ _ => ?_⟩)
      obtain ⟨rfl, rfl⟩ := hz
      refine ⟨fun _ => ⟨fun c => tail m1 f' (fun t ht => ?_) (fun t => ?_), fun c => ?_⟩, fun c => absurd (show i ≥ (n : Int) by omega) c⟩
      · rw [hv' t ht]
        unfold dyH
        rw [if_neg (by omega)]
      · rw [e90, if_neg (show ¬ y = 1 by omega)]
        by_cases q : t = 7
        · rw [if_pos q, q]
        · rw [if_neg q]
      · have hy1 : y = 1 := by omega
        rw [e90]
        refine ⟨by omega, by omega, ?_⟩
        have eS : Int.tmod (137 * m 90 7 + 71) 1000 = dyS (m 90) := by
          rw [Int.tmod_eq_emod_of_nonneg (by omega), Int.mul_comm 137]
          rfl
        rw [eS]
        rintro m2 rfl
        have f2 : Fro 70 [89, 90, 93, 94] [34, 41] m (up m1 90 7 (dyS (m 90))) := Fro_up f' (by simp) (by decide)
        have hv2 : ∀ t, In n t → up m1 90 7 (dyS (m 90)) 93 t = dyF n br fs (m 90) t := fun t ht => by rw [up_ne (by decide)]; exact hv' t ht
        have h92 : ∀ t, up m1 90 7 (dyS (m 90)) 90 t = if t = 7 then (if y = 1 then dyS (m 90) else m 90 7) else m 90 t := fun t => by rw [up_row, if_pos hy1, e90]
        have elk2 : up m1 90 7 (dyS (m 90)) 76 (up m1 90 7 (dyS (m 90)) 70 28) = lk := by
          rw [up_ne (show (76 : Nat) ≠ 90 by decide), up_ne (show (70 : Nat) ≠ 90 by decide), f.1 76 (by decide) (by decide), f.2 28 (by decide)]
          exact hlk
        generalize up m1 90 7 (dyS (m 90)) = m2 at f2 hv2 h92 elk2
        have X2 := X.fro f2 (by decide) (by decide) (by decide) (by decide) (by decide)
        have e72 : m2 90 7 = dyS (m 90) := by rw [h92 7, if_pos rfl, if_pos hy1]
        have hsr := dyS_rng (s := m 90)
        have mod1 : Int.tmod (dyS (m 90)) 100 = dyS (m 90) % 100 := Int.tmod_eq_emod_of_nonneg hsr.1
        have mod2 : Int.tmod (dyS (m 90)) (n : Int) = dyS (m 90) % n := Int.tmod_eq_emod_of_nonneg hsr.1
        have hbk := X2.1
        refine ⟨d, _, by omega, c_lots X2, fun z m3 hz _ _ => ?_⟩
        obtain ⟨rfl, rfl⟩ := hz
        rw [e72, mod1, elk2]
        refine ⟨fun c2 => at153 _ m2 f2 hv2 h92 hy1 (Or.inl ⟨rfl, fun q => by omega⟩), fun c2 => ⟨by omega, fun c3 => at153 _ m2 f2 hv2 h92 hy1 (Or.inl ⟨rfl, fun q => by omega⟩), fun c3 => ⟨d, _, by omega, c_lots X2, fun z m3 hz _ _ => ?_⟩⟩⟩
        obtain ⟨rfl, rfl⟩ := hz
        rw [mod2]
        exact ⟨by omega, at153 _ m2 f2 hv2 h92 hy1 (Or.inr ⟨rfl, by omega, by omega⟩)⟩
    | succ j ih =>
      intro i m1 hij h0 f hv
      have hi : In n i := by omega
      have X1 := X.fro f (by decide) (by decide) (by decide) (by decide) (by decide)
      have hgi := hg i hi
      have hs1 := sm_term hg i hi
      refine s_M_goDay_6 y i (fun _ _ _ => ⟨d, _, by omega, c_lots X1, fun z m2 hz _ _ => ?_⟩)
      obtain ⟨rfl, rfl⟩ := hz
      refine ⟨fun c => absurd c (by omega), fun _ => ?_⟩
      rintro m2 rfl
      have f2 : Fro 70 [89, 93] [34] m (up m1 70 34 i) := Fro_upo f (by simp)
      have hv2 : ∀ t, In n t → up m1 70 34 i 93 t = if t < i then dyF n br fs (m 90) t else m 90 t := fun t ht => by rw [up_ne (by decide)]; exact hv t ht
      have e34 : up m1 70 34 i 70 34 = i := up_at
      generalize up m1 70 34 i = m2 at f2 hv2 e34
      have X2 := X.fro f2 (by decide) (by decide) (by decide) (by decide) (by decide)
      have F2 := F.fro f2 (by decide) (by decide) (by decide) (by decide) (by decide) (by decide)
      have e90 : m2 90 = m 90 := f2.1 90 (by decide) (by decide)
      have hbk := X2.1
      have e93 : m2 93 i = m 90 i := by rw [hv2 i hi, if_neg (by omega)]
      have fin : ∀ (v : Int) (m3 : MM), 0 ≤ v → v ≤ 20 → v = max 0 (min 20 (fV fs (m 90 i) (br i) i (m 90 6))) → Fro 70 [89, 93] [34] m m3 → m3 93 = m2 93 →
          ((0 ≤ i ∧ i < (5 : Int)) ∧ ((inR ((m3 93 i) + v)) ∧ ((0 ≤ i ∧ i < (5 : Int)) ∧ (∃ (e123 : Nat) (P124 : Int → MM → Prop), e123 < d + 3 ∧ CI l G Y_M_keptTo e123 [.inl ((m3 93 i) + v), .inl (m3 93 i)] m3 P124 ∧ (∀ z129 m130, P124 z129 m130 → inR z129 → wfM m130 → ((0 ≤ i ∧ i < (5 : Int)) ∧ (∀ m134, m134 = up m130 93 i z129 → ((inR (i + 1)) ∧ (Wq l G false Y_M_goDay (d + 3) (QI Q) 6 [(0, .inr (.inr 70)), (1, .inl y), (2, .inl (i + 1))] [] m134))))))))) := by
        intro v m3 v0 v20 hvv f3 e3
        rw [e3, e93]
        refine ⟨by omega, by omega, by omega, d, _, by omega, c_keptTo, fun z m4 hz _ _ => ⟨by omega, ?_⟩⟩
        obtain ⟨rfl, rfl⟩ := hz
        rw [fal_kept v0]
        rintro m4 rfl
        refine ⟨by omega, ih (i + 1) _ (by omega) (by omega) (Fro_up f3 (by simp) (by decide)) (fun t ht => ?_)⟩
        rw [up_row, e3, hv2 t ht]
        by_cases c : t = i
        · rw [if_pos c, if_pos (by omega), c]
          unfold dyF
          rw [if_pos hi, hvv]
        · rw [if_neg c]
          by_cases c2 : t < i
          · rw [if_pos c2, if_pos (by omega)]
          · rw [if_neg c2, if_neg (by omega)]
      refine ⟨by omega, d, _, by omega, c_bit, fun z m3 hz _ _ => ?_⟩
      obtain ⟨rfl, rfl⟩ := hz
      rcases F2 with ⟨t1, t2, t3⟩ | ⟨t1, t2⟩
      · rw [if_pos t1]
        refine ⟨fun c => absurd c (by decide), fun _ => ⟨d + 2, _, by omega, c_comes hn5 X2 (by rw [e34]; exact hi) t3 t2, fun z m3 hz _ _ => ?_⟩⟩
        obtain ⟨f3, hz⟩ := hz
        rw [e34, e90] at hz
        refine ⟨d, _, by omega, c_held (by decide), fun z2 m4 hz2 _ _ => ?_⟩
        obtain ⟨rfl, rfl⟩ := hz2
        refine fin _ m3 (by omega) (by omega) (by rw [hz]) (f2.tr ⟨fun c hc _ => f3 c (by simp only [List.mem_cons, List.not_mem_nil, or_false] at hc ⊢; omega), fun t _ => by rw [f3 70 (by decide)]⟩) (f3 93 (by decide))
      · rw [if_neg t1]
        refine ⟨fun _ => fin 0 m2 (by omega) (by omega) ?_ f2 rfl, fun c => absurd rfl c⟩
        rw [t2]
        rfl
  exact loop n 0 m0 (by omega) (by omega) (f0.mono (by simp) (by simp)) (fun t ht => by rw [if_neg (by omega)]; exact g0 t ht)
end DayM
