/-! the law, call by call: what changes the heap, the sights, the tape -/
section Topple2
variable {l : Launch} {G : GT} {d : Nat} {m : MM} {b : Nat} {n : Nat} {D : Int → Int} {W : Int → Int → Int} {br : Int → Int}
theorem c_toppleM2 (B : BW n D W br) (X : BM n D W br m) (hg : ∀ i, In n i → 0 ≤ m 90 i ∧ m 90 i ≤ 1000000) (hd : 0 ≤ m 90 5 ∧ m 90 5 ≤ 1000000000) (ha : 0 ≤ m 70 45 ∧ m 70 45 ≤ 40) {x : Int} :
    CI l G Y_M_topple (d + 2) [.inr (.inr 70), .inl x] m (fun z m' => (In n x ∧ br x ≤ m 90 x → z = stS n D W br (m 90) (u1 x) x ∧ KM (stS n D W br (m 90) (u1 x)) m m') ∧ (¬ (In n x ∧ br x ≤ m 90 x) → z = -1 ∧ m = m')) := by
  have hn5 := B.1
  refine e_M_topple x (fun _ _ => ⟨d + 1, _, by omega, c_isPlate B.1 X, fun z m1 hz _ _ => ?_⟩)
  obtain ⟨rfl, rfl⟩ := hz
  by_cases h : In n x
  · have hD := B.2.1 x h
    rw [if_pos h, Int.zero_add]
    refine ⟨fun c => absurd c (by decide), fun _ => ⟨by omega, by omega, d, _, by omega, c_brimOf hn5 X h, fun z m1 hz _ _ => ?_⟩⟩
    obtain ⟨rfl, rfl⟩ := hz
    refine ⟨fun c => ⟨d, _, by omega, c_keepAct ha, fun m1 h1 _ => ?_⟩, fun c => ⟨fun q => absurd q.2 (by omega), fun _ => ⟨rfl, rfl⟩⟩⟩
    obtain ⟨f1, k1, k2, k3⟩ := h1
    have X1 : BM n D W br m1 := X.fro f1 (by decide) (by decide) (by decide) (by decide) (by decide)
    have a1 : m1 90 = m 90 := f1.1 90 (by decide) (by decide)
    refine ⟨d + 1, _, by omega, c_layNow hn5 X1, fun m2 h2 _ => ?_⟩
    obtain ⟨f2, g2, -⟩ := h2
    rw [a1] at g2
    rintro m3 rfl
    have f3 : Fro 70 [93] [41] m1 (up m2 70 41 0) := Fro_upo (f2.mono (fun _ q => q) (fun _ q => absurd q (by simp))) (by simp)
    have X3 : BM n D W br (up m2 70 41 0) := X1.fro f3 (by decide) (by decide) (by decide) (by decide) (by decide)
    refine ⟨d + 1, _, by omega, c_toppleW B X3 h (by decide) (fun i hi => ?_), fun m4 h4 _ => ?_⟩
    · have := hg i hi
      rw [up_ne (by decide), g2 i hi]; omega
    obtain ⟨f4, q1, -, q5⟩ := h4
    have X4 : BM n D W br m4 := X3.fro f4 (by decide) (by decide) (by decide) (by decide) (by decide)
    have a4 : m4 90 = m 90 := (f4.1 90 (by decide) (by decide)).trans ((f3.1 90 (by decide) (by decide)).trans a1)
    have e4 : m4 70 41 = D x := by
      rw [q5, up_at, w32_id (by unfold inR; omega)]; omega
    refine ⟨d + 1, _, by omega, c_bring hn5 X4 (by rw [a4, e4]; constructor <;> omega), fun m5 h5 _ => ?_⟩
    obtain ⟨f5, g5⟩ := h5
    have e : m5 90 = stS n D W br (m 90) (u1 x) := by
      funext i
      rw [g5 i]
      unfold stS
      by_cases ci : In n i
      · rw [if_pos ci, if_pos ci, Lp_u1 B h ci, q1 i ci, up_ne (by decide), g2 i ci]; omega
      · rw [if_neg ci, if_neg ci, a4, e4, sm_u1 h]
    have e70 : m5 70 = m4 70 := f5 70 (by decide)
    have e96 : m5 96 = m1 96 := (f5 96 (by decide)).trans ((f4.1 96 (by decide) (by decide)).trans (f3.1 96 (by decide) (by decide)))
    refine ⟨by omega, by omega, fun _ => ⟨by rw [e], ⟨⟨fun c hc hc2 => ?_, fun i hi => ?_⟩, e, ?_, ?_, fun k k0 => ?_⟩⟩, fun q => absurd ⟨h, c⟩ q⟩
    · simp only [List.mem_cons, List.not_mem_nil, or_false] at hc
      rw [f5 c (by simp only [List.mem_cons, List.not_mem_nil, or_false]; omega), f4.1 c (by simp only [List.mem_cons, List.not_mem_nil, or_false]; omega) hc2, f3.1 c (by simp only [List.mem_cons, List.not_mem_nil, or_false]; omega) hc2, f1.1 c (by simp only [List.mem_cons, List.not_mem_nil, or_false]; omega) hc2]
    · simp only [List.mem_cons, List.not_mem_nil, or_false] at hi
      rw [e70, f4.2 i (by simp only [List.mem_cons, List.not_mem_nil, or_false]; omega), f3.2 i (by simp only [List.mem_cons, List.not_mem_nil, or_false]; omega), f1.2 i (by simp only [List.mem_cons, List.not_mem_nil, or_false]; omega)]
    · rw [e70, f4.2 45 (by decide), f3.2 45 (by decide)]; exact k1
    · rw [e70, f4.2 46 (by decide), f3.2 46 (by decide)]; exact k2
    · rw [e96, k3 k, if_pos k0]
  · rw [if_neg h]
    exact ⟨fun _ => ⟨fun q => absurd q.1 h, fun _ => ⟨rfl, rfl⟩⟩, fun c => absurd rfl c⟩
end Topple2
section Law5
variable {l : Launch} {G : GT} {m : MM} {Q : Option MV → MM → Nat → Prop}
theorem l_drop {x3 c : Int} (hx : 0 ≤ x3 ∧ x3 + 6 ≤ (g_L G : Int)) (hL : g_L G ≤ 3072) (hI : Inv c m) (hc : 0 ≤ c ∧ c ≤ 511) (L : ∀ m1, Inv (c + 1) m1 → Wq l G true Y_Law 400 Q 1542 [(0, .inr (.inr 1000)), (1, .inr (.inr 0)), (2, .inr (.inr 70)), (3, .inl x3)] [] m1) : Wq l G true Y_Law 400 Q 488 [(0, .inr (.inr 1000)), (1, .inr (.inr 0)), (2, .inr (.inr 70)), (3, .inl x3)] [] m := by
  obtain ⟨n, D, W, br, b, b', fs, lk, hd, hI⟩ := hI
  have B := hI.1.1
  have X := hI.1.2.1
  have hn5 := B.1
  obtain ⟨hE, hS, hAR, hJ, hBox⟩ := hI.2.2.2.1
  have hg := hS.1
  have hN := hS.2.1
  have hEn : ∀ i, In n i → m 25 i = m 90 i := fun i hi => hE i hi.1 (by have := hi.2; omega)
  have hN2 : sm n (m 90) ≤ 495 + 20 * c := by rw [← sm_congr hEn]; exact hN
  have hg2 : ∀ i, In n i → 0 ≤ m 90 i := fun i hi => by rw [← hEn i hi]; exact hg i hi
  obtain ⟨t1, t2⟩ := hS.one hn5 (by omega)
  have hgu : ∀ i, In n i → 0 ≤ m 25 i ∧ m 25 i ≤ 1000000 := fun i hi => ⟨hg i hi, by have := t1 i hi; omega⟩
  have hgv : ∀ i, In n i → 0 ≤ m 90 i ∧ m 90 i ≤ 1000000 := fun i hi => by rw [← hEn i hi]; exact hgu i hi
  have hA1 := hAR.1
  have ha : 0 ≤ m 28 1 ∧ m 28 1 ≤ 40 := by omega
  have hav : 0 ≤ m 70 45 ∧ m 70 45 ≤ 40 := by omega
  have e5 := hE 5 (by decide) (by decide)
  have e6 := hE 6 (by decide) (by decide)
  have e7 := hE 7 (by decide) (by decide)
  have hd5 : 0 ≤ m 25 5 ∧ m 25 5 ≤ 900000000 := by have := hS.2.2.1; omega
  have hd5v : 0 ≤ m 90 5 ∧ m 90 5 ≤ 900000000 := by rw [← e5]; exact hd5
  have hd6 := hS.2.2.2.1
  have hd7 := hS.2.2.2.2.1
  refine s_Law_488 x3 (fun _ _ => ⟨by unfold inR; omega, by omega, by unfold inR; omega, by omega, 2, _, by decide, c_dropX (d := 0) B X hgu ha, fun z m1 h1 _ _ => ?_⟩)
  by_cases q : In n (g_x G ((x3 + 1)).toNat) ∧ 1 ≤ (g_x G ((x3 + 2)).toNat) ∧ (g_x G ((x3 + 2)).toNat) ≤ 20 ∧ m 25 (g_x G ((x3 + 1)).toNat) + (g_x G ((x3 + 2)).toNat) ≤ 999
  · obtain ⟨e1, k1⟩ := h1.1 q
    obtain ⟨A1, B1, e70⟩ := hI.mid k1.1 (by decide) ⟨by decide, by decide⟩ (by decide)
    have e90 : m1 90 = m 90 := k1.1.1 90 (by decide) (by decide)
    refine ⟨by unfold inR; omega, by omega, by unfold inR; omega, by omega, 2, _, by decide, c_dropM (d := 0) B A1.2.2.1 (by rw [e90]; exact hgv) (by rw [e70]; exact hav), fun z2 m2 h2 _ _ => ?_⟩
    obtain ⟨e2, k2⟩ := h2.1 ⟨q.1, q.2.1, q.2.2.1, by rw [e90, ← hEn _ q.1]; exact q.2.2.2⟩
    have I2 := hI.kept k1.two k2.two (fun i i0 i8 => by unfold upS; rw [e90, hE i i0 i8, hEn _ q.1]) (hS.up hn5 q.1 (by have := hg _ q.1; omega) (by omega))
    refine ⟨fun _ => L _ I2, fun r => r ?_⟩
    rw [e1, e2, e90, hEn _ q.1]
  · obtain ⟨e1, rfl⟩ := h1.2 q
    refine ⟨by unfold inR; omega, by omega, by unfold inR; omega, by omega, 2, _, by decide, c_dropM (d := 0) B hI.1.2.2.1 hgv hav, fun z2 m2 h2 _ _ => ?_⟩
    obtain ⟨e2, rfl⟩ := h2.2 (fun r => q ⟨r.1, r.2.1, r.2.2.1, by rw [hEn _ r.1]; exact r.2.2.2⟩)
    exact ⟨fun _ => L _ hI.up1, fun r => r (by rw [e1, e2])⟩
theorem l_sweep {x3 c : Int} (hx : 0 ≤ x3 ∧ x3 + 6 ≤ (g_L G : Int)) (hL : g_L G ≤ 3072) (hI : Inv c m) (hc : 0 ≤ c ∧ c ≤ 511) (L : ∀ m1, Inv (c + 1) m1 → Wq l G true Y_Law 400 Q 1542 [(0, .inr (.inr 1000)), (1, .inr (.inr 0)), (2, .inr (.inr 70)), (3, .inl x3)] [] m1) : Wq l G true Y_Law 400 Q 557 [(0, .inr (.inr 1000)), (1, .inr (.inr 0)), (2, .inr (.inr 70)), (3, .inl x3)] [] m := by
  obtain ⟨n, D, W, br, b, b', fs, lk, hd, hI⟩ := hI
  have B := hI.1.1
  have X := hI.1.2.1
  have hn5 := B.1
  obtain ⟨hE, hS, hAR, hJ, hBox⟩ := hI.2.2.2.1
  have hg := hS.1
  have hN := hS.2.1
  have hEn : ∀ i, In n i → m 25 i = m 90 i := fun i hi => hE i hi.1 (by have := hi.2; omega)
  have hN2 : sm n (m 90) ≤ 495 + 20 * c := by rw [← sm_congr hEn]; exact hN
  have hg2 : ∀ i, In n i → 0 ≤ m 90 i := fun i hi => by rw [← hEn i hi]; exact hg i hi
  obtain ⟨t1, t2⟩ := hS.one hn5 (by omega)
  have hgu : ∀ i, In n i → 0 ≤ m 25 i ∧ m 25 i ≤ 1000000 := fun i hi => ⟨hg i hi, by have := t1 i hi; omega⟩
  have hgv : ∀ i, In n i → 0 ≤ m 90 i ∧ m 90 i ≤ 1000000 := fun i hi => by rw [← hEn i hi]; exact hgu i hi
  have hA1 := hAR.1
  have ha : 0 ≤ m 28 1 ∧ m 28 1 ≤ 40 := by omega
  have hav : 0 ≤ m 70 45 ∧ m 70 45 ≤ 40 := by omega
  have e5 := hE 5 (by decide) (by decide)
  have e6 := hE 6 (by decide) (by decide)
  have e7 := hE 7 (by decide) (by decide)
  have hd5 : 0 ≤ m 25 5 ∧ m 25 5 ≤ 900000000 := by have := hS.2.2.1; omega
  have hd5v : 0 ≤ m 90 5 ∧ m 90 5 ≤ 900000000 := by rw [← e5]; exact hd5
  have hd6 := hS.2.2.2.1
  have hd7 := hS.2.2.2.2.1
  refine s_Law_557 x3 (fun _ _ => ⟨by unfold inR; omega, by omega, 2, _, by decide, c_sweepX (d := 0) B X ha, fun z m1 h1 _ _ => ?_⟩)
  by_cases q : In n (g_x G ((x3 + 1)).toNat) ∧ 0 < m 25 (g_x G ((x3 + 1)).toNat)
  · obtain ⟨e1, k1⟩ := h1.1 q
    obtain ⟨A1, B1, e70⟩ := hI.mid k1.1 (by decide) ⟨by decide, by decide⟩ (by decide)
    have e90 : m1 90 = m 90 := k1.1.1 90 (by decide) (by decide)
    refine ⟨by unfold inR; omega, by omega, 2, _, by decide, c_sweepM (d := 0) B A1.2.2.1 (by rw [e90]; exact hg2) (by rw [e70]; exact hav), fun z2 m2 h2 _ _ => ?_⟩
    obtain ⟨e2, k2⟩ := h2.1 ⟨q.1, by rw [e90, ← hEn _ q.1]; exact q.2⟩
    have I2 := hI.kept k1.two k2.two (fun i i0 i8 => by unfold upS; rw [e90, hE i i0 i8]) (hS.up hn5 q.1 (by omega) (by have := hg _ q.1; omega))
    refine ⟨fun _ => L _ I2, fun r => r ?_⟩
    rw [e1, e2, e90, hEn _ q.1]
  · obtain ⟨e1, rfl⟩ := h1.2 q
    refine ⟨by unfold inR; omega, by omega, 2, _, by decide, c_sweepM (d := 0) B hI.1.2.2.1 hg2 hav, fun z2 m2 h2 _ _ => ?_⟩
    obtain ⟨e2, rfl⟩ := h2.2 (fun r => q ⟨r.1, by rw [hEn _ r.1]; exact r.2⟩)
    exact ⟨fun _ => L _ hI.up1, fun r => r (by rw [e1, e2])⟩
theorem l_settle {x3 c : Int} (hx : 0 ≤ x3 ∧ x3 + 6 ≤ (g_L G : Int)) (hL : g_L G ≤ 3072) (hI : Inv c m) (hc : 0 ≤ c ∧ c ≤ 511) (L : ∀ m1, Inv (c + 1) m1 → Wq l G true Y_Law 400 Q 1542 [(0, .inr (.inr 1000)), (1, .inr (.inr 0)), (2, .inr (.inr 70)), (3, .inl x3)] [] m1) : Wq l G true Y_Law 400 Q 544 [(0, .inr (.inr 1000)), (1, .inr (.inr 0)), (2, .inr (.inr 70)), (3, .inl x3)] [] m := by
  obtain ⟨n, D, W, br, b, b', fs, lk, hd, hI⟩ := hI
  have B := hI.1.1
  have X := hI.1.2.1
  have hn5 := B.1
  obtain ⟨hE, hS, hAR, hJ, hBox⟩ := hI.2.2.2.1
  have hg := hS.1
  have hN := hS.2.1
  have hEn : ∀ i, In n i → m 25 i = m 90 i := fun i hi => hE i hi.1 (by have := hi.2; omega)
  have hN2 : sm n (m 90) ≤ 495 + 20 * c := by rw [← sm_congr hEn]; exact hN
  have hg2 : ∀ i, In n i → 0 ≤ m 90 i := fun i hi => by rw [← hEn i hi]; exact hg i hi
  obtain ⟨t1, t2⟩ := hS.one hn5 (by omega)
  have hgu : ∀ i, In n i → 0 ≤ m 25 i ∧ m 25 i ≤ 1000000 := fun i hi => ⟨hg i hi, by have := t1 i hi; omega⟩
  have hgv : ∀ i, In n i → 0 ≤ m 90 i ∧ m 90 i ≤ 1000000 := fun i hi => by rw [← hEn i hi]; exact hgu i hi
  have hA1 := hAR.1
  have ha : 0 ≤ m 28 1 ∧ m 28 1 ≤ 40 := by omega
  have hav : 0 ≤ m 70 45 ∧ m 70 45 ≤ 40 := by omega
  have e5 := hE 5 (by decide) (by decide)
  have e6 := hE 6 (by decide) (by decide)
  have e7 := hE 7 (by decide) (by decide)
  have hd5 : 0 ≤ m 25 5 ∧ m 25 5 ≤ 900000000 := by have := hS.2.2.1; omega
  have hd5v : 0 ≤ m 90 5 ∧ m 90 5 ≤ 900000000 := by rw [← e5]; exact hd5
  have hd6 := hS.2.2.2.1
  have hd7 := hS.2.2.2.2.1
  have eb : bs n (fun i => decide (br i ≤ m 25 i)) = bs n (fun i => decide (br i ≤ m 90 i)) := bs_congr (fun i hi => by rw [hEn i hi])
  refine s_Law_544 x3 (fun _ _ => ⟨4, _, by decide, c_settleX (d := 0) B X hg hN (by omega) (by omega) ha, fun z m1 h1 _ _ => ?_⟩)
  by_cases q : bs n (fun i => decide (br i ≤ m 25 i)) ≠ 0
  · obtain ⟨u, hu, k1, e1⟩ := h1.1 q
    obtain ⟨A1, B1, e70⟩ := hI.mid k1.1 (by decide) ⟨by decide, by decide⟩ (by decide)
    have e90 : m1 90 = m 90 := k1.1.1 90 (by decide) (by decide)
    refine ⟨3, _, by decide, c_settleM (d := 0) B A1.2.2.1 (by rw [e90]; exact hg2) (N := 495 + 20 * c) (by rw [e90]; exact hN2) (by omega) (by rw [e90]; omega) (by rw [e70]; exact hav), fun z2 m2 h2 _ _ => ?_⟩
    obtain ⟨v, hv, k2, e2⟩ := h2.1 (by rw [e90, ← eb]; exact q)
    rw [e90] at hv k2
    have euv := (hu.congr hEn).uniq hv
    have I2 := hI.kept k1.two k2.two (stS_congr hn5 hE euv) (hS.st B hc hu)
    refine ⟨fun _ => L _ I2, fun r => r ?_⟩
    rw [e1, e2, sm_congr euv]
  · obtain ⟨e1, rfl⟩ := h1.2 q
    refine ⟨3, _, by decide, c_settleM (d := 0) B hI.1.2.2.1 hg2 hN2 (by omega) (by omega) hav, fun z2 m2 h2 _ _ => ?_⟩
    obtain ⟨e2, rfl⟩ := h2.2 (by rw [← eb]; exact q)
    exact ⟨fun _ => L _ hI.up1, fun r => r (by rw [e1, e2])⟩
theorem l_topple {x3 c : Int} (hx : 0 ≤ x3 ∧ x3 + 6 ≤ (g_L G : Int)) (hL : g_L G ≤ 3072) (hI : Inv c m) (hc : 0 ≤ c ∧ c ≤ 511) (L : ∀ m1, Inv (c + 1) m1 → Wq l G true Y_Law 400 Q 1542 [(0, .inr (.inr 1000)), (1, .inr (.inr 0)), (2, .inr (.inr 70)), (3, .inl x3)] [] m1) : Wq l G true Y_Law 400 Q 521 [(0, .inr (.inr 1000)), (1, .inr (.inr 0)), (2, .inr (.inr 70)), (3, .inl x3)] [] m := by
  obtain ⟨n, D, W, br, b, b', fs, lk, hd, hI⟩ := hI
  have B := hI.1.1
  have X := hI.1.2.1
  have hn5 := B.1
  obtain ⟨hE, hS, hAR, hJ, hBox⟩ := hI.2.2.2.1
  have hg := hS.1
  have hN := hS.2.1
  have hEn : ∀ i, In n i → m 25 i = m 90 i := fun i hi => hE i hi.1 (by have := hi.2; omega)
  have hN2 : sm n (m 90) ≤ 495 + 20 * c := by rw [← sm_congr hEn]; exact hN
  have hg2 : ∀ i, In n i → 0 ≤ m 90 i := fun i hi => by rw [← hEn i hi]; exact hg i hi
  obtain ⟨t1, t2⟩ := hS.one hn5 (by omega)
  have hgu : ∀ i, In n i → 0 ≤ m 25 i ∧ m 25 i ≤ 1000000 := fun i hi => ⟨hg i hi, by have := t1 i hi; omega⟩
  have hgv : ∀ i, In n i → 0 ≤ m 90 i ∧ m 90 i ≤ 1000000 := fun i hi => by rw [← hEn i hi]; exact hgu i hi
  have hA1 := hAR.1
  have ha : 0 ≤ m 28 1 ∧ m 28 1 ≤ 40 := by omega
  have hav : 0 ≤ m 70 45 ∧ m 70 45 ≤ 40 := by omega
  have e5 := hE 5 (by decide) (by decide)
  have e6 := hE 6 (by decide) (by decide)
  have e7 := hE 7 (by decide) (by decide)
  have hd5 : 0 ≤ m 25 5 ∧ m 25 5 ≤ 900000000 := by have := hS.2.2.1; omega
  have hd5v : 0 ≤ m 90 5 ∧ m 90 5 ≤ 900000000 := by rw [← e5]; exact hd5
  have hd6 := hS.2.2.2.1
  have hd7 := hS.2.2.2.2.1
  refine s_Law_521 x3 (fun _ _ => ⟨by unfold inR; omega, by omega, 2, _, by decide, c_toppleX (d := 0) B X hgu (by omega) ha, fun z m1 h1 _ _ => ?_⟩)
  by_cases q : In n (g_x G ((x3 + 1)).toNat) ∧ br (g_x G ((x3 + 1)).toNat) ≤ m 25 (g_x G ((x3 + 1)).toNat)
  · obtain ⟨e1, k1⟩ := h1.1 q
    obtain ⟨A1, B1, e70⟩ := hI.mid k1.1 (by decide) ⟨by decide, by decide⟩ (by decide)
    have e90 : m1 90 = m 90 := k1.1.1 90 (by decide) (by decide)
    refine ⟨by unfold inR; omega, by omega, 2, _, by decide, c_toppleM2 (d := 0) B A1.2.2.1 (by rw [e90]; exact hgv) (by rw [e90]; omega) (by rw [e70]; exact hav), fun z2 m2 h2 _ _ => ?_⟩
    obtain ⟨e2, k2⟩ := h2.1 ⟨q.1, by rw [e90, ← hEn _ q.1]; exact q.2⟩
    rw [e90] at k2 e2
    have es := stS_congr (D := D) (W := W) (br := br) (u := u1 (g_x G ((x3 + 1)).toNat)) (v := u1 (g_x G ((x3 + 1)).toNat)) hn5 hE (fun _ _ => rfl)
    have I2 := hI.kept k1.two k2.two es (hS.tip B hc q.1 q.2)
    refine ⟨fun _ => L _ I2, fun r => r ?_⟩
    rw [e1, e2]
    exact es _ q.1.1 (by have := q.1.2; omega)
  · obtain ⟨e1, rfl⟩ := h1.2 q
    refine ⟨by unfold inR; omega, by omega, 2, _, by decide, c_toppleM2 (d := 0) B hI.1.2.2.1 hgv (by omega) hav, fun z2 m2 h2 _ _ => ?_⟩
    obtain ⟨e2, rfl⟩ := h2.2 (fun r => q ⟨r.1, by rw [hEn _ r.1]; exact r.2⟩)
    exact ⟨fun _ => L _ hI.up1, fun r => r (by rw [e1, e2])⟩
theorem l_undo {x3 c : Int} (hx : 0 ≤ x3 ∧ x3 + 6 ≤ (g_L G : Int)) (hL : g_L G ≤ 3072) (hI : Inv c m) (hc : 0 ≤ c ∧ c ≤ 511) (L : ∀ m1, Inv (c + 1) m1 → Wq l G true Y_Law 400 Q 1542 [(0, .inr (.inr 1000)), (1, .inr (.inr 0)), (2, .inr (.inr 70)), (3, .inl x3)] [] m1) : Wq l G true Y_Law 400 Q 580 [(0, .inr (.inr 1000)), (1, .inr (.inr 0)), (2, .inr (.inr 70)), (3, .inl x3)] [] m := by
  obtain ⟨n, D, W, br, b, b', fs, lk, hd, hI⟩ := hI
  have B := hI.1.1
  have X := hI.1.2.1
  have hn5 := B.1
  obtain ⟨hE, hS, hAR, hJ, hBox⟩ := hI.2.2.2.1
  have hg := hS.1
  have hN := hS.2.1
  have hEn : ∀ i, In n i → m 25 i = m 90 i := fun i hi => hE i hi.1 (by have := hi.2; omega)
  have hN2 : sm n (m 90) ≤ 495 + 20 * c := by rw [← sm_congr hEn]; exact hN
  have hg2 : ∀ i, In n i → 0 ≤ m 90 i := fun i hi => by rw [← hEn i hi]; exact hg i hi
  obtain ⟨t1, t2⟩ := hS.one hn5 (by omega)
  have hgu : ∀ i, In n i → 0 ≤ m 25 i ∧ m 25 i ≤ 1000000 := fun i hi => ⟨hg i hi, by have := t1 i hi; omega⟩
  have hgv : ∀ i, In n i → 0 ≤ m 90 i ∧ m 90 i ≤ 1000000 := fun i hi => by rw [← hEn i hi]; exact hgu i hi
  have hA1 := hAR.1
  have ha : 0 ≤ m 28 1 ∧ m 28 1 ≤ 40 := by omega
  have hav : 0 ≤ m 70 45 ∧ m 70 45 ≤ 40 := by omega
  have e5 := hE 5 (by decide) (by decide)
  have e6 := hE 6 (by decide) (by decide)
  have e7 := hE 7 (by decide) (by decide)
  have hd5 : 0 ≤ m 25 5 ∧ m 25 5 ≤ 900000000 := by have := hS.2.2.1; omega
  have hd5v : 0 ≤ m 90 5 ∧ m 90 5 ≤ 900000000 := by rw [← e5]; exact hd5
  have hd6 := hS.2.2.2.1
  have hd7 := hS.2.2.2.2.1
  refine s_Law_580 x3 (fun _ _ => ⟨2, _, by decide, c_undoX (d := 0) ha, fun z m1 h1 _ _ => ?_⟩)
  by_cases q : m 28 1 > 0
  · obtain ⟨e1, f1, x1, x2⟩ := h1.1 q
    obtain ⟨A1, B1, e70⟩ := hI.mid f1 (by decide) ⟨by decide, by decide⟩ (by decide)
    have e90 : m1 90 = m 90 := f1.1 90 (by decide) (by decide)
    refine ⟨1, _, by decide, c_undoM (d := 0) (by rw [e70]; exact hav) (by rw [e70]; omega), fun z2 m2 h2 _ _ => ?_⟩
    obtain ⟨e2, f2, y1, y2, y3, y4⟩ := h2.1 (by rw [e70]; omega)
    have e45 : m1 70 45 = m 28 1 := by rw [e70]; omega
    rw [e45] at y1 y3 y4
    obtain ⟨hA2, he2⟩ := hAR.undo hE q ⟨f1, x1, x2⟩ ⟨f2, y1, by rw [y2, e45]; omega, y3, y4⟩
    have I2 := hI.d2 f1 f2 (by decide) ⟨by decide, by decide⟩ (by decide) (by decide) (by decide) (hI.2.2.2.1.gone hn5 (by omega) ⟨f1, x1, x2⟩ f2 hA2 he2)
    refine ⟨fun _ => L _ I2, fun r => r ?_⟩
    rw [e1, e2]
  · obtain ⟨e1, rfl⟩ := h1.2 q
    refine ⟨1, _, by decide, c_undoM (d := 0) hav (by omega), fun z2 m2 h2 _ _ => ?_⟩
    obtain ⟨e2, rfl⟩ := h2.2 (by omega)
    exact ⟨fun _ => L _ hI.up1, fun r => r (by rw [e1, e2])⟩
theorem l_redo {x3 c : Int} (hx : 0 ≤ x3 ∧ x3 + 6 ≤ (g_L G : Int)) (hL : g_L G ≤ 3072) (hI : Inv c m) (hc : 0 ≤ c ∧ c ≤ 511) (L : ∀ m1, Inv (c + 1) m1 → Wq l G true Y_Law 400 Q 1542 [(0, .inr (.inr 1000)), (1, .inr (.inr 0)), (2, .inr (.inr 70)), (3, .inl x3)] [] m1) : Wq l G true Y_Law 400 Q 593 [(0, .inr (.inr 1000)), (1, .inr (.inr 0)), (2, .inr (.inr 70)), (3, .inl x3)] [] m := by
  obtain ⟨n, D, W, br, b, b', fs, lk, hd, hI⟩ := hI
  have B := hI.1.1
  have X := hI.1.2.1
  have hn5 := B.1
  obtain ⟨hE, hS, hAR, hJ, hBox⟩ := hI.2.2.2.1
  have hg := hS.1
  have hN := hS.2.1
  have hEn : ∀ i, In n i → m 25 i = m 90 i := fun i hi => hE i hi.1 (by have := hi.2; omega)
  have hN2 : sm n (m 90) ≤ 495 + 20 * c := by rw [← sm_congr hEn]; exact hN
  have hg2 : ∀ i, In n i → 0 ≤ m 90 i := fun i hi => by rw [← hEn i hi]; exact hg i hi
  obtain ⟨t1, t2⟩ := hS.one hn5 (by omega)
  have hgu : ∀ i, In n i → 0 ≤ m 25 i ∧ m 25 i ≤ 1000000 := fun i hi => ⟨hg i hi, by have := t1 i hi; omega⟩
  have hgv : ∀ i, In n i → 0 ≤ m 90 i ∧ m 90 i ≤ 1000000 := fun i hi => by rw [← hEn i hi]; exact hgu i hi
  have hA1 := hAR.1
  have ha : 0 ≤ m 28 1 ∧ m 28 1 ≤ 40 := by omega
  have hav : 0 ≤ m 70 45 ∧ m 70 45 ≤ 40 := by omega
  have e5 := hE 5 (by decide) (by decide)
  have e6 := hE 6 (by decide) (by decide)
  have e7 := hE 7 (by decide) (by decide)
  have hd5 : 0 ≤ m 25 5 ∧ m 25 5 ≤ 900000000 := by have := hS.2.2.1; omega
  have hd5v : 0 ≤ m 90 5 ∧ m 90 5 ≤ 900000000 := by rw [← e5]; exact hd5
  have hd6 := hS.2.2.2.1
  have hd7 := hS.2.2.2.2.1
  refine s_Law_593 x3 (fun _ _ => ⟨2, _, by decide, c_redoX (d := 0) ha (by omega), fun z m1 h1 _ _ => ?_⟩)
  by_cases q : m 28 1 < m 28 2
  · obtain ⟨e1, f1, x1, x2⟩ := h1.1 q
    obtain ⟨A1, B1, e70⟩ := hI.mid f1 (by decide) ⟨by decide, by decide⟩ (by decide)
    have e90 : m1 90 = m 90 := f1.1 90 (by decide) (by decide)
    refine ⟨1, _, by decide, c_redoM (d := 0) (by rw [e70]; exact hav) (by rw [e70]; omega), fun z2 m2 h2 _ _ => ?_⟩
    obtain ⟨e2, f2, y1, y2, y3, y4⟩ := h2.1 (by rw [e70]; omega)
    have e45 : m1 70 45 = m 28 1 := by rw [e70]; omega
    rw [e45] at y1 y3 y4
    obtain ⟨hA2, he2⟩ := hAR.redo hE q ⟨f1, x1, x2⟩ ⟨f2, y1, by rw [y2, e45]; omega, y3, y4⟩
    have I2 := hI.d2 f1 f2 (by decide) ⟨by decide, by decide⟩ (by decide) (by decide) (by decide) (hI.2.2.2.1.gone hn5 (by omega) ⟨f1, x1, x2⟩ f2 hA2 he2)
    refine ⟨fun _ => L _ I2, fun r => r ?_⟩
    rw [e1, e2]
  · obtain ⟨e1, rfl⟩ := h1.2 q
    refine ⟨1, _, by decide, c_redoM (d := 0) hav (by omega), fun z2 m2 h2 _ _ => ?_⟩
    obtain ⟨e2, rfl⟩ := h2.2 (by omega)
    exact ⟨fun _ => L _ hI.up1, fun r => r (by rw [e1, e2])⟩
theorem l_day {x3 c : Int} (hx : 0 ≤ x3 ∧ x3 + 6 ≤ (g_L G : Int)) (hL : g_L G ≤ 3072) (hI : Inv c m) (hc : 0 ≤ c ∧ c ≤ 511) (L : ∀ m1, Inv (c + 1) m1 → Wq l G true Y_Law 400 Q 1542 [(0, .inr (.inr 1000)), (1, .inr (.inr 0)), (2, .inr (.inr 70)), (3, .inl x3)] [] m1) : Wq l G true Y_Law 400 Q 475 [(0, .inr (.inr 1000)), (1, .inr (.inr 0)), (2, .inr (.inr 70)), (3, .inl x3)] [] m := by
  obtain ⟨n, D, W, br, b, b', fs, lk, hd, hI⟩ := hI
  have B := hI.1.1
  have X := hI.1.2.1
  have hn5 := B.1
  obtain ⟨hE, hS, hAR, hJ, hBox⟩ := hI.2.2.2.1
  have hg := hS.1
  have hN := hS.2.1
  have hEn : ∀ i, In n i → m 25 i = m 90 i := fun i hi => hE i hi.1 (by have := hi.2; omega)
  have hN2 : sm n (m 90) ≤ 495 + 20 * c := by rw [← sm_congr hEn]; exact hN
  have hg2 : ∀ i, In n i → 0 ≤ m 90 i := fun i hi => by rw [← hEn i hi]; exact hg i hi
  obtain ⟨t1, t2⟩ := hS.one hn5 (by omega)
  have hgu : ∀ i, In n i → 0 ≤ m 25 i ∧ m 25 i ≤ 1000000 := fun i hi => ⟨hg i hi, by have := t1 i hi; omega⟩
  have hgv : ∀ i, In n i → 0 ≤ m 90 i ∧ m 90 i ≤ 1000000 := fun i hi => by rw [← hEn i hi]; exact hgu i hi
  have hA1 := hAR.1
  have ha : 0 ≤ m 28 1 ∧ m 28 1 ≤ 40 := by omega
  have hav : 0 ≤ m 70 45 ∧ m 70 45 ≤ 40 := by omega
  have e5 := hE 5 (by decide) (by decide)
  have e6 := hE 6 (by decide) (by decide)
  have e7 := hE 7 (by decide) (by decide)
  have hd5 : 0 ≤ m 25 5 ∧ m 25 5 ≤ 900000000 := by have := hS.2.2.1; omega
  have hd5v : 0 ≤ m 90 5 ∧ m 90 5 ≤ 900000000 := by rw [← e5]; exact hd5
  have hd6 := hS.2.2.2.1
  have hd7 := hS.2.2.2.2.1
  refine s_Law_475 x3 (fun _ _ => ⟨5, _, by decide, c_dayX (d := 0) B X hI.2.1.1 hI.2.1.2.1 hI.2.1.2.2.2.1.1 hg hN (by omega) (by omega) (by omega) (by omega) ha, fun z m1 h1 _ _ => ?_⟩)
  by_cases q : m 25 6 < 999
  · obtain ⟨s, r1, s7, k1⟩ := h1.1 q
    obtain ⟨A1, B1, e70⟩ := hI.mid k1.1 (by decide) ⟨by decide, by decide⟩ (by decide)
    have e90 : m1 90 = m 90 := k1.1.1 90 (by decide) (by decide)
    refine ⟨4, _, by decide, c_dayM (d := 0) B A1.2.2.1 B1.2.2.1 B1.2.2.2.1.2.1 (by rw [e90]; exact hg2) (N := 495 + 20 * c) (by rw [e90]; exact hN2) (by omega) (by rw [e90]; omega) (by rw [e90]; omega) (by rw [e90]; omega) (by rw [e70]; exact hav), fun z2 m2 h2 _ _ => ?_⟩
    obtain ⟨t, r2, v7, k2⟩ := h2.1 (by rw [e90]; omega)
    rw [e90] at r2 v7
    obtain ⟨uz, us⟩ := DyR.uniq hn5 (fun i i0 i7 => hE i i0 (by omega)) (fun _ => e7) r1 r2
    have est : ∀ i, 0 ≤ i → i < 8 → s i = t i := fun i i0 i8 => by
      by_cases r : i < 7
      · exact us i i0 r
      · have r8 : i = 7 := by omega
        rw [r8, s7, v7]; unfold dyS; rw [e7]
    have I2 := hI.kept k1 k2 est (hS.day B hc r1 s7 q)
    refine ⟨fun _ => L _ I2, fun r => r ?_⟩
    exact uz
  · obtain ⟨e1, rfl⟩ := h1.2 q
    refine ⟨4, _, by decide, c_dayM (d := 0) B hI.1.2.2.1 hI.2.1.2.2.1 hI.2.1.2.2.2.1.2.1 hg2 hN2 (by omega) (by omega) (by omega) (by omega) hav, fun z2 m2 h2 _ _ => ?_⟩
    obtain ⟨e2, rfl⟩ := h2.2 (by omega)
    exact ⟨fun _ => L _ hI.up1, fun r => r (by rw [e1, e2])⟩
theorem l_image {x3 c : Int} (hx : 0 ≤ x3 ∧ x3 + 6 ≤ (g_L G : Int)) (hL : g_L G ≤ 3072) (hI : Inv c m) (hc : 0 ≤ c ∧ c ≤ 511) (L : ∀ m1, Inv (c + 1) m1 → Wq l G true Y_Law 400 Q 1542 [(0, .inr (.inr 1000)), (1, .inr (.inr 0)), (2, .inr (.inr 70)), (3, .inl x3)] [] m1) : Wq l G true Y_Law 400 Q 1473 [(0, .inr (.inr 1000)), (1, .inr (.inr 0)), (2, .inr (.inr 70)), (3, .inl x3)] [] m := by
  obtain ⟨n, D, W, br, b, b', fs, lk, hd, hI⟩ := hI
  have B := hI.1.1
  have X := hI.1.2.1
  have hn5 := B.1
  obtain ⟨hE, hS, hAR, hJ, hBox⟩ := hI.2.2.2.1
  have hg := hS.1
  have hN := hS.2.1
  have hEn : ∀ i, In n i → m 25 i = m 90 i := fun i hi => hE i hi.1 (by have := hi.2; omega)
  have hN2 : sm n (m 90) ≤ 495 + 20 * c := by rw [← sm_congr hEn]; exact hN
  have hg2 : ∀ i, In n i → 0 ≤ m 90 i := fun i hi => by rw [← hEn i hi]; exact hg i hi
  obtain ⟨t1, t2⟩ := hS.one hn5 (by omega)
  have hgu : ∀ i, In n i → 0 ≤ m 25 i ∧ m 25 i ≤ 1000000 := fun i hi => ⟨hg i hi, by have := t1 i hi; omega⟩
  have hgv : ∀ i, In n i → 0 ≤ m 90 i ∧ m 90 i ≤ 1000000 := fun i hi => by rw [← hEn i hi]; exact hgu i hi
  have hA1 := hAR.1
  have ha : 0 ≤ m 28 1 ∧ m 28 1 ≤ 40 := by omega
  have hav : 0 ≤ m 70 45 ∧ m 70 45 ≤ 40 := by omega
  have e5 := hE 5 (by decide) (by decide)
  have e6 := hE 6 (by decide) (by decide)
  have e7 := hE 7 (by decide) (by decide)
  have hd5 : 0 ≤ m 25 5 ∧ m 25 5 ≤ 900000000 := by have := hS.2.2.1; omega
  have hd5v : 0 ≤ m 90 5 ∧ m 90 5 ≤ 900000000 := by rw [← e5]; exact hd5
  have hd6 := hS.2.2.2.1
  have hd7 := hS.2.2.2.2.1
  refine s_Law_1473 x3 (fun _ _ => ⟨by unfold inR; omega, by omega, 1, _, by decide, c_imageX (d := 0) B X hg hN (by omega), fun z m1 h1 _ _ => ?_⟩)
  by_cases q : 0 ≤ (g_x G ((x3 + 1)).toNat) ∧ (g_x G ((x3 + 1)).toNat) < 3
  · obtain ⟨e1, f1, x1, x2⟩ := h1.1 q
    have f1 := f1.to28 (by decide)
    obtain ⟨A1, B1, e70⟩ := hI.mid f1 (by decide) ⟨by decide, by decide⟩ (by decide)
    have e90 : m1 90 = m 90 := f1.1 90 (by decide) (by decide)
    refine ⟨by unfold inR; omega, by omega, 3, _, by decide, c_imageM (d := 0) B A1.2.2.1 (by rw [e90]; exact hg2) (N := 495 + 20 * c) (by rw [e90]; exact hN2) (by omega), fun z2 m2 h2 _ _ => ?_⟩
    obtain ⟨e2, f2, y1, y2⟩ := h2.1 q
    have g25 : m2 25 = m 25 := (f2.1 25 (by decide) (by decide)).trans (f1.1 25 (by decide) (by decide))
    have g90 : m2 90 = m 90 := (f2.1 90 (by decide) (by decide)).trans (f1.1 90 (by decide) (by decide))
    have g30 : m2 30 = m1 30 := f2.1 30 (by decide) (by decide)
    have g31 : m2 31 = m1 31 := f2.1 31 (by decide) (by decide)
    have w09 : m1 109 = m 109 := f1.1 109 (by decide) (by decide)
    have w10 : m1 110 = m 110 := f1.1 110 (by decide) (by decide)
    have g28 : m2 28 = m 28 := (f2.1 28 (by decide) (by decide)).trans (by funext i; exact f1.2 i (by simp))
    have g29 : m2 29 = m 29 := (f2.1 29 (by decide) (by decide)).trans (f1.1 29 (by decide) (by decide))
    have g96 : m2 96 = m 96 := (f2.1 96 (by decide) (by decide)).trans (f1.1 96 (by decide) (by decide))
    have g70 : ∀ i, m2 70 i = m 70 i := fun i => by rw [f2.2 i (by simp), e70]
    have hD2 : IvD n (c + 1) m2 := by
      refine ⟨fun i i0 i8 => by rw [g25, g90]; exact hE i i0 i8, by rw [g25]; exact hS.mono (by omega), by unfold AR; rw [g25, g28, g29, g96, g70, g70]; exact hAR, fun j j0 j1 => by rw [g28] at j1; rw [g29]; exact (hJ j j0 j1).mono (by omega), fun x x0 xlt => ?_⟩
      by_cases hx9 : x = (g_x G ((x3 + 1)).toNat)
      · have u30 : ∀ i, 0 ≤ i → i < 8 → m2 30 (8 * x + i) = m 25 i := fun i i0 i8 => by
          rw [g30]; rw [x1 (8 * x + i), if_pos (by omega)]; congr 1; omega
        have u09 : ∀ i, 0 ≤ i → i < 8 → m2 109 (8 * x + i) = m 90 i := fun i i0 i8 => by
          rw [y1 (8 * x + i), if_pos (by omega), e90]; congr 1; omega
        refine ⟨by rw [g31, x2, y2, if_pos hx9, if_pos hx9], fun _ => ⟨fun i i0 i8 => by rw [u30 i i0 i8, u09 i i0 i8]; exact hE i i0 i8, (hS.mono (by omega)).congr hn5 (fun i i0 i8 => (u30 i i0 i8).symm)⟩⟩
      · have u30 : ∀ i, 0 ≤ i → i < 8 → m2 30 (8 * x + i) = m 30 (8 * x + i) := fun i i0 i8 => by
          rw [g30]; rw [x1 (8 * x + i), if_neg (by omega)]
        have u09 : ∀ i, 0 ≤ i → i < 8 → m2 109 (8 * x + i) = m 109 (8 * x + i) := fun i i0 i8 => by
          rw [y1 (8 * x + i), if_neg (by omega), w09]
        have hb := hBox x x0 xlt
        have v31 : m2 31 x = m 31 x := by rw [g31, x2, if_neg hx9]
        have v10 : m2 110 x = m 110 x := by rw [y2, if_neg hx9, w10]
        rw [v31, v10]
        exact ⟨hb.1, fun r => ⟨fun i i0 i8 => by rw [u30 i i0 i8, u09 i i0 i8]; exact (hb.2 r).1 i i0 i8, ((hb.2 r).2.mono (by omega)).congr hn5 (fun i i0 i8 => (u30 i i0 i8).symm)⟩⟩
    have I2 := hI.d2 f1 f2 (by decide) ⟨by decide, by decide⟩ (by decide) (by decide) (by decide) hD2
    refine ⟨fun _ => L _ I2, fun r => r ?_⟩
    rw [e1, e2, e90, sm_congr hEn]
  · obtain ⟨e1, rfl⟩ := h1.2 q
    refine ⟨by unfold inR; omega, by omega, 3, _, by decide, c_imageM (d := 0) B hI.1.2.2.1 hg2 hN2 (by omega), fun z2 m2 h2 _ _ => ?_⟩
    obtain ⟨e2, rfl⟩ := h2.2 q
    exact ⟨fun _ => L _ hI.up1, fun r => r (by rw [e1, e2])⟩
theorem l_back {x3 c : Int} (hx : 0 ≤ x3 ∧ x3 + 6 ≤ (g_L G : Int)) (hL : g_L G ≤ 3072) (hI : Inv c m) (hc : 0 ≤ c ∧ c ≤ 511) (L : ∀ m1, Inv (c + 1) m1 → Wq l G true Y_Law 400 Q 1542 [(0, .inr (.inr 1000)), (1, .inr (.inr 0)), (2, .inr (.inr 70)), (3, .inl x3)] [] m1) : Wq l G true Y_Law 400 Q 1496 [(0, .inr (.inr 1000)), (1, .inr (.inr 0)), (2, .inr (.inr 70)), (3, .inl x3)] [] m := by
  obtain ⟨n, D, W, br, b, b', fs, lk, hd, hI⟩ := hI
  have B := hI.1.1
  have X := hI.1.2.1
  have hn5 := B.1
  obtain ⟨hE, hS, hAR, hJ, hBox⟩ := hI.2.2.2.1
  have hg := hS.1
  have hN := hS.2.1
  have hEn : ∀ i, In n i → m 25 i = m 90 i := fun i hi => hE i hi.1 (by have := hi.2; omega)
  have hN2 : sm n (m 90) ≤ 495 + 20 * c := by rw [← sm_congr hEn]; exact hN
  have hg2 : ∀ i, In n i → 0 ≤ m 90 i := fun i hi => by rw [← hEn i hi]; exact hg i hi
  obtain ⟨t1, t2⟩ := hS.one hn5 (by omega)
  have hgu : ∀ i, In n i → 0 ≤ m 25 i ∧ m 25 i ≤ 1000000 := fun i hi => ⟨hg i hi, by have := t1 i hi; omega⟩
  have hgv : ∀ i, In n i → 0 ≤ m 90 i ∧ m 90 i ≤ 1000000 := fun i hi => by rw [← hEn i hi]; exact hgu i hi
  have hA1 := hAR.1
  have ha : 0 ≤ m 28 1 ∧ m 28 1 ≤ 40 := by omega
  have hav : 0 ≤ m 70 45 ∧ m 70 45 ≤ 40 := by omega
  have e5 := hE 5 (by decide) (by decide)
  have e6 := hE 6 (by decide) (by decide)
  have e7 := hE 7 (by decide) (by decide)
  have hd5 : 0 ≤ m 25 5 ∧ m 25 5 ≤ 900000000 := by have := hS.2.2.1; omega
  have hd5v : 0 ≤ m 90 5 ∧ m 90 5 ≤ 900000000 := by rw [← e5]; exact hd5
  have hd6 := hS.2.2.2.1
  have hd7 := hS.2.2.2.2.1
  have hbM : (0 ≤ (g_x G ((x3 + 1)).toNat) ∧ (g_x G ((x3 + 1)).toNat) < 3) ∧ m 110 (g_x G ((x3 + 1)).toNat) ≠ 0 → (∀ i, In n i → 0 ≤ m 109 (8 * (g_x G ((x3 + 1)).toNat) + i)) ∧ sm n (fun i => m 109 (8 * (g_x G ((x3 + 1)).toNat) + i)) ≤ 1000000 := fun r => by
    have h8 := (hBox _ r.1.1 r.1.2).2 ((hBox _ r.1.1 r.1.2).1.mpr r.2)
    have h7 : ∀ i, In n i → m 30 (8 * (g_x G ((x3 + 1)).toNat) + i) = m 109 (8 * (g_x G ((x3 + 1)).toNat) + i) := fun i hi => h8.1 i hi.1 (by have := hi.2; omega)
    have h9 := h8.2.2.1
    exact ⟨fun i hi => by rw [← h7 i hi]; exact h8.2.1 i hi, by rw [← sm_congr h7]; omega⟩
  refine s_Law_1496 x3 (fun _ _ => ⟨by unfold inR; omega, by omega, 2, _, by decide, c_backX (d := 0) B X (fun r => by have h8 := ((hBox _ r.1.1 r.1.2).2 r.2).2; have h9 := h8.2.1; exact ⟨h8.1, by omega⟩), fun z m1 h1 _ _ => ?_⟩)
  by_cases q : (0 ≤ (g_x G ((x3 + 1)).toNat) ∧ (g_x G ((x3 + 1)).toNat) < 3) ∧ m 31 (g_x G ((x3 + 1)).toNat) ≠ 0
  · obtain ⟨e1, f1, x1, x2, x3e, x4⟩ := h1.1 q
    obtain ⟨A1, B1, e70⟩ := hI.mid f1 (by decide) ⟨by decide, by decide⟩ (by decide)
    have e90 : m1 90 = m 90 := f1.1 90 (by decide) (by decide)
    have w09 : m1 109 = m 109 := f1.1 109 (by decide) (by decide)
    have w10 : m1 110 = m 110 := f1.1 110 (by decide) (by decide)
    refine ⟨by unfold inR; omega, by omega, 3, _, by decide, c_backM (d := 0) B A1.2.2.1 (by rw [w09, w10]; exact hbM), fun z2 m2 h2 _ _ => ?_⟩
    obtain ⟨e2, f2, y1, y2, y3⟩ := h2.1 ⟨q.1, by rw [w10]; exact (hBox _ q.1.1 q.1.2).1.mp q.2⟩
    rw [w09] at e2
    have h8 := (hBox _ q.1.1 q.1.2).2 q.2
    have g25 : m2 25 = m1 25 := f2.1 25 (by decide) (by decide)
    have g28 : m2 28 = m1 28 := f2.1 28 (by decide) (by decide)
    have g29 : m2 29 = m1 29 := f2.1 29 (by decide) (by decide)
    have g30 : m2 30 = m 30 := (f2.1 30 (by decide) (by decide)).trans (f1.1 30 (by decide) (by decide))
    have g31 : m2 31 = m 31 := (f2.1 31 (by decide) (by decide)).trans (f1.1 31 (by decide) (by decide))
    have g09 : m2 109 = m 109 := (f2.1 109 (by decide) (by decide)).trans w09
    have g10 : m2 110 = m 110 := (f2.1 110 (by decide) (by decide)).trans w10
    have k25 : ∀ i, 0 ≤ i → i < 8 → m 30 (8 * (g_x G ((x3 + 1)).toNat) + i) = m2 25 i := fun i i0 i8 => by rw [g25, x4 i, if_pos ⟨i0, i8⟩]
    have k90 : ∀ i, 0 ≤ i → i < 8 → m2 90 i = m 109 (8 * (g_x G ((x3 + 1)).toNat) + i) := fun i i0 i8 => by rw [y3 i, if_pos ⟨i0, i8⟩, w09]
    have k29 : ∀ i, 0 ≤ i → i < 8 → m2 29 i = m2 25 i := fun i i0 i8 => by rw [g29, g25]; exact x3e i i0 i8
    have hS2 : StO n (c + 1) (m2 25) := (h8.2.mono (by omega)).congr hn5 k25
    have hD2 : IvD n (c + 1) m2 := by
      refine ⟨fun i i0 i8 => by rw [← k25 i i0 i8, k90 i i0 i8]; exact h8.1 i i0 i8, hS2, ?_, fun j j0 j1 => ?_, fun x x0 xlt => ?_⟩
      · unfold AR
        rw [g28, x1, x2, y1, y2]
        exact ⟨by decide, fun i i0 i8 => by rw [Int.mul_zero, Int.zero_add]; exact k29 i i0 i8, fun k k0 k1 => absurd k1 (by omega), fun k k0 k1 => absurd k1 (by omega)⟩
      · rw [g28, x2] at j1
        have j2 : j = 0 := by omega
        rw [j2]
        exact hS2.congr hn5 (fun i i0 i8 => by show m2 25 i = m2 29 (8 * 0 + i); rw [Int.mul_zero, Int.zero_add, k29 i i0 i8])
      · rw [g30, g31, g09, g10]
        exact ⟨(hBox x x0 xlt).1, fun r => ⟨((hBox x x0 xlt).2 r).1, ((hBox x x0 xlt).2 r).2.mono (by omega)⟩⟩
    have I2 := hI.d2 f1 f2 (by decide) ⟨by decide, by decide⟩ (by decide) (by decide) (by decide) hD2
    refine ⟨fun _ => L _ I2, fun r => r ?_⟩
    rw [e1, e2, sm_congr (fun i hi => h8.1 i hi.1 (by have := hi.2; omega))]
  · obtain ⟨e1, rfl⟩ := h1.2 q
    refine ⟨by unfold inR; omega, by omega, 3, _, by decide, c_backM (d := 0) B hI.1.2.2.1 hbM, fun z2 m2 h2 _ _ => ?_⟩
    obtain ⟨e2, rfl⟩ := h2.2 (fun r => q ⟨r.1, (hBox _ r.1.1 r.1.2).1.mpr r.2⟩)
    exact ⟨fun _ => L _ hI.up1, fun r => r (by rw [e1, e2])⟩
theorem l_will {x3 c : Int} (hx : 0 ≤ x3 ∧ x3 + 6 ≤ (g_L G : Int)) (hL : g_L G ≤ 3072) (hI : Inv c m) (hc : 0 ≤ c ∧ c ≤ 511) (L : ∀ m1, Inv (c + 1) m1 → Wq l G true Y_Law 400 Q 1542 [(0, .inr (.inr 1000)), (1, .inr (.inr 0)), (2, .inr (.inr 70)), (3, .inl x3)] [] m1) : Wq l G true Y_Law 400 Q 606 [(0, .inr (.inr 1000)), (1, .inr (.inr 0)), (2, .inr (.inr 70)), (3, .inl x3)] [] m := by
  obtain ⟨n, D, W, br, b, b', fs, lk, hd, hI⟩ := hI
  have B := hI.1.1
  have X := hI.1.2.1
  have hn5 := B.1
  obtain ⟨hE, hS, hAR, hJ, hBox⟩ := hI.2.2.2.1
  have hg := hS.1
  have hN := hS.2.1
  have hEn : ∀ i, In n i → m 25 i = m 90 i := fun i hi => hE i hi.1 (by have := hi.2; omega)
  have hN2 : sm n (m 90) ≤ 495 + 20 * c := by rw [← sm_congr hEn]; exact hN
  have hg2 : ∀ i, In n i → 0 ≤ m 90 i := fun i hi => by rw [← hEn i hi]; exact hg i hi
  obtain ⟨t1, t2⟩ := hS.one hn5 (by omega)
  have hgu : ∀ i, In n i → 0 ≤ m 25 i ∧ m 25 i ≤ 1000000 := fun i hi => ⟨hg i hi, by have := t1 i hi; omega⟩
  have hgv : ∀ i, In n i → 0 ≤ m 90 i ∧ m 90 i ≤ 1000000 := fun i hi => by rw [← hEn i hi]; exact hgu i hi
  have hA1 := hAR.1
  have ha : 0 ≤ m 28 1 ∧ m 28 1 ≤ 40 := by omega
  have hav : 0 ≤ m 70 45 ∧ m 70 45 ≤ 40 := by omega
  have e5 := hE 5 (by decide) (by decide)
  have e6 := hE 6 (by decide) (by decide)
  have e7 := hE 7 (by decide) (by decide)
  have hd5 : 0 ≤ m 25 5 ∧ m 25 5 ≤ 900000000 := by have := hS.2.2.1; omega
  have hd5v : 0 ≤ m 90 5 ∧ m 90 5 ≤ 900000000 := by rw [← e5]; exact hd5
  have hd6 := hS.2.2.2.1
  have hd7 := hS.2.2.2.2.1
  have hb2 : b = 7 ∨ b = 16 := X.1
  have hS9 : ∀ a ∈ [26, 32, 33, 34, b + 8], a ∈ SCR ∨ a ∈ DCR := by
    rcases hb2 with e | e <;> rw [e] <;> decide
  refine s_Law_606 x3 (fun _ _ => ⟨by unfold inR; omega, by omega, by unfold inR; omega, by omega, by unfold inR; omega, by omega, 5, _, by decide, c_willX (d := 0) B X hI.2.1.1 hI.2.1.2.1 hI.2.1.2.2.2.1.1 hg hN (by omega) (by omega) (by omega) (by omega), fun z m1 h1 _ _ => ?_⟩)
  obtain ⟨f1, r1⟩ := h1
  have f1 := f1.to28 (by simp only [List.mem_cons, List.not_mem_nil, or_false]; omega)
  obtain ⟨A1, B1, e70⟩ := hI.mid f1 (by decide) ⟨by decide, by simp only [List.mem_cons, List.not_mem_nil, or_false]; omega⟩ hS9
  have e90 : m1 90 = m 90 := f1.1 90 (by simp only [List.mem_cons, List.not_mem_nil, or_false]; omega) (by decide)
  refine ⟨by unfold inR; omega, by omega, by unfold inR; omega, by omega, by unfold inR; omega, by omega, 4, _, by decide, c_willM (d := 0) B A1.2.2.1 B1.2.2.1 B1.2.2.2.1.2.1 (by rw [e90]; exact hg2) (N := 495 + 20 * c) (by rw [e90]; exact hN2) (by omega) (by rw [e90]; omega) (by rw [e90]; omega) (by rw [e90]; omega), fun z2 m2 h2 _ _ => ?_⟩
  obtain ⟨f2, y1, r2⟩ := h2
  have g25 : m2 25 = m 25 := (f2.1 25 (by decide) (by decide)).trans (f1.1 25 (by simp only [List.mem_cons, List.not_mem_nil, or_false]; omega) (by decide))
  have g29 : m2 29 = m 29 := (f2.1 29 (by decide) (by decide)).trans (f1.1 29 (by simp only [List.mem_cons, List.not_mem_nil, or_false]; omega) (by decide))
  have g30 : m2 30 = m 30 := (f2.1 30 (by decide) (by decide)).trans (f1.1 30 (by simp only [List.mem_cons, List.not_mem_nil, or_false]; omega) (by decide))
  have g31 : m2 31 = m 31 := (f2.1 31 (by decide) (by decide)).trans (f1.1 31 (by simp only [List.mem_cons, List.not_mem_nil, or_false]; omega) (by decide))
  have g96 : m2 96 = m 96 := (f2.1 96 (by decide) (by decide)).trans (f1.1 96 (by simp only [List.mem_cons, List.not_mem_nil, or_false]; omega) (by decide))
  have g09 : m2 109 = m 109 := (f2.1 109 (by decide) (by decide)).trans (f1.1 109 (by simp only [List.mem_cons, List.not_mem_nil, or_false]; omega) (by decide))
  have g10 : m2 110 = m 110 := (f2.1 110 (by decide) (by decide)).trans (f1.1 110 (by simp only [List.mem_cons, List.not_mem_nil, or_false]; omega) (by decide))
  have g28 : m2 28 = m 28 := (f2.1 28 (by decide) (by decide)).trans (by funext i; exact f1.2 i (by simp))
  have k45 : m2 70 45 = m 70 45 := by rw [f2.2 45 (by decide), e70]
  have k46 : m2 70 46 = m 70 46 := by rw [f2.2 46 (by decide), e70]
  have hD2 : IvD n (c + 1) m2 := by
    refine ⟨fun i i0 i8 => by rw [g25, y1 i i0 i8, e90]; exact hE i i0 i8, by rw [g25]; exact hS.mono (by omega), by unfold AR; rw [g25, g28, g29, g96, k45, k46]; exact hAR, fun j j0 j1 => by rw [g28] at j1; rw [g29]; exact (hJ j j0 j1).mono (by omega), fun x x0 xlt => ?_⟩
    rw [g30, g31, g09, g10]
    exact ⟨(hBox x x0 xlt).1, fun r => ⟨((hBox x x0 xlt).2 r).1, ((hBox x x0 xlt).2 r).2.mono (by omega)⟩⟩
  have I2 := hI.d2 f1 f2 (by decide) ⟨by decide, by simp only [List.mem_cons, List.not_mem_nil, or_false]; omega⟩ hS9 (by decide) (by decide) hD2
  refine ⟨fun _ => L _ I2, fun r => r ?_⟩
  rw [e90] at r2
  exact WlR.uniq hn5 hE r1 r2
theorem l_about {x3 c : Int} (hx : 0 ≤ x3 ∧ x3 + 6 ≤ (g_L G : Int)) (hL : g_L G ≤ 3072) (hI : Inv c m) (hc : 0 ≤ c ∧ c ≤ 511) (L : ∀ m1, Inv (c + 1) m1 → Wq l G true Y_Law 400 Q 1542 [(0, .inr (.inr 1000)), (1, .inr (.inr 0)), (2, .inr (.inr 70)), (3, .inl x3)] [] m1) : Wq l G true Y_Law 400 Q 1519 [(0, .inr (.inr 1000)), (1, .inr (.inr 0)), (2, .inr (.inr 70)), (3, .inl x3)] [] m := by
  obtain ⟨n, D, W, br, b, b', fs, lk, hd, hI⟩ := hI
  have B := hI.1.1
  have X := hI.1.2.1
  have hn5 := B.1
  obtain ⟨hE, hS, hAR, hJ, hBox⟩ := hI.2.2.2.1
  have hg := hS.1
  have hN := hS.2.1
  have hEn : ∀ i, In n i → m 25 i = m 90 i := fun i hi => hE i hi.1 (by have := hi.2; omega)
  have hN2 : sm n (m 90) ≤ 495 + 20 * c := by rw [← sm_congr hEn]; exact hN
  have hg2 : ∀ i, In n i → 0 ≤ m 90 i := fun i hi => by rw [← hEn i hi]; exact hg i hi
  obtain ⟨t1, t2⟩ := hS.one hn5 (by omega)
  have hgu : ∀ i, In n i → 0 ≤ m 25 i ∧ m 25 i ≤ 1000000 := fun i hi => ⟨hg i hi, by have := t1 i hi; omega⟩
  have hgv : ∀ i, In n i → 0 ≤ m 90 i ∧ m 90 i ≤ 1000000 := fun i hi => by rw [← hEn i hi]; exact hgu i hi
  have hA1 := hAR.1
  have ha : 0 ≤ m 28 1 ∧ m 28 1 ≤ 40 := by omega
  have hav : 0 ≤ m 70 45 ∧ m 70 45 ≤ 40 := by omega
  have e5 := hE 5 (by decide) (by decide)
  have e6 := hE 6 (by decide) (by decide)
  have e7 := hE 7 (by decide) (by decide)
  have hd5 : 0 ≤ m 25 5 ∧ m 25 5 ≤ 900000000 := by have := hS.2.2.1; omega
  have hd5v : 0 ≤ m 90 5 ∧ m 90 5 ≤ 900000000 := by rw [← e5]; exact hd5
  have hd6 := hS.2.2.2.1
  have hd7 := hS.2.2.2.2.1
  refine s_Law_1519 x3 (fun _ _ => ⟨by unfold inR; omega, by omega, 2, _, by decide, c_aboutX (d := 0) B X hg hN (by omega) ⟨hA1.1, hA1.2.1, hA1.2.2.1⟩, fun z m1 h1 _ _ => ?_⟩)
  obtain ⟨r1, rfl⟩ := h1
  refine ⟨by unfold inR; omega, by omega, 3, _, by decide, c_aboutM (d := 0) B hI.1.2.2.1 hg2 hN2 (by omega), fun z2 m2 h2 _ _ => ?_⟩
  obtain ⟨r2, f2⟩ := h2
  have I2 := hI.fm f2 (by decide) (by decide)
  refine ⟨fun _ => L _ I2, fun r => r ?_⟩
  rw [r1, r2, hI.2.1.2.2.2.2.1, hI.2.1.2.2.2.2.2.1, hI.2.1.2.2.2.1.1, hI.2.1.2.2.2.1.2.1, sm_congr hEn, e5, e6, e7, hA1.2.2.2.1, hA1.2.2.2.2, hI.2.2.2.2.2.1.2.2.1, hI.2.2.2.2.2.1.2.2.2.1.1, hI.2.2.1.2.1.1, hI.2.2.2.2.1.1.1, bs_congr (p := fun i => decide (br i ≤ m 25 i)) (q := fun i => decide (br i ≤ m 90 i)) (fun i hi => by rw [hEn i hi])]
end Law5
