/-! a table read by the class -/
section ReadX
variable {l : Launch} {G : GT} {d : Nat} {m m' m1 : MM} {b : Nat} {T : Int → Int} {N : Int}
theorem c_clearX (hb : isB b) : CV l G Y_Board_clear (d + 1) [.inr (.inr b)] m (fun m' => FrY b m m' ∧ m' 2 = m 2 ∧ m' 3 = m 3 ∧ m' 6 = m 6 ∧ (m' b 0 = 0 ∧ m' b 1 = 0 ∧ m' b 2 = 0 ∧ m' b 3 = 0 ∧ m' b 4 = 0) ∧ (∀ i, 0 ≤ i → i < 5 → m' (b + 1) i = 0) ∧ (∀ i, 0 ≤ i → i < 25 → m' (b + 2) i = 0) ∧ (∀ i, 0 ≤ i → i < 5 → m' (b + 3) i = 0) ∧ m' (b + 6) 2 = 0) := by
  have nb := isB_ne hb
  refine e_Board_clear b hb (fun _ m1 e1 m2 e2 m3 e3 m4 e4 m5 e5 => ?_)
  have f5 : Fr [b] m m5 := fun a ha => by
    have : a ≠ b := fun q => ha (by rw [q]; simp)
    rw [e5, up_ne this, e4, up_ne this, e3, up_ne this, e2, up_ne this, e1, up_ne this]
  have z5 : m5 b 0 = 0 ∧ m5 b 1 = 0 ∧ m5 b 2 = 0 ∧ m5 b 3 = 0 ∧ m5 b 4 = 0 := by
    refine ⟨?_, ?_, ?_, ?_, ?_⟩
    · rw [e5, up_off (by decide), e4, up_off (by decide), e3, up_off (by decide), e2, up_off (by decide), e1, up_at]
    · rw [e5, up_off (by decide), e4, up_off (by decide), e3, up_off (by decide), e2, up_at]
    · rw [e5, up_off (by decide), e4, up_off (by decide), e3, up_at]
    · rw [e5, up_off (by decide), e4, up_at]
    · rw [e5, up_at]
  refine ⟨d, _, by omega, c_fill (isB_l5 hb) (by decide) (by decide), fun m6 h6 _ => ⟨d, _, by omega, c_fill (isB_l6 hb) (by decide) (by decide), fun m7 h7 _ => ⟨d, _, by omega, c_fill (isB_l7 hb) (by decide) (by decide), fun m8 h8 _ => ⟨d, _, by omega, e_Formula_clear (P := fun m' => m' = up m8 (b + 6) 2 0) (b + 6) (isB_f hb) (fun _ m9 e9 => e9), fun m9 e9 _ => ?_⟩⟩⟩⟩
  obtain ⟨f6, g6⟩ := h6
  obtain ⟨f7, g7⟩ := h7
  obtain ⟨f8, g8⟩ := h8
  have k : ∀ a, a ≠ b → a ≠ b + 1 → a ≠ b + 2 → a ≠ b + 3 → a ≠ b + 6 → m9 a = m a := fun a a0 a1 a2 a3 a6 => by
    rw [e9, up_ne a6, f8 a (by simp only [List.mem_singleton]; exact a3), f7 a (by simp only [List.mem_singleton]; exact a2), f6 a (by simp only [List.mem_singleton]; exact a1), f5 a (by simp only [List.mem_singleton]; exact a0)]
  have kb : m9 b = m5 b := by
    rw [e9, up_ne (by omega), f8 b (by simp only [List.mem_singleton]; omega), f7 b (by simp only [List.mem_singleton]; omega), f6 b (by simp only [List.mem_singleton]; omega)]
  refine ⟨fun a i hi => ?_, k 2 (by omega) (by omega) (by omega) (by omega) (by omega), k 3 (by omega) (by omega) (by omega) (by omega) (by omega), k 6 (by omega) (by omega) (by omega) (by omega) (by omega), by rw [kb]; exact z5, fun i i0 i1 => ?_, fun i i0 i1 => ?_, fun i i0 i1 => ?_, by rw [e9, up_at]⟩
  · have : ¬ (b ≤ a ∧ a ≤ b + 8) := fun g => hi (Or.inr (Or.inr (Or.inr g)))
    rw [k a (by omega) (by omega) (by omega) (by omega) (by omega)]
  · rw [e9, up_ne (by omega), f8 (b + 1) (by simp only [List.mem_singleton]; omega), f7 (b + 1) (by simp only [List.mem_singleton]; omega)]
    exact g6 i i0 i1
  · rw [e9, up_ne (by omega), f8 (b + 2) (by simp only [List.mem_singleton]; omega)]
    exact g7 i i0 i1
  · rw [e9, up_ne (by omega)]
    exact g8 i i0 i1
/-- what reading leaves -/
def PrX (T : Int → Int) (N : Int) (b : Nat) (m : MM) (z : Int) (m' : MM) : Prop :=
  FrY b m m' ∧ ∃ R', TaR T N R' ∧ ((∃ f, R' = .inl f ∧ z = 0 ∧ m' 2 6 = f.1 ∧ m' 2 7 = f.2) ∨ ∃ Z cs, R' = .inr (Z, cs) ∧ z = 1 ∧ ZI N Z cs ∧ okZ Z ∧ m' 2 6 = 0 ∧ m' 2 7 = -1 ∧ BdX b Z cs m' ∧ BX (zn Z) (ZD Z) (ZW Z) (zbr Z) b m' ∧ ∀ i, In (zn Z) i → FaR (zn Z) (ZD Z) (ZW Z) i (m' (b + 5) i))
theorem c_readX (hG : GVok G) (hb : isB b) (hK : KyX m) (hN : 0 ≤ N ∧ N ≤ 1600) (hT : ∀ t, 0 ≤ t → t < N → m 1 t = T t ∧ 0 ≤ T t ∧ T t ≤ 255) : CI l G Y_Reader_read (d + 57) [.inr (.inr 2), .inr (.inr 1), .inl N, .inr (.inr b)] m (PrX T N b m) := by
  have nb := isB_ne hb
  generalize hQ : PrX T N b m = Q
  -- the end
  have fin : ∀ (m1 : MM), FrY b m m1 → ((∃ f, TaR T N (.inl f) ∧ FyX b f m1) ∨ ∃ Z cs, (∃ k, TbR T N k (fun _ => 0) [] (.inr (Z, cs))) ∧ HdX T N b (Z 0) m1 ∧ BdX b Z cs m1 ∧ ZI N Z cs) → (((m1 2 6) ≠ 0 → (((m1 2 6) ≠ 0 → (Q 0 m1)) ∧ (¬ ((m1 2 6) ≠ 0) → (Q 1 m1)))) ∧ (¬ ((m1 2 6) ≠ 0) → (∃ b16 : Nat, m1 2 2 = b16 ∧ isB b16 ∧ (∃ (e20 : Nat) (P21 : Int → MM → Prop), e20 < d + 57 ∧ CI l G Y_Board_finish e20 [.inr (.inr b16)] m1 P21 ∧ (∀ z26 m27, P21 z26 m27 → inR z26 → wfM m27 → ((z26 ≠ 0 → (((m27 2 6) ≠ 0 → (Q 0 m27)) ∧ (¬ ((m27 2 6) ≠ 0) → (Q 1 m27)))) ∧ (¬ (z26 ≠ 0) → (∃ (e41 : Nat) (P42 : MM → Prop), e41 < d + 57 ∧ CV l G Y_Reader_tellFault e41 [.inr (.inr 2), .inl 6, .inl N] m27 P42 ∧ (∀ m48, P42 m48 → wfM m48 → (((m48 2 6) ≠ 0 → (Q 0 m48)) ∧ (¬ ((m48 2 6) ≠ 0) → (Q 1 m48)))))))))))) := by
    intro m1 f1 h1
    rcases h1 with ⟨f, hf, hm⟩ | ⟨Z, cs, hTb, H1, B1, hZ⟩
    · have ne : m1 2 6 ≠ 0 := by rw [hm.1]; exact hm.2.2.1
      have hq : Q 0 m1 := by
        rw [← hQ]
        exact ⟨f1, _, hf, Or.inl ⟨f, rfl, rfl, hm.1, hm.2.1⟩⟩
      exact ⟨fun _ => ⟨fun _ => hq, fun c => absurd ne c⟩, fun c => absurd ne c⟩
    · obtain ⟨hBV, hzn⟩ := hZ.2.bv
      have hb1 := H1.2.2.2
      have hn5 := hBV.1
      have q0 : m1 b 0 = ((zn Z : Nat) : Int) := by rw [B1.1.1, hzn]
      have q3 : ∀ i, In (zn Z) i → m1 (b + 3) i = ZD Z i := fun i hi => B1.2.2.2.2.1 i hi.1 (by have := hi.2; omega)
      have q2 : ∀ i j, In (zn Z) i → In (zn Z) j → m1 (b + 2) (i * 5 + j) = ZW Z i j := fun i j hi hj => B1.2.2.2.2.2.1 i j hi.1 (by have := hi.2; omega) hj.1 (by have := hj.2; omega)
      refine ⟨fun c => absurd H1.2.1 c, fun _ => ⟨b, hb1.1, hb, d + 3, _, by omega, c_finishX hBV hb q0 q3 q2, fun z m2 hz _ _ => ?_⟩⟩
      obtain ⟨f2, hz0, hz1, h4, h5⟩ := hz
      have k : ∀ a, a ≠ b + 4 → a ≠ b + 5 → m2 a = m1 a := fun a a1 a2 => f2 a (by simp only [List.mem_cons, List.not_mem_nil, or_false]; omega)
      have fy2 : FrY b m m2 := f1.tr (fun a i hi => by
        rw [k a (fun q => hi (Or.inr (Or.inr (Or.inr (by omega))))) (fun q => hi (Or.inr (Or.inr (Or.inr (by omega)))))])
      have e6 : m2 2 6 = 0 := by rw [k 2 (by omega) (by omega)]; exact H1.2.1
      obtain ⟨kk, hTb⟩ := hTb
      refine ⟨fun c => ⟨fun c2 => absurd e6 c2, fun _ => ?_⟩, fun c => ⟨d, _, by omega, c_tellX e6, fun m3 e3 _ => ?_⟩⟩
      · have ok : okZ Z := Classical.not_not.mp (fun g => c (hz0.mpr g))
        rw [← hQ]
        refine ⟨fy2, .inr (Z, cs), ⟨kk, _, hTb, Or.inr ⟨Z, cs, rfl, Or.inl ⟨ok, rfl⟩⟩⟩, Or.inr ⟨Z, cs, rfl, rfl, hZ, ok, e6, by rw [k 2 (by omega) (by omega)]; exact H1.2.2.1, ?_, ⟨?_, fun i hi => ?_, fun i hi => h4 i hi, fun i j hi hj => ?_⟩, fun i hi => h5 i hi (ok i hi)⟩⟩
        · unfold BdX CF
          rw [k b (by omega) (by omega), k 2 (by omega) (by omega), k 6 (by omega) (by omega), k (b + 1) (by omega) (by omega), k (b + 2) (by omega) (by omega), k (b + 3) (by omega) (by omega), k (b + 6) (by omega) (by omega), k (b + 6 + 1) (by omega) (by omega)]
          exact B1
        · rw [k b (by omega) (by omega)]; exact q0
        · rw [k (b + 3) (by omega) (by omega)]; exact q3 i hi
        · rw [k (b + 2) (by omega) (by omega)]; exact q2 i j hi hj
      · have nok : ¬ okZ Z := hz0.mp (Classical.not_not.mp c)
        have n6 : m3 2 6 = 6 := by rw [e3, up_off (by decide), up_at]
        have n7 : m3 2 7 = N := by rw [e3, up_at]
        refine ⟨fun _ => ?_, fun c => absurd (by rw [n6]; decide) c⟩
        rw [← hQ]
        exact ⟨fy2.tr ((FrY.pt rfl (Or.inl ⟨rfl, by decide, by decide⟩)).tr (FrY.pt e3 (Or.inl ⟨rfl, by decide, by decide⟩))), .inl (6, N), ⟨kk, _, hTb, Or.inr ⟨Z, cs, rfl, Or.inr ⟨nok, rfl⟩⟩⟩, Or.inl ⟨_, rfl, rfl, n6, n7⟩⟩
  -- the lines
  have loop : ∀ (s : Nat) (i : Int) (Z : Int → Int) (cs : List Int) (m1 : MM), N - Z 0 ≤ s → 0 ≤ i → i ≤ Z 0 → FrY b m m1 → HdX T N b (Z 0) m1 → BdX b Z cs m1 → ZI N Z cs → (∀ R, (∃ k, TbR T N k Z cs R) → ∃ k, TbR T N k (fun _ => 0) [] R) → Wq l G false Y_Reader_read (d + 57) (QI Q) 49 [(0, .inr (.inr 2)), (2, .inl N), (4, .inl i)] [] m1 := by
    intro s
    induction s with
    | zero =>
      intro i Z cs m1 hs i0 hi f1 H1 B1 hZ hc
      have hp := hZ.1
      have kz : kd T N (Z 0) = 0 := by
        have tr := tk_rng (T := T) (N := N) (p := Z 0) ⟨hp.1, hp.2.1⟩
        exact Classical.byContradiction (fun g => by have := tr.2.2.2.1 g; omega)
      have hf := fin m1 f1 (Or.inr ⟨Z, cs, hc _ ⟨1, Or.inl ⟨kz, rfl⟩⟩, H1, B1, hZ⟩)
      refine s_Reader_read_49 _ _ (fun _ _ _ => ⟨fun _ => hf, fun _ => ⟨fun c => absurd H1.2.1 c, fun _ => ⟨fun _ => hf, fun c => absurd (by rw [H1.1.2.2.2.1]; exact kz) c⟩⟩⟩)
    | succ s ih =>
      intro i Z cs m1 hs i0 hi f1 H1 B1 hZ hc
      have hp := hZ.1
      have k4 := H1.1.2.2.2.1
      have tr := tk_rng (T := T) (N := N) (p := Z 0) ⟨hp.1, hp.2.1⟩
      have hf := fun kz => fin m1 f1 (Or.inr ⟨Z, cs, hc _ ⟨1, Or.inl ⟨kz, rfl⟩⟩, H1, B1, hZ⟩)
      refine s_Reader_read_49 _ _ (fun _ _ _ => ⟨fun c => hf ?_, fun c16 => ⟨fun c => absurd H1.2.1 c, fun _ => ⟨fun c => hf (by rw [← k4]; exact c), fun c => ⟨d + 55, _, by omega, c_lineX hG H1 B1 hZ, fun m2 h2 _ => ⟨by unfold inR; omega, ?_⟩⟩⟩⟩⟩)
      · exact Classical.byContradiction (fun g => by have := tr.2.2.2.1 g; omega)
      · obtain ⟨f2, R1, hR1, h2⟩ := h2
        have fy : FrY b m m2 := f1.tr f2
        have knz : kd T N (Z 0) ≠ 0 := by rw [← k4]; exact c
        rcases h2 with ⟨f, e, hm⟩ | ⟨Y, c', e, H2, B2⟩
        · have hf2 := fin m2 fy (Or.inl ⟨f, ?_, hm⟩)
          · have ne : m2 2 6 ≠ 0 := by rw [hm.1]; exact hm.2.2.1
            exact s_Reader_read_49 _ _ (fun _ _ _ => ⟨fun _ => hf2, fun _ => ⟨fun _ => hf2, fun c => absurd ne c⟩⟩)
          · obtain ⟨k, hk⟩ := hc (.inl f) ⟨1, Or.inr ⟨knz, R1, hR1, (fun g eg => by rw [e] at eg; cases eg; rfl), (fun Y c eg => by rw [e] at eg; cases eg)⟩⟩
            exact ⟨k, _, hk, Or.inl ⟨f, rfl, rfl⟩⟩
        · rw [e] at hR1
          obtain ⟨hZ2, hlt⟩ := hZ.step hR1
          refine ih (i + 1) Y c' m2 (by omega) (by omega) (by omega) fy H2 B2 hZ2 (fun R hR => ?_)
          obtain ⟨k, hk⟩ := hR
          exact hc R ⟨k + 1, Or.inr ⟨knz, _, hR1, (fun g eg => by cases eg), (fun Y2 c2 eg => by cases eg; exact hk)⟩⟩
  refine e_Reader_read N 1 1600 b rfl (by decide) hb (fun _ _ m1 e1 => ⟨b, by rw [e1, up_at], hb, d + 1, _, by omega, c_clearX hb, fun m2 h2 _ m3 e3 m4 e4 m5 e5 m6 e6 m7 e7 => ?_⟩)
  obtain ⟨f2, k2, k3, k6, z0, zh, zw, zd, zf⟩ := h2
  refine ⟨d + 6, fun m' => Fro 3 [] [1, 2, 3, 4, 5, 6] m7 m' ∧ TpX T N 0 m', by omega, ?_, fun m8 h8 _ => ?_⟩
  · refine e_Tokens_start N 1 1600 rfl (by decide) (by omega) (fun _ _ m8 e8 => ⟨by decide, fun m9 e9 m10 e10 => ?_⟩)
    have o : ∀ a, a ≠ 3 → m10 a = m7 a := fun a ha => by rw [e10, up_ne ha, e9, up_ne ha, e8, up_ne ha]
    have o7 : ∀ a, a ≠ 2 → m7 a = m2 a := fun a ha => by rw [e7, up_ne ha, e6, up_ne ha, e5, up_ne ha, e4, up_ne ha, e3, up_ne ha]
    have base : ∀ a, a = 1 ∨ a = 4 → m10 a = m a := fun a ha => by
      rw [o a (by omega), o7 a (by omega)]
      funext i
      rw [f2 a i (fun g => by unfold rgY at g; omega), e1, up_ne (by omega)]
    have X10 : TxX T N m10 := by
      refine ⟨by rw [e10, up_off (by decide), e9, up_off (by decide), e8, up_at], ?_, hN.1, hN.2, fun t t0 t1 => by rw [base 1 (Or.inl rfl)]; exact hT t t0 t1, fun j j0 j1 => by rw [base 4 (Or.inr rfl)]; exact hK j j0 j1⟩
      rw [e10, up_off (by decide), e9, up_at]
      show min N 1600 = N
      omega
    refine ⟨d + 5, _, by omega, c_nextX (d := d + 1) hG (p := 0) X10 ⟨by rw [e10, up_at], Int.le_refl 0, hN.1⟩, fun m11 h11 _ => ?_⟩
    obtain ⟨f11, t11⟩ := h11
    refine ⟨⟨fun a ha h3 => by rw [f11.1 a (by simp) h3, o a h3], fun i hi => ?_⟩, t11⟩
    simp only [List.mem_cons, List.not_mem_nil, or_false] at hi
    rw [f11.2 i (by simp only [List.mem_cons, List.not_mem_nil, or_false]; omega), e10, up_off (by omega), e9, up_off (by omega), e8, up_off (by omega)]
  · obtain ⟨f8, t8⟩ := h8
    have k8 : ∀ a, a ≠ 3 → m8 a = m7 a := fun a ha => f8.1 a (by simp) ha
    have o7 : ∀ a, a ≠ 2 → m7 a = m2 a := fun a ha => by rw [e7, up_ne ha, e6, up_ne ha, e5, up_ne ha, e4, up_ne ha, e3, up_ne ha]
    have o8 : ∀ a, a ≠ 2 → a ≠ 3 → m8 a = m2 a := fun a h2 h3 => by rw [k8 a h3, o7 a h2]
    have b22 : m8 2 2 = b := by
      rw [k8 2 (by decide), e7, up_off (by decide), e6, up_off (by decide), e5, up_off (by decide), e4, up_off (by decide), e3, up_off (by decide), k2, e1, up_at]
    have b26 : m8 2 6 = 0 := by rw [k8 2 (by decide), e7, up_off (by decide), e6, up_at]
    have b27 : m8 2 7 = -1 := by rw [k8 2 (by decide), e7, up_at]
    have b23 : m8 2 3 = 0 := by rw [k8 2 (by decide), e7, up_off (by decide), e6, up_off (by decide), e5, up_off (by decide), e4, up_off (by decide), e3, up_at]
    have b24 : m8 2 4 = 0 := by rw [k8 2 (by decide), e7, up_off (by decide), e6, up_off (by decide), e5, up_off (by decide), e4, up_at]
    have b25 : m8 2 5 = 0 := by rw [k8 2 (by decide), e7, up_off (by decide), e6, up_off (by decide), e5, up_at]
    have fy8 : FrY b m m8 := by
      intro a i hi
      by_cases a2 : a = 2
      · subst a2
        have hi' : ¬ (2 ≤ i ∧ i ≤ 7) := fun g => hi (Or.inl ⟨rfl, g⟩)
        rw [k8 2 (by decide), e7, up_off (by omega), e6, up_off (by omega), e5, up_off (by omega), e4, up_off (by omega), e3, up_off (by omega), k2, e1, up_off (by omega)]
      · have a3 : a ≠ 3 := fun q => hi (Or.inr (Or.inl q))
        rw [o8 a a2 a3, f2 a i hi, e1, up_ne a2]
    have B8 : BdX b (fun _ => 0) [] m8 := by
      refine ⟨by rw [o8 b (by omega) (by omega)]; exact z0, ⟨b23, b24, b25⟩, fun i i0 i1 => ?_, fun i i0 i1 => ?_, fun i i0 i1 => ?_, fun i j i0 i1 j0 j1 => ?_, ?_, by decide, fun j s hs => ?_⟩
      · have i1 : i < 0 := i1
        omega
      · rw [o8 (b + 1) (by omega) (by omega), zh i i0 i1]
        show (0 : Int) = if i < 0 then 0 else 0
        split <;> rfl
      · rw [o8 (b + 3) (by omega) (by omega)]; exact zd i i0 i1
      · rw [o8 (b + 2) (by omega) (by omega)]; exact zw (i * 5 + j) (by omega) (by omega)
      · rw [o8 (b + 6) (by omega) (by omega)]; exact zf
      · simp at hs
    exact loop N.toNat 0 (fun _ => 0) [] m8 (by show N - 0 ≤ _; omega) (Int.le_refl 0) (Int.le_refl 0) fy8 ⟨t8, b26, b27, b22, hb⟩ B8 (ZI.nil hN.1) (fun R hR => hR)
end ReadX
