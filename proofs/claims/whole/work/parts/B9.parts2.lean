/-! the parts of both -/
section Parts2
variable {l : Launch} {G : GT} {d : Nat} {m : MM} {b : Nat} {n : Nat} {D : Int → Int} {W : Int → Int → Int} {br : Int → Int}
theorem c_divisorOfMinors (B : BW n D W br) (M : MnR n W br (m 38 1) (m 39)) {k : Nat} (hk : 1 ≤ k ∧ k ≤ n) : CJ l G Y_Group_divisorOfMinors (d + 2) [.inr (.inr 38), .inl (k : Int)] m (fun z m' => z = dkF n W br k ∧ m = m') := by
  have hn5 := B.1
  have hf0 := bs5_range hn5 (fun _ => true)
  obtain ⟨M1, M2⟩ := M
  generalize hA : bs n (fun _ => true) = A at hf0 M1
  have hSub : ∀ x : Int, Sub n x ↔ 0 ≤ x ∧ x ≤ A := fun x => by unfold Sub; rw [hA]
  have hpos : ∀ x : Int, Sub n x → cnt x 5 = k → 1 ≤ x := fun x h1 h2 => by
    have h3 := (nt_1 (h1.rng hn5)).2.2.1
    have := h1.1
    rcases Int.lt_or_le 0 x with q | q
    · exact q
    · have := h3.mp (by omega)
      omega
  refine e_Group_divisorOfMinors _ (fun _ _ => ?_)
  have outer : ∀ (s : Nat) (r z : Int), r + s = A + 1 → 1 ≤ r → z < 9223372036854775808 → DvP n W br k (fun R _ => R < r) z → Wq l G false Y_Group_divisorOfMinors (d + 2) (QJ fun z m' => z = dkF n W br k ∧ m = m') 5 [(0, .inr (.inr 38)), (1, .inl (k : Int)), (2, .inr (.inl z)), (4, .inl r)] [] m := by
    intro s
    induction s with
    | zero =>
      intro r z hrs r1 _ hz
      exact s_Group_divisorOfMinors_5 _ _ _ (fun _ _ _ _ => ⟨fun _ => ⟨DvP.uniq (hz.cg (fun R C h1 _ _ _ => ⟨fun _ => trivial, fun _ => by have := (hSub R).mp h1; omega⟩)) (dk_is hn5 k), rfl⟩, fun c => absurd (show r > m 38 1 by omega) c⟩)
    | succ s ih =>
      intro r z hrs r1 hzl hz
      have hr : Sub n r := (hSub r).mpr (by omega)
      have hr32 := hr.rng hn5
      refine s_Group_divisorOfMinors_5 _ _ _ (fun _ _ _ _ => ⟨fun c => absurd c (by omega), fun _ => ?_⟩)
      have inner : ∀ (t : Nat) (c z : Int), c + t = A + 1 → 1 ≤ c → z < 9223372036854775808 → DvP n W br k (fun R C => R < r ∨ (R = r ∧ C < c)) z → Wq l G false Y_Group_divisorOfMinors (d + 2) (QJ fun z m' => z = dkF n W br k ∧ m = m') 17 [(0, .inr (.inr 38)), (1, .inl (k : Int)), (2, .inr (.inl z)), (4, .inl r), (5, .inl c)] [] m := by
        intro t
        induction t with
        | zero =>
          intro c z hct c1 hzl hz
          refine s_Group_divisorOfMinors_17 _ _ _ _ (fun _ _ _ _ _ => ⟨fun _ => ⟨by omega, ih (r + 1) z (by omega) (by omega) hzl (hz.cg (fun R C h1 h2 _ _ => ?_))⟩, fun q => absurd (show c > m 38 1 by omega) q⟩)
          have := (hSub C).mp h2
          omega
        | succ t iht =>
          intro c z hct c1 hzl hz
          have hc : Sub n c := (hSub c).mpr (by omega)
          have hc32 := hc.rng hn5
          have nr := (nt_1 hr32).1
          have nc := (nt_1 hc32).1
          have skip : ¬ (cnt r 5 = k ∧ cnt c 5 = k) → DvP n W br k (fun R C => R < r ∨ (R = r ∧ C < c + 1)) z := fun q => hz.cg (fun R C h1 h2 h3 h4 => by
            by_cases e : R = r ∧ C = c
            · exfalso; rw [e.1] at h3; rw [e.2] at h4; exact q ⟨h3, h4⟩
            · omega)
          refine s_Group_divisorOfMinors_17 _ _ _ _ (fun _ _ _ _ _ => ⟨fun q => absurd q (by omega), fun _ => ⟨d, _, by omega, c_bitCount hr32, fun z1 m3 hz1 _ _ => ?_⟩⟩)
          obtain ⟨rfl, rfl⟩ := hz1
          refine ⟨fun q => ⟨by omega, iht (c + 1) z (by omega) (by omega) hzl (skip (by omega))⟩, fun q1 => ⟨d, _, by omega, c_bitCount hc32, fun z2 m3 hz2 _ _ => ?_⟩⟩
          obtain ⟨rfl, rfl⟩ := hz2
          refine ⟨fun q => ⟨by omega, iht (c + 1) z (by omega) (by omega) hzl (skip (by omega))⟩, fun q2 => ?_⟩
          have kr : cnt r 5 = k := by have := Classical.not_not.mp q1; omega
          have kc : cnt c 5 = k := by have := Classical.not_not.mp q2; omega
          have hv := M2 r c hr hc (by omega)
          have hm := MnV_rng B hr hc (by omega)
          have h5 := fct_le (k := cnt r 5) (by omega)
          have hz0 := hz.1
          rw [hv]
          refine ⟨by omega, by omega, by omega, d + 1, _, by omega, c_commonDivisor (by omega) (by omega), fun z3 m3 hz3 hl3 _ => ⟨by omega, ?_⟩⟩
          obtain ⟨rfl, rfl⟩ := hz3
          exact iht (c + 1) _ (by omega) (by omega) (by have := hl3.2; omega) ((hz.add hr hc kr kc).cg (fun R C _ _ _ _ => by omega))
      refine inner A.toNat 1 z (by omega) (by omega) hzl (hz.cg (fun R C h1 h2 _ h4 => ?_))
      have := hpos C h2 h4
      omega
  exact outer A.toNat 1 0 (by omega) (by omega) (by decide) (DvP.nil (fun R C h1 _ h3 _ q => by have := hpos R h1 h3; omega))
/-- what the class knows of the parts -/
def PtR (n : Nat) (W : Int → Int → Int) (br : Int → Int) (m : MM) : Prop := m 38 5 = pcF n W br n ∧ ∀ i, 0 ≤ i → i < pcF n W br n → m 44 i = paF n W br i n
theorem c_learnParts (B : BW n D W br) (M : MnR n W br (m 38 1) (m 39)) : CV l G Y_Group_learnParts (d + 3) [.inr (.inr 38), .inl (n : Int)] m (fun m' => Fro 38 [44] [5] m m' ∧ PtR n W br m') := by
  have hn5 := B.1
  have MF : ∀ m1, Fro 38 [44] [5] m m1 → MnR n W br (m1 38 1) (m1 39) := fun m1 f => by
    rw [f.2 1 (by decide), f.1 39 (by decide) (by decide)]; exact M
  refine e_Group_learnParts _ (fun _ _ m1 e1 => ?_)
  have loop : ∀ (s k : Nat) (m1 : MM), k + s = n → Fro 38 [44] [5] m m1 → m1 38 5 = pcF n W br k → (∀ i, 0 ≤ i → i < pcF n W br k → m1 44 i = paF n W br i k) → Wq l G false Y_Group_learnParts (d + 3) (QV fun m' => Fro 38 [44] [5] m m' ∧ PtR n W br m') 10 [(0, .inr (.inr 38)), (1, .inl (n : Int)), (2, .inr (.inl (dkF n W br k))), (4, .inl ((k : Int) + 1))] [] m1 := by
    intro s
    induction s with
    | zero =>
      intro k m1 hks f h1 h2
      have e : k = n := by omega
      rw [e] at h1 h2
      exact s_Group_learnParts_10 _ _ _ (fun _ _ _ _ => ⟨fun _ => ⟨f, h1, h2⟩, fun c => absurd (show (k : Int) + 1 > n by omega) c⟩)
    | succ s ih =>
      intro k m1 hks f h1 h2
      have hd1 := dk_rng B (k := k) (by omega)
      have hp := pt_rng B (k := k) (by omega)
      have hpc := pc_rng (n := n) (W := W) (br := br) k
      have epc : pcF n W br (k + 1) = if ptF n W br k = 1 then pcF n W br k else pcF n W br k + 1 := rfl
      have epa : ∀ i, paF n W br i (k + 1) = if ptF n W br k ≠ 1 ∧ pcF n W br k = i then ptF n W br k else paF n W br i k := fun i => rfl
      refine s_Group_learnParts_10 _ _ _ (fun _ _ _ _ => ⟨fun c => absurd c (by omega), fun _ => ⟨d + 2, _, by omega, c_divisorOfMinors (k := k + 1) B (MF m1 f) (by omega), fun z m2 hz _ _ => ⟨fun c => absurd c (by omega), fun _ => ?_⟩⟩⟩)
      obtain ⟨rfl, rfl⟩ := hz
      have nx := fun mm => ih (k + 1) mm (by omega)
      rw [show ((k + 1 : Nat) : Int) + 1 = (k : Int) + 1 + 1 by omega] at nx
      have ept : Int.tdiv (dkF n W br (k + 1)) (dkF n W br k) = ptF n W br k := rfl
      rw [ept]
      refine ⟨⟨by omega, by omega⟩, s_Group_learnParts_38 _ _ _ _ (fun _ _ _ _ _ => ⟨fun c => ⟨by omega, ?_⟩, fun c => ⟨fun c2 => ?_, fun c2 => ⟨by omega, by omega, ?_⟩⟩⟩)⟩
      · have e1 : ptF n W br k = 1 := by omega
        rw [if_pos e1] at epc
        refine nx m1 f (by rw [h1, epc]) (fun i i0 i1 => ?_)
        rw [epa, if_neg (fun q => q.1 e1)]
        exact h2 i i0 (by omega)
      · omega
      · rintro m2 rfl
        have e1 : ptF n W br k ≠ 1 := by omega
        rw [if_neg e1] at epc
        have e38 : up m1 44 (m1 38 5) (ptF n W br k) 38 5 = m1 38 5 := by rw [up_ne (by decide)]
        rw [e38]
        refine ⟨by omega, ?_⟩
        rintro m3 rfl
        refine ⟨by omega, nx _ (Fro_upo (Fro_up f (by simp) (by decide)) (by simp)) (by rw [up_at, h1, epc]) (fun i i0 i1 => ?_)⟩
        rw [up_ne (by decide), up_row, epa]
        by_cases q : i = m1 38 5
        · rw [if_pos q, if_pos ⟨e1, by omega⟩]
        · rw [if_neg q, if_neg (fun q2 => q (by omega))]
          exact h2 i i0 (by omega)
  have := loop n 0 m1 (by omega) (by rw [e1]; exact Fro_upo Fro.rf (by simp)) (by rw [e1, up_at]; rfl) (fun i i0 i1 => by
    have : pcF n W br 0 = 0 := rfl
    omega)
  exact this
/-- all that the class learns of a board -/
theorem c_learn (B : BW n D W br) (hb : isB b) (X : BX n D W br b m) : CV l G Y_Group_learn (d + 4) [.inr (.inr 38), .inr (.inr b)] m (fun m' => Fro 38 [39, 40, 41, 42, 43, 44] [1, 5, 6] m m' ∧ GL n W br m' ∧ PtR n W br m' ∧ FlR n W br (m' 40)) := by
  have hn5 := B.1
  refine c_learnMinors (d := d + 1) B hb X (fun m1 f M => ?_)
  have hf0 := bs5_range hn5 (fun _ => true)
  have e1 := M.1
  have hfu := full_1 hn5
  have ev := M.2 _ _ full_sub full_sub rfl
  rw [MnV_full B] at ev
  have XF : ∀ m1, Fro 38 [39, 44] [1, 5, 6] m m1 → BX n D W br b m1 := fun m1 f => X.fr (S := [38, 39, 44]) (fun c hc => f.1 c (by simp only [List.mem_cons, List.not_mem_nil, or_false] at hc ⊢; omega) (by simp only [List.mem_cons, List.not_mem_nil, or_false] at hc; omega)) (by rcases hb with rfl | rfl <;> decide) (by rcases hb with rfl | rfl <;> decide) (by rcases hb with rfl | rfl <;> decide) (by rcases hb with rfl | rfl <;> decide)
  refine s_Group_learn_21 _ b hb (fun _ _ => ⟨fun _ => ?_, fun c => absurd (show bs n (fun _ => true) + 1 > m1 38 1 by omega) c⟩)
  rw [e1, ev]
  refine ⟨by omega, by omega, by omega, ?_⟩
  intro m2 e2
  have f2 : Fro 38 [39, 44] [1, 5, 6] m m2 := by rw [e2]; exact Fro_upo (f.mono (by simp) (by simp)) (by simp)
  have X2 := XF m2 f2
  have M2 : MnR n W br (m2 38 1) (m2 39) := by rw [e2, up_off (by decide), up_ne (by decide)]; exact M
  have s2 : m2 38 6 = dtm n (enN W br) := by rw [e2, up_at]
  rw [X2.1]
  refine ⟨d + 3, _, by omega, c_learnParts B M2, fun m3 hm3 _ => ?_⟩
  obtain ⟨f3, P3⟩ := hm3
  have f23 : Fro 38 [39, 44] [1, 5, 6] m m3 := f2.tr (f3.mono (by simp) (by simp))
  refine ⟨d + 3, _, by omega, c_learnFiller B hb (XF m3 f23), fun m4 hm4 _ => ?_⟩
  obtain ⟨f4, F4⟩ := hm4
  have e38 : m4 38 = m3 38 := f4 38 (by decide)
  have e39 : m4 39 = m3 39 := f4 39 (by decide)
  have e44 : m4 44 = m3 44 := f4 44 (by decide)
  refine ⟨(f23.mono (by simp) (by simp)).tr ⟨fun c hc _ => f4 c (fun q => hc (by simp only [List.mem_cons, List.not_mem_nil, or_false] at q ⊢; omega)), fun i _ => by rw [e38]⟩, ⟨?_, ?_⟩, ?_, F4⟩
  · rw [e38, e39, f3.2 1 (by decide), f3.1 39 (by decide) (by decide)]; exact M2.q
  · rw [e38, f3.2 6 (by decide)]; exact s2
  · unfold PtR at P3 ⊢
    rw [e38, e44]; exact P3
theorem c_partsX (B : BW n D W br) (H : PtR n W br m) {x : Int} : CI l G Y_S_parts d [.inr (.inr 0), .inl x] m (fun z m' => z = paF n W br x n ∧ m = m') := by
  have hn5 := B.1
  have hpc := pc_rng (n := n) (W := W) (br := br) n
  obtain ⟨h1, h2⟩ := H
  exact e_S_parts x (fun _ _ => ⟨fun c => ⟨(pa_none n (Or.inl c)).symm, rfl⟩, fun c => ⟨fun c2 => ⟨(pa_none n (Or.inr (by omega))).symm, rfl⟩, fun c2 => ⟨by omega, h2 x (by omega) (by omega), rfl⟩⟩⟩)
theorem c_divisorOf (B : BW n D W br) (X : BM n D W br m) {k : Nat} (hk : 1 ≤ k ∧ k ≤ n) : CI l G Y_M_divisorOf (d + 3) [.inr (.inr 70), .inl (k : Int)] m (fun z m' => Fr [99] m m' ∧ z = dkF n W br k) := by
  have hn5 := B.1
  have hf0 := bs5_range hn5 (fun _ => true)
  have hful := bs_full hn5
  have XF : ∀ m1, Fr [99] m m1 → BM n D W br m1 := fun m1 f => X.fro (S := [99]) (I := []) ⟨fun c hc _ => f c hc, fun i _ => by rw [f 70 (by decide)]⟩ (by decide) (by decide) (by decide) (by decide) (by decide)
  generalize hA : bs n (fun _ => true) = A at hf0 hful
  have hSub : ∀ x : Int, Sub n x ↔ 0 ≤ x ∧ x ≤ A := fun x => by unfold Sub; rw [hA]
  have esh : bShl 1 (n : Int) = A + 1 := by omega
  refine e_M_divisorOf _ (fun _ _ => ?_)
  have outer : ∀ (s : Nat) (r z : Int) (m1 : MM), r + s = A + 1 → 0 ≤ r → Fr [99] m m1 → DvP n W br k (fun R _ => R < r) z → Wq l G false Y_M_divisorOf (d + 3) (QI fun z m' => Fr [99] m m' ∧ z = dkF n W br k) 4 [(0, .inr (.inr 70)), (1, .inl (k : Int)), (2, .inl z), (3, .inl r)] [] m1 := by
    intro s
    induction s with
    | zero =>
      intro r z m1 hrs r1 f hz
      refine s_M_divisorOf_4 _ _ _ (fun _ _ _ _ => ⟨d, _, by omega, c_lots (XF m1 f), fun z1 m2 hz1 _ _ => ?_⟩)
      obtain ⟨rfl, rfl⟩ := hz1
      exact ⟨fun _ => ⟨f, DvP.uniq (hz.cg (fun R C h1 _ _ _ => ⟨fun _ => trivial, fun _ => by have := (hSub R).mp h1; omega⟩)) (dk_is hn5 k)⟩, fun c => absurd (show r ≥ bShl 1 (n : Int) by omega) c⟩
    | succ s ih =>
      intro r z m1 hrs r1 f hz
      have hr : Sub n r := (hSub r).mpr (by omega)
      have hr32 := hr.rng hn5
      refine s_M_divisorOf_4 _ _ _ (fun _ _ _ _ => ⟨d, _, by omega, c_lots (XF m1 f), fun z1 m2 hz1 _ _ => ?_⟩)
      obtain ⟨rfl, rfl⟩ := hz1
      refine ⟨fun c => absurd c (by omega), fun _ => ?_⟩
      have inner : ∀ (t : Nat) (c z : Int) (m1 : MM), c + t = A + 1 → 0 ≤ c → Fr [99] m m1 → DvP n W br k (fun R C => R < r ∨ (R = r ∧ C < c)) z → Wq l G false Y_M_divisorOf (d + 3) (QI fun z m' => Fr [99] m m' ∧ z = dkF n W br k) 17 [(0, .inr (.inr 70)), (1, .inl (k : Int)), (2, .inl z), (3, .inl r), (4, .inl c)] [] m1 := by
        intro t
        induction t with
        | zero =>
          intro c z m1 hct c1 f hz
          refine s_M_divisorOf_17 _ _ _ _ (fun _ _ _ _ _ => ⟨d, _, by omega, c_lots (XF m1 f), fun z1 m2 hz1 _ _ => ?_⟩)
          obtain ⟨rfl, rfl⟩ := hz1
          refine ⟨fun _ => ⟨by omega, ih (r + 1) z m1 (by omega) (by omega) f (hz.cg (fun R C h1 h2 _ _ => ?_))⟩, fun q => absurd (show c ≥ bShl 1 (n : Int) by omega) q⟩
          have := (hSub C).mp h2
          omega
        | succ t iht =>
          intro c z m1 hct c1 f hz
          have hc : Sub n c := (hSub c).mpr (by omega)
          have hc32 := hc.rng hn5
          have nr := (nt_1 hr32).1
          have nc := (nt_1 hc32).1
          have skip : ¬ (cnt r 5 = k ∧ cnt c 5 = k) → DvP n W br k (fun R C => R < r ∨ (R = r ∧ C < c + 1)) z := fun q => hz.cg (fun R C h1 h2 h3 h4 => by
            by_cases e : R = r ∧ C = c
            · exfalso; rw [e.1] at h3; rw [e.2] at h4; exact q ⟨h3, h4⟩
            · omega)
          refine s_M_divisorOf_17 _ _ _ _ (fun _ _ _ _ _ => ⟨d, _, by omega, c_lots (XF m1 f), fun z1 m2 hz1 _ _ => ?_⟩)
          obtain ⟨rfl, rfl⟩ := hz1
          refine ⟨fun q => absurd q (by omega), fun _ => ⟨d, _, by omega, c_bitsOf hr32, fun z1 m3 hz1 _ _ => ?_⟩⟩
          obtain ⟨rfl, rfl⟩ := hz1
          refine ⟨fun q => ⟨by omega, iht (c + 1) z m1 (by omega) (by omega) f (skip (by omega))⟩, fun q1 => ⟨d, _, by omega, c_bitsOf hc32, fun z2 m3 hz2 _ _ => ?_⟩⟩
          obtain ⟨rfl, rfl⟩ := hz2
          refine ⟨fun q => ⟨by omega, iht (c + 1) z m1 (by omega) (by omega) f (skip (by omega))⟩, fun q2 => ?_⟩
          have kr : cnt r 5 = k := by have := Classical.not_not.mp q1; omega
          have kc : cnt c 5 = k := by have := Classical.not_not.mp q2; omega
          have hm := MnV_rng B hr hc (by omega)
          have h5 := fct_le (k := cnt r 5) (by omega)
          have hz0 := hz.1
          refine ⟨d + 2, _, by omega, c_squareOf B (XF m1 f) hr hc (by omega), fun z2 m3 hz2 _ _ => ?_⟩
          obtain ⟨f3, rfl⟩ := hz2
          refine ⟨d, _, by omega, c_divisor (by omega) (by omega), fun z3 m4 hz3 _ _ => ⟨by omega, ?_⟩⟩
          obtain ⟨rfl, rfl⟩ := hz3
          exact iht (c + 1) _ m3 (by omega) (by omega) (f.tr f3) ((hz.add hr hc kr kc).cg (fun R C _ _ _ _ => by omega))
      refine inner (A + 1).toNat 0 z m1 (by omega) (by omega) f (hz.cg (fun R C h1 h2 _ h4 => ?_))
      have := h2.1
      omega
  exact outer (A + 1).toNat 0 0 m (by omega) (by omega) Fr.rf (DvP.nil (fun R C h1 _ h3 _ q => by have := h1.1; omega))
theorem c_partsM (B : BW n D W br) (X : BM n D W br m) {x : Int} : CI l G Y_M_parts (d + 4) [.inr (.inr 70), .inl x] m (fun z m' => Fr [99] m m' ∧ z = paF n W br x n) := by
  have hn5 := B.1
  have XF : ∀ m1, Fr [99] m m1 → BM n D W br m1 := fun m1 f => X.fro (S := [99]) (I := []) ⟨fun c hc _ => f c hc, fun i _ => by rw [f 70 (by decide)]⟩ (by decide) (by decide) (by decide) (by decide) (by decide)
  refine e_M_parts x (fun _ hx => ?_)
  have loop : ∀ (s k : Nat) (m1 : MM), k + s = n → Fr [99] m m1 → (0 ≤ x → pcF n W br k ≤ x) → Wq l G false Y_M_parts (d + 4) (QI fun z m' => Fr [99] m m' ∧ z = paF n W br x n) 7 [(0, .inr (.inr 70)), (1, .inl x), (2, .inl (x - pcF n W br k)), (3, .inl (dkF n W br k)), (4, .inl ((k : Int) + 1))] [] m1 := by
    intro s
    induction s with
    | zero =>
      intro k m1 hks f hx0
      have e : k = n := by omega
      refine s_M_parts_7 _ _ _ _ (fun _ _ _ _ _ => ⟨d, _, by omega, c_lots (XF m1 f), fun z1 m2 hz1 _ _ => ?_⟩)
      obtain ⟨rfl, rfl⟩ := hz1
      refine ⟨fun _ => ⟨f, (pa_none n ?_).symm⟩, fun c => absurd (show (k : Int) + 1 > n by omega) c⟩
      have e4 : pcF n W br k = pcF n W br n := by rw [e]
      omega
    | succ s ih =>
      intro k m1 hks f hx0
      have hd1 := dk_rng B (k := k) (by omega)
      have hp := pt_rng B (k := k) (by omega)
      have hpc := pc_rng (n := n) (W := W) (br := br) k
      have epc : pcF n W br (k + 1) = if ptF n W br k = 1 then pcF n W br k else pcF n W br k + 1 := rfl
      have epa : ∀ i, paF n W br i (k + 1) = if ptF n W br k ≠ 1 ∧ pcF n W br k = i then ptF n W br k else paF n W br i k := fun i => rfl
      refine s_M_parts_7 _ _ _ _ (fun _ _ _ _ _ => ⟨d, _, by omega, c_lots (XF m1 f), fun z1 m2 hz1 _ _ => ?_⟩)
      obtain ⟨rfl, rfl⟩ := hz1
      refine ⟨fun c => absurd c (by omega), fun _ => ⟨fun c => ⟨f, (pa_none n (Or.inl c)).symm⟩, fun c0 => ⟨d + 3, _, by omega, c_divisorOf (k := k + 1) B (XF m1 f) (by omega), fun z m2 hz _ _ => ?_⟩⟩⟩
      obtain ⟨f2, rfl⟩ := hz
      have ept : Int.tdiv (dkF n W br (k + 1)) (dkF n W br k) = ptF n W br k := rfl
      rw [ept]
      have hx1 := hx0 (by omega)
      have nx := ih (k + 1) m2 (by omega) (f.tr f2)
      rw [show ((k + 1 : Nat) : Int) + 1 = (k : Int) + 1 + 1 by omega] at nx
      refine ⟨hd1.1, fun c1 => ⟨fun c2 => ⟨by obtain ⟨p, q⟩ := hx; constructor <;> omega, by omega, ?_⟩, fun c2 => ⟨f.tr f2, ?_⟩⟩, fun c1 => ⟨by omega, ?_⟩⟩
      · rw [if_neg c1] at epc
        rw [epc] at nx
        rw [show x - pcF n W br k + -1 = x - (pcF n W br k + 1) by omega]
        exact nx (fun _ => by omega)
      · rw [if_neg c1] at epc
        have e3 := epa x
        rw [if_pos ⟨c1, by omega⟩] at e3
        have h4 := (pa_keep (n := n) (W := W) (br := br) (i := x) (k := k + 1) s (by omega)).1
        rw [show k + 1 + s = n by omega] at h4
        rw [h4, e3]
      · rw [if_pos (Classical.not_not.mp c1)] at epc
        rw [epc] at nx
        exact nx hx0
  have := loop n 0 m (by omega) Fr.rf (fun h => h)
  rw [show x - pcF n W br 0 = x by show x - 0 = x; omega] at this
  exact this
end Parts2
