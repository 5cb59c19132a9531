/-! own, bare, nought, credit of the reference -/
section OwnM
variable {l : Launch} {G : GT} {d : Nat} {m : MM} {b : Nat} {n : Nat} {D : Int → Int} {W : Int → Int → Int} {br : Int → Int}
theorem Lp_smul (x : Int) (v : Int → Int) (i : Int) : Lp n W br (fun j => x * v j) i = x * Lp n W br v i := by
  unfold Lp
  have : sm n (fun j => W i j * (x * v j)) = x * sm n (fun j => W i j * v j) := by
    rw [← sm_mul]
    exact sm_congr (fun j _ => by rw [← Int.mul_assoc, Int.mul_comm (W i j) x, Int.mul_assoc])
  rw [this, Int.mul_sub, ← Int.mul_assoc, Int.mul_comm (br i) x, Int.mul_assoc]
theorem Lp_zero (i : Int) : Lp n W br (fun _ => (0 : Int)) i = 0 := by
  unfold Lp
  have : sm n (fun j => W i j * 0) = 0 := (sm_congr (fun j _ => Int.mul_zero _)).trans (sm_zero n)
  rw [this]; simp
theorem Lp_sm (k : Int → Int) (c : Int → Int → Int) (i : Int) : ∀ t : Nat, Lp n W br (fun j => sm t (fun s => k s * c s j)) i = sm t (fun s => k s * Lp n W br (c s) i)
  | 0 => Lp_zero i
  | t + 1 => by
    show Lp n W br (fun j => sm t (fun s => k s * c s j) + k t * c t j) i = sm t (fun s => k s * Lp n W br (c s) i) + k t * Lp n W br (c t) i
    rw [Lp_add, Lp_sm k c i t, Lp_smul]
/-- so many times the determinant on each plate is nothing -/
theorem det_none (B : BW n D W br) (k : Int → Int) {r : Int} (hr : In n r) : Lp n W br (fun j => sm n (fun s => k s * cof n W br s j)) r = k r * dtm n (enN W br) := by
  rw [Lp_sm]
  have : sm n (fun s => k s * Lp n W br (cof n W br s) r) = sm n (fun s => if s = r then k r * dtm n (enN W br) else 0) := sm_congr (fun s hs => by
    rw [Lp_cof B hs hr]
    by_cases e : r = s
    · rw [if_pos e, if_pos e.symm, e]
    · rw [if_neg e, if_neg (fun q => e q.symm), Int.mul_zero])
  rw [this, sm_one, if_pos hr]
theorem c_layNought (B : BW n D W br) (X : BM n D W br m) : CV l G Y_M_layNought (d + 3) [.inr (.inr 70)] m (fun m' => Fro 70 [93, 94, 95] [41] m m' ∧ NiR n W br (m' 95)) := by
  have hn5 := B.1
  refine e_M_layNought (fun _ => ?_)
  have third : ∀ (mc : MM), Fro 70 [93, 94, 95] [41] m mc → NiR n W br (mc 93) → ∀ (j : Nat) (i : Int) (m1 : MM), i + j = n → 0 ≤ i → Fr [95] mc m1 → (∀ t, In n t → t < i → m1 95 t = mc 93 t) →
      Wq l G false Y_M_layNought (d + 3) (QV fun m' => Fro 70 [93, 94, 95] [41] m m' ∧ NiR n W br (m' 95)) 81 [(0, .inr (.inr 70)), (2, .inl i)] [] m1 := by
    intro mc fc hN j
    induction j with
    | zero =>
      intro i m1 hij i0 f hv
      have fm : Fro 70 [93, 94, 95] [41] m m1 := fc.tr ⟨fun c hc _ => f c (by simp only [List.mem_cons, List.not_mem_nil, or_false] at hc ⊢; omega), fun i _ => by rw [f 70 (by decide)]⟩
      have X1 := X.fro fm (by decide) (by decide) (by decide) (by decide) (by decide)
      refine s_M_layNought_81 _ (fun _ _ => ⟨d, _, by omega, c_lots X1, fun z m2 hz _ _ => ?_⟩)
      obtain ⟨rfl, rfl⟩ := hz
      refine ⟨fun _ => ⟨fm, ?_⟩, fun c => absurd (show i ≥ (n : Int) by omega) c⟩
      obtain ⟨c, z, v, h1, h2, h3, h4⟩ := hN
      exact ⟨c, z, v, h1, h2, h3, fun t ht => by rw [hv t ht (by have := ht.2; omega)]; exact h4 t ht⟩
    | succ j ih =>
      intro i m1 hij i0 f hv
      have fm : Fro 70 [93, 94, 95] [41] m m1 := fc.tr ⟨fun c hc _ => f c (by simp only [List.mem_cons, List.not_mem_nil, or_false] at hc ⊢; omega), fun i _ => by rw [f 70 (by decide)]⟩
      have X1 := X.fro fm (by decide) (by decide) (by decide) (by decide) (by decide)
      refine s_M_layNought_81 _ (fun _ _ => ⟨d, _, by omega, c_lots X1, fun z m2 hz _ _ => ?_⟩)
      obtain ⟨rfl, rfl⟩ := hz
      refine ⟨fun c => absurd c (by omega), fun _ => ⟨by omega, by omega, ?_⟩⟩
      rintro m2 rfl
      refine ⟨by omega, ih (i + 1) _ (by omega) (by omega) (Fr_up f (by simp)) (fun t ht q => ?_)⟩
      rw [up_row, f 93 (by decide)]
      by_cases e : t = i
      · rw [if_pos e, e]
      · rw [if_neg e]; exact hv t ht (by omega)
  have second : ∀ (mc : MM) (u : Int → Int), Fro 70 [93, 94, 95] [41] m mc → (∀ t, In n t → mc 93 t = 2 * br t - 2 - Lp n W br u t ∧ 0 ≤ mc 93 t ∧ mc 93 t < br t) → ∀ (j : Nat) (i : Int) (m1 : MM), i + j = n → 0 ≤ i → Fro 70 [93] [] mc m1 → (∀ t, In n t → m1 93 t = if t < i then 2 * br t - 2 - mc 93 t else mc 93 t) →
      Wq l G false Y_M_layNought (d + 3) (QV fun m' => Fro 70 [93, 94, 95] [41] m m' ∧ NiR n W br (m' 95)) 38 [(0, .inr (.inr 70)), (2, .inl i)] [] m1 := by
    intro mc u fc hc j
    induction j with
    | zero =>
      intro i m1 hij i0 f hv
      have fm : Fro 70 [93, 94, 95] [41] m m1 := fc.tr (f.mono (by simp) (by simp))
      have X1 := X.fro fm (by decide) (by decide) (by decide) (by decide) (by decide)
      have hin : ∀ t, In n t → m1 93 t = 2 * br t - 2 - mc 93 t := fun t ht => by rw [hv t ht, if_pos (by have := ht.2; omega)]
      have hfull : ∀ t, In n t → br t - 1 ≤ m1 93 t := fun t ht => by rw [hin t ht]; have := hc t ht; omega
      have hnn : ∀ t, In n t → 0 ≤ m1 93 t := fun t ht => by have := hfull t ht; have := (B.br ht).1; omega
      have hss : sm n (m1 93) ≤ 100 := by
        have h1 := sm_le (n := n) (f := m1 93) (g := fun _ => 18) (fun t ht => by rw [hin t ht]; have := hc t ht; have := B.br10 ht; omega)
        have h2 : sm n (fun _ => (18 : Int)) ≤ 90 := by
          have hn2 : n = 0 ∨ n = 1 ∨ n = 2 ∨ n = 3 ∨ n = 4 ∨ n = 5 := by omega
          rcases hn2 with rfl | rfl | rfl | rfl | rfl | rfl <;> decide
        omega
      refine s_M_layNought_38 _ (fun _ _ => ⟨d, _, by omega, c_lots X1, fun z m2 hz _ _ => ?_⟩)
      obtain ⟨rfl, rfl⟩ := hz
      refine ⟨fun _ => ⟨d + 2, _, by omega, c_settleHeap B X1 hnn hss (by decide), fun z m2 h2 _ _ => ?_⟩, fun c => absurd (show i ≥ (n : Int) by omega) c⟩
      obtain ⟨v, hv2, ⟨f2, g2, -, -, -, -⟩, -⟩ := h2
      exact third m2 (fm.tr (f2.mono (by simp) (by simp))) ⟨m1 93, u, v, hfull, fun t ht => by rw [hin t ht, (hc t ht).1]; omega, hv2, g2⟩ n 0 m2 (by omega) (by omega) Fr.rf (fun t ht q => absurd q (by have := ht.1; omega))
    | succ j ih =>
      intro i m1 hij i0 f hv
      have fm : Fro 70 [93, 94, 95] [41] m m1 := fc.tr (f.mono (by simp) (by simp))
      have X1 := X.fro fm (by decide) (by decide) (by decide) (by decide) (by decide)
      have hi : In n i := by omega
      have hvi : m1 93 i = mc 93 i := by rw [hv i hi, if_neg (by omega)]
      have hci := hc i hi
      have hbr := B.br hi
      refine s_M_layNought_38 _ (fun _ _ => ⟨d, _, by omega, c_lots X1, fun z m2 hz _ _ => ?_⟩)
      obtain ⟨rfl, rfl⟩ := hz
      refine ⟨fun c => absurd c (by omega), fun _ => ⟨d, _, by omega, c_brimOf hn5 X1 hi, fun z m2 hz _ _ => ?_⟩⟩
      obtain ⟨rfl, rfl⟩ := hz
      rw [hvi]
      refine ⟨by omega, by omega, by omega, by omega, by omega, ?_⟩
      rintro m2 rfl
      refine ⟨by omega, ih (i + 1) _ (by omega) (by omega) (Fro_up f (by simp) (by decide)) (fun t ht => ?_)⟩
      rw [up_row, hv t ht]
      by_cases e : t = i
      · rw [if_pos e, if_pos (by omega), e]
      · rw [if_neg e]
        by_cases e2 : t < i
        · rw [if_pos e2, if_pos (by omega)]
        · rw [if_neg e2, if_neg (by omega)]
  have first : ∀ (j : Nat) (i : Int) (m1 : MM), i + j = n → 0 ≤ i → Fro 70 [93] [] m m1 → (∀ t, In n t → t < i → m1 93 t = 2 * br t - 2) →
      Wq l G false Y_M_layNought (d + 3) (QV fun m' => Fro 70 [93, 94, 95] [41] m m' ∧ NiR n W br (m' 95)) 2 [(0, .inr (.inr 70)), (1, .inl i)] [] m1 := by
    intro j
    induction j with
    | zero =>
      intro i m1 hij i0 f hv
      have fm : Fro 70 [93, 94, 95] [41] m m1 := f.mono (by simp) (by simp)
      have X1 := X.fro fm (by decide) (by decide) (by decide) (by decide) (by decide)
      have hin : ∀ t, In n t → m1 93 t = 2 * br t - 2 := fun t ht => hv t ht (by have := ht.2; omega)
      have hnn : ∀ t, In n t → 0 ≤ m1 93 t := fun t ht => by rw [hin t ht]; have := (B.br ht).1; omega
      have hss : sm n (m1 93) ≤ 100 := by
        have h1 := sm_le (n := n) (f := m1 93) (g := fun _ => 18) (fun t ht => by rw [hin t ht]; have := B.br10 ht; omega)
        have h2 : sm n (fun _ => (18 : Int)) ≤ 90 := by
          have hn2 : n = 0 ∨ n = 1 ∨ n = 2 ∨ n = 3 ∨ n = 4 ∨ n = 5 := by omega
          rcases hn2 with rfl | rfl | rfl | rfl | rfl | rfl <;> decide
        omega
      refine s_M_layNought_2 _ (fun _ _ => ⟨d, _, by omega, c_lots X1, fun z m2 hz _ _ => ?_⟩)
      obtain ⟨rfl, rfl⟩ := hz
      refine ⟨fun _ => ⟨d + 2, _, by omega, c_settleHeap B X1 hnn hss (by decide), fun z m2 h2 _ _ => ?_⟩, fun c => absurd (show i ≥ (n : Int) by omega) c⟩
      obtain ⟨u, hu, ⟨f2, g2, -, -, -, -⟩, -⟩ := h2
      refine second m2 u (fm.tr (f2.mono (by simp) (by simp))) (fun t ht => ?_) n 0 m2 (by omega) (by omega) Fro.rf (fun t ht => by rw [if_neg (by have := ht.1; omega)])
      rw [g2 t ht]
      exact ⟨by rw [hin t ht], hu.nonneg B hnn t ht, hu.2.1 t ht⟩
    | succ j ih =>
      intro i m1 hij i0 f hv
      have X1 := X.fro f (by decide) (by decide) (by decide) (by decide) (by decide)
      have hi : In n i := by omega
      have hbr := B.br hi
      refine s_M_layNought_2 _ (fun _ _ => ⟨d, _, by omega, c_lots X1, fun z m2 hz _ _ => ?_⟩)
      obtain ⟨rfl, rfl⟩ := hz
      refine ⟨fun c => absurd c (by omega), fun _ => ⟨d, _, by omega, c_brimOf hn5 X1 hi, fun z m2 hz _ _ => ?_⟩⟩
      obtain ⟨rfl, rfl⟩ := hz
      refine ⟨by omega, by omega, by omega, ?_⟩
      rintro m2 rfl
      refine ⟨by omega, ih (i + 1) _ (by omega) (by omega) (Fro_up f (by simp) (by decide)) (fun t ht q => ?_)⟩
      rw [up_row]
      by_cases e : t = i
      · rw [if_pos e, e]
      · rw [if_neg e]; exact hv t ht (by omega)
  exact first n 0 m (by omega) (by omega) Fro.rf (fun t ht q => absurd q (by have := ht.1; omega))
/-- what the reference knows of the group -/
def GM (n : Nat) (W : Int → Int → Int) (br : Int → Int) (m : MM) : Prop := m 70 42 = dtm n (enN W br) ∧ NiR n W br (m 95)
theorem GM.fro {m' : MM} (H : GM n W br m) {S : List Nat} {I : List Int} (f : Fro 70 S I m m') (h1 : 95 ∉ S) (h2 : 42 ∉ I) : GM n W br m' := by
  unfold GM at H ⊢
  rw [f.2 42 h2, f.1 95 h1 (by decide)]
  exact H
theorem c_makeOwn (B : BW n D W br) (X : BM n D W br m) (H : GM n W br m) (hg : ∀ i, In n i → -1000000 ≤ m 93 i ∧ m 93 i ≤ 30000) : CV l G Y_M_makeOwn (d + 3) [.inr (.inr 70)] m (fun m' => Fro 70 [93, 94] [41] m m' ∧ OwR n W br (m 93) (m' 93)) := by
  have hn5 := B.1
  have hdet := B.det
  have hdle := B.det_le
  obtain ⟨hD, hNi⟩ := H
  have hnil : ∀ i, In n i → 0 ≤ m 95 i ∧ m 95 i < br i := fun i hi => hNi.own.rng B hi
  refine e_M_makeOwn (fun _ => ?_)
  have loop : ∀ (j : Nat) (i : Int) (k : Int → Int) (m1 : MM), i + j = n → 0 ≤ i → Fro 70 [93] [] m m1 → (∀ t, In n t → t < i → (0 ≤ m 93 t + k t * dtm n (enN W br) ∧ m 93 t + k t * dtm n (enN W br) ≤ 100000) ∧ m1 93 t = m 93 t + k t * dtm n (enN W br) + m 95 t) → (∀ t, In n t → i ≤ t → m1 93 t = m 93 t) →
      Wq l G false Y_M_makeOwn (d + 3) (QV fun m' => Fro 70 [93, 94] [41] m m' ∧ OwR n W br (m 93) (m' 93)) 2 [(0, .inr (.inr 70)), (1, .inl i)] [] m1 := by
    intro j
    induction j with
    | zero =>
      intro i k m1 hij i0 f hv hw
      have fm : Fro 70 [93, 94] [41] m m1 := f.mono (by simp) (by simp)
      have X1 := X.fro fm (by decide) (by decide) (by decide) (by decide) (by decide)
      have hin : ∀ t, In n t → m1 93 t = m 93 t + k t * dtm n (enN W br) + m 95 t := fun t ht => (hv t ht (by have := ht.2; omega)).2
      have he : ∀ t, In n t → 0 ≤ m 93 t + k t * dtm n (enN W br) ∧ m 93 t + k t * dtm n (enN W br) ≤ 100000 := fun t ht => (hv t ht (by have := ht.2; omega)).1
      have hnn : ∀ t, In n t → 0 ≤ m1 93 t := fun t ht => by rw [hin t ht]; have := he t ht; have := hnil t ht; omega
      have hss : sm n (m1 93) ≤ 600000 := by
        have h1 := sm_le (n := n) (f := m1 93) (g := fun _ => 100010) (fun t ht => by rw [hin t ht]; have := he t ht; have := hnil t ht; have := B.br10 ht; omega)
        have h2 : sm n (fun _ => (100010 : Int)) ≤ 500050 := by
          have hn2 : n = 0 ∨ n = 1 ∨ n = 2 ∨ n = 3 ∨ n = 4 ∨ n = 5 := by omega
          rcases hn2 with rfl | rfl | rfl | rfl | rfl | rfl <;> decide
        omega
      refine s_M_makeOwn_2 _ (fun _ _ => ⟨d, _, by omega, c_lots X1, fun z m2 hz _ _ => ?_⟩)
      obtain ⟨rfl, rfl⟩ := hz
      refine ⟨fun _ => ⟨d + 2, _, by omega, c_settleHeap B X1 hnn hss (by decide), fun z m2 h2 _ _ => ?_⟩, fun c => absurd (show i ≥ (n : Int) by omega) c⟩
      obtain ⟨u, hu, ⟨f2, g2, -, -, -, -⟩, -⟩ := h2
      refine ⟨fm.tr f2, ?_⟩
      have ho := hNi.add (e := fun t => m 93 t + k t * dtm n (enN W br)) (X := m 93) (w := fun j => 0 - sm n (fun s => k s * cof n W br s j)) (u := u) (fun t ht => (he t ht).1) (fun t ht => by
        show m 93 t + k t * dtm n (enN W br) = _
        rw [Lp_sub (u := fun _ => 0), Lp_zero, det_none B k ht]; omega) (hu.congr hin)
      obtain ⟨Y, z2, u2, q1, q2, q3, q4⟩ := ho
      exact ⟨Y, z2, u2, q1, q2, q3, fun t ht => by rw [g2 t ht, hin t ht]; exact q4 t ht⟩
    | succ j ih =>
      intro i k m1 hij i0 f hv hw
      have X1 := X.fro f (by decide) (by decide) (by decide) (by decide) (by decide)
      have hi : In n i := by omega
      refine s_M_makeOwn_2 _ (fun _ _ => ⟨d, _, by omega, c_lots X1, fun z m2 hz _ _ => ?_⟩)
      obtain ⟨rfl, rfl⟩ := hz
      refine ⟨fun c => absurd c (by omega), fun _ => ?_⟩
      have inner : ∀ (g : Nat) (y : Int) (m2 : MM), (0 - (m 93 i + y * dtm n (enN W br))) ≤ g → (m 93 i + y * dtm n (enN W br) ≤ 100000 ∧ -1000000 ≤ m 93 i + y * dtm n (enN W br)) → Fro 70 [93] [] m m2 → m2 93 i = m 93 i + y * dtm n (enN W br) → (∀ t, In n t → t ≠ i → m2 93 t = m1 93 t) →
          Wq l G false Y_M_makeOwn (d + 3) (QV fun m' => Fro 70 [93, 94] [41] m m' ∧ OwR n W br (m 93) (m' 93)) 10 [(0, .inr (.inr 70)), (1, .inl i)] [] m2 := by
        intro g
        induction g with
        | zero =>
          intro y m2 hg2 hy f2 e2 ho2
          have hni := hnil i hi
          have hb10 := B.br10 hi
          have e95 : m2 95 i = m 95 i := by rw [f2.1 95 (by decide) (by decide)]
          refine s_M_makeOwn_10 _ (fun _ _ => ⟨by omega, fun c => ⟨by omega, by omega, by omega, by omega, ?_⟩, fun c => absurd (show m2 93 i ≥ 0 by omega) c⟩)
          rw [e95]
          rintro m3 rfl
          refine ⟨by omega, ih (i + 1) (upS k i y) _ (by omega) (by omega) (Fro_up f2 (by simp) (by decide)) (fun t ht q => ?_) (fun t ht q => ?_)⟩
          · by_cases e : t = i
            · have eu : upS k i y t = y := by unfold upS; rw [if_pos e]
              rw [eu, up_row, if_pos e, e]
              exact ⟨⟨by omega, hy.1⟩, by rw [e2]⟩
            · have eu : upS k i y t = k t := by unfold upS; rw [if_neg e]
              rw [eu, up_row, if_neg e, ho2 t ht e]
              exact hv t ht (by omega)
          · rw [up_off (by omega), ho2 t ht (by omega)]
            exact hw t ht (by omega)
        | succ g ihg =>
          intro y m2 hg2 hy f2 e2 ho2
          have hni := hnil i hi
          have hb10 := B.br10 hi
          have e95 : m2 95 i = m 95 i := by rw [f2.1 95 (by decide) (by decide)]
          have e42 : m2 70 42 = dtm n (enN W br) := by rw [f2.2 42 (by decide)]; exact hD
          refine s_M_makeOwn_10 _ (fun _ _ => ⟨by omega, fun c => ⟨by omega, by omega, by omega, by omega, ?_⟩, fun c => ⟨by omega, by omega, by omega, ?_⟩⟩)
          · rw [e95]
            rintro m3 rfl
            refine ⟨by omega, ih (i + 1) (upS k i y) _ (by omega) (by omega) (Fro_up f2 (by simp) (by decide)) (fun t ht q => ?_) (fun t ht q => ?_)⟩
            · by_cases e : t = i
              · have eu : upS k i y t = y := by unfold upS; rw [if_pos e]
                rw [eu, up_row, if_pos e, e]
                exact ⟨⟨by omega, hy.1⟩, by rw [e2]⟩
              · have eu : upS k i y t = k t := by unfold upS; rw [if_neg e]
                rw [eu, up_row, if_neg e, ho2 t ht e]
                exact hv t ht (by omega)
            · rw [up_off (by omega), ho2 t ht (by omega)]
              exact hw t ht (by omega)
          · rw [e42]
            rintro m3 rfl
            have ey : m 93 i + (y + 1) * dtm n (enN W br) = m 93 i + y * dtm n (enN W br) + dtm n (enN W br) := by rw [Int.add_mul, Int.one_mul]; omega
            refine ihg (y + 1) _ (by omega) (by omega) (Fro_up f2 (by simp) (by decide)) (by rw [up_at, e2, ey]) (fun t ht q => by rw [up_off q]; exact ho2 t ht q)
      have hgi := hg i hi
      have e0 : m 93 i + 0 * dtm n (enN W br) = m 93 i := by rw [Int.zero_mul]; omega
      exact inner 1000000 0 m1 (by omega) (by omega) f (by rw [e0]; exact hw i hi (Int.le_refl _)) (fun t _ _ => rfl)
  exact loop n 0 (fun _ => 0) m (by omega) (by omega) Fro.rf (fun t ht q => absurd q (by have := ht.1; omega)) (fun t ht q => rfl)
theorem c_makeBare (B : BW n D W br) (X : BM n D W br m) (H : GM n W br m) (hg : ∀ i, In n i → -20000 ≤ m 93 i ∧ m 93 i ≤ 900000) : CV l G Y_M_makeBare (d + 4) [.inr (.inr 70)] m (fun m' => Fro 70 [93, 94] [41] m m' ∧ BaR n W br (m 93) (m' 93)) := by
  have hn5 := B.1
  refine e_M_makeBare (fun _ => ?_)
  have second : ∀ (mc : MM), Fro 70 [93, 94] [41] m mc → OwR n W br (fun i => br i - 1 - m 93 i) (mc 93) → ∀ (j : Nat) (i : Int) (m1 : MM), i + j = n → 0 ≤ i → Fro 70 [93] [] mc m1 → (∀ t, In n t → m1 93 t = if t < i then br t - 1 - mc 93 t else mc 93 t) →
      Wq l G false Y_M_makeBare (d + 4) (QV fun m' => Fro 70 [93, 94] [41] m m' ∧ BaR n W br (m 93) (m' 93)) 42 [(0, .inr (.inr 70)), (1, .inl i)] [] m1 := by
    intro mc fc hO j
    induction j with
    | zero =>
      intro i m1 hij i0 f hv
      have fm : Fro 70 [93, 94] [41] m m1 := fc.tr (f.mono (by simp) (by simp))
      have X1 := X.fro fm (by decide) (by decide) (by decide) (by decide) (by decide)
      refine s_M_makeBare_42 _ (fun _ _ => ⟨d, _, by omega, c_lots X1, fun z m2 hz _ _ => ?_⟩)
      obtain ⟨rfl, rfl⟩ := hz
      exact ⟨fun _ => ⟨fm, mc 93, hO, fun t ht => by rw [hv t ht, if_pos (by have := ht.2; omega)]⟩, fun c => absurd (show i ≥ (n : Int) by omega) c⟩
    | succ j ih =>
      intro i m1 hij i0 f hv
      have fm : Fro 70 [93, 94] [41] m m1 := fc.tr (f.mono (by simp) (by simp))
      have X1 := X.fro fm (by decide) (by decide) (by decide) (by decide) (by decide)
      have hi : In n i := by omega
      have hvi : m1 93 i = mc 93 i := by rw [hv i hi, if_neg (by omega)]
      have hr := hO.rng B hi
      have hbr := B.br hi
      refine s_M_makeBare_42 _ (fun _ _ => ⟨d, _, by omega, c_lots X1, fun z m2 hz _ _ => ?_⟩)
      obtain ⟨rfl, rfl⟩ := hz
      refine ⟨fun c => absurd c (by omega), fun _ => ⟨d, _, by omega, c_brimOf hn5 X1 hi, fun z m2 hz _ _ => ?_⟩⟩
      obtain ⟨rfl, rfl⟩ := hz
      rw [hvi]
      refine ⟨by omega, by omega, by omega, by omega, ?_⟩
      rintro m2 rfl
      refine ⟨by omega, ih (i + 1) _ (by omega) (by omega) (Fro_up f (by simp) (by decide)) (fun t ht => ?_)⟩
      rw [up_row, hv t ht]
      by_cases e : t = i
      · rw [if_pos e, if_pos (by omega), e]
      · rw [if_neg e]
        by_cases e2 : t < i
        · rw [if_pos e2, if_pos (by omega)]
        · rw [if_neg e2, if_neg (by omega)]
  have first : ∀ (j : Nat) (i : Int) (m1 : MM), i + j = n → 0 ≤ i → Fro 70 [93] [] m m1 → (∀ t, In n t → m1 93 t = if t < i then br t - 1 - m 93 t else m 93 t) →
      Wq l G false Y_M_makeBare (d + 4) (QV fun m' => Fro 70 [93, 94] [41] m m' ∧ BaR n W br (m 93) (m' 93)) 2 [(0, .inr (.inr 70)), (1, .inl i)] [] m1 := by
    intro j
    induction j with
    | zero =>
      intro i m1 hij i0 f hv
      have X1 := X.fro f (by decide) (by decide) (by decide) (by decide) (by decide)
      have H1 := H.fro f (by decide) (by decide)
      have hin : ∀ t, In n t → m1 93 t = br t - 1 - m 93 t := fun t ht => by rw [hv t ht, if_pos (by have := ht.2; omega)]
      refine s_M_makeBare_2 _ (fun _ _ => ⟨d, _, by omega, c_lots X1, fun z m2 hz _ _ => ?_⟩)
      obtain ⟨rfl, rfl⟩ := hz
      refine ⟨fun _ => ⟨d + 3, _, by omega, c_makeOwn B X1 H1 (fun t ht => ?_), fun m2 h2 _ => ?_⟩, fun c => absurd (show i ≥ (n : Int) by omega) c⟩
      · rw [hin t ht]
        have := hg t ht
        have := B.br10 ht
        have := (B.br ht).1
        omega
      · obtain ⟨f2, o2⟩ := h2
        exact second m2 ((f.mono (by simp) (by simp)).tr f2) (o2.congr hin) n 0 m2 (by omega) (by omega) Fro.rf (fun t ht => by rw [if_neg (by have := ht.1; omega)])
    | succ j ih =>
      intro i m1 hij i0 f hv
      have X1 := X.fro f (by decide) (by decide) (by decide) (by decide) (by decide)
      have hi : In n i := by omega
      have hvi : m1 93 i = m 93 i := by rw [hv i hi, if_neg (by omega)]
      have hgi := hg i hi
      have hbr := B.br hi
      refine s_M_makeBare_2 _ (fun _ _ => ⟨d, _, by omega, c_lots X1, fun z m2 hz _ _ => ?_⟩)
      obtain ⟨rfl, rfl⟩ := hz
      refine ⟨fun c => absurd c (by omega), fun _ => ⟨d, _, by omega, c_brimOf hn5 X1 hi, fun z m2 hz _ _ => ?_⟩⟩
      obtain ⟨rfl, rfl⟩ := hz
      rw [hvi]
      refine ⟨by omega, by omega, by omega, by omega, ?_⟩
      rintro m2 rfl
      refine ⟨by omega, ih (i + 1) _ (by omega) (by omega) (Fro_up f (by simp) (by decide)) (fun t ht => ?_)⟩
      rw [up_row, hv t ht]
      by_cases e : t = i
      · rw [if_pos e, if_pos (by omega), e]
      · rw [if_neg e]
        by_cases e2 : t < i
        · rw [if_pos e2, if_pos (by omega)]
        · rw [if_neg e2, if_neg (by omega)]
  exact first n 0 m (by omega) (by omega) Fro.rf (fun t ht => by rw [if_neg (by have := ht.1; omega)])
theorem c_noughtM (B : BW n D W br) (X : BM n D W br m) (H : GM n W br m) {x : Int} : CI l G Y_M_nought (d + 2) [.inr (.inr 70), .inl x] m (fun z m' => m = m' ∧ (In n x → ∃ Z, OwR n W br (fun _ => 0) Z ∧ z = Z x) ∧ (¬ In n x → z = -1)) := by
  have hn5 := B.1
  refine e_M_nought x (fun _ _ => ⟨d + 1, _, by omega, c_isPlate hn5 X, fun z m1 hz _ _ => ?_⟩)
  obtain ⟨rfl, rfl⟩ := hz
  by_cases hx : In n x
  · rw [if_pos hx]
    exact ⟨fun c => absurd c (by decide), fun _ => ⟨by omega, rfl, fun _ => ⟨m 95, H.2.own, rfl⟩, fun q => absurd hx q⟩⟩
  · rw [if_neg hx]
    exact ⟨fun _ => ⟨rfl, fun q => absurd q hx, fun _ => rfl⟩, fun c => absurd rfl c⟩
theorem c_ownM (B : BW n D W br) (X : BM n D W br m) (H : GM n W br m) (hg : ∀ i, In n i → 0 ≤ m 90 i ∧ m 90 i ≤ 20000) {x : Int} : CI l G Y_M_own (d + 4) [.inr (.inr 70), .inl x] m (fun z m' => Fro 70 [93, 94] [41] m m' ∧ (In n x → ∃ Z, OwR n W br (m 90) Z ∧ z = Z x) ∧ (¬ In n x → z = -1)) := by
  have hn5 := B.1
  refine e_M_own x (fun _ _ => ⟨d + 1, _, by omega, c_isPlate hn5 X, fun z m1 hz _ _ => ?_⟩)
  obtain ⟨rfl, rfl⟩ := hz
  by_cases hx : In n x
  · rw [if_pos hx]
    refine ⟨fun _ => ⟨d + 1, _, by omega, c_layNow hn5 X, fun m1 h1 _ => ?_⟩, fun c => absurd (by decide) c⟩
    obtain ⟨f1, g1, -⟩ := h1
    have X1 := X.fro f1 (by decide) (by decide) (by decide) (by decide) (by decide)
    have H1 := H.fro f1 (by decide) (by decide)
    refine ⟨d + 3, _, by omega, c_makeOwn B X1 H1 (fun t ht => by rw [g1 t ht]; have := hg t ht; omega), fun m2 h2 _ => ⟨by omega, ?_⟩⟩
    exact ⟨(f1.mono (by simp) (by simp)).tr h2.1, fun _ => ⟨m2 93, h2.2.congr g1, rfl⟩, fun q => absurd hx q⟩
  · rw [if_neg hx]
    exact ⟨fun c => absurd rfl c, fun _ => ⟨Fro.rf, fun q => absurd q hx, fun _ => rfl⟩⟩
theorem c_bareM (B : BW n D W br) (X : BM n D W br m) (H : GM n W br m) (hg : ∀ i, In n i → 0 ≤ m 90 i ∧ m 90 i ≤ 20000) {x : Int} : CI l G Y_M_bare (d + 5) [.inr (.inr 70), .inl x] m (fun z m' => Fro 70 [93, 94] [41] m m' ∧ (In n x → ∃ Z, BaR n W br (m 90) Z ∧ z = Z x) ∧ (¬ In n x → z = -1)) := by
  have hn5 := B.1
  refine e_M_bare x (fun _ _ => ⟨d + 1, _, by omega, c_isPlate hn5 X, fun z m1 hz _ _ => ?_⟩)
  obtain ⟨rfl, rfl⟩ := hz
  by_cases hx : In n x
  · rw [if_pos hx]
    refine ⟨fun _ => ⟨d + 1, _, by omega, c_layNow hn5 X, fun m1 h1 _ => ?_⟩, fun c => absurd (by decide) c⟩
    obtain ⟨f1, g1, -⟩ := h1
    have X1 := X.fro f1 (by decide) (by decide) (by decide) (by decide) (by decide)
    have H1 := H.fro f1 (by decide) (by decide)
    refine ⟨d + 4, _, by omega, c_makeBare B X1 H1 (fun t ht => by rw [g1 t ht]; have := hg t ht; omega), fun m2 h2 _ => ⟨by omega, ?_⟩⟩
    exact ⟨(f1.mono (by simp) (by simp)).tr h2.1, fun _ => ⟨m2 93, h2.2.congr g1, rfl⟩, fun q => absurd hx q⟩
  · rw [if_neg hx]
    exact ⟨fun c => absurd rfl c, fun _ => ⟨Fro.rf, fun q => absurd q hx, fun _ => rfl⟩⟩
theorem c_creditM (B : BW n D W br) (X : BM n D W br m) (H : GM n W br m) (hg : ∀ i, In n i → 0 ≤ m 90 i ∧ m 90 i ≤ 20000) : CI l G Y_M_credit (d + 5) [.inr (.inr 70)] m (fun z m' => Fro 70 [93, 94] [41] m m' ∧ ∃ Z, BaR n W br (m 90) Z ∧ z = sm n (m 90) - sm n Z) := by
  have hn5 := B.1
  refine e_M_credit (fun _ => ⟨d + 1, _, by omega, c_layNow hn5 X, fun m1 h1 _ => ?_⟩)
  obtain ⟨f1, g1, -⟩ := h1
  have X1 := X.fro f1 (by decide) (by decide) (by decide) (by decide) (by decide)
  have H1 := H.fro f1 (by decide) (by decide)
  have hs0 := sm_nonneg (fun i hi => (hg i hi).1)
  have hs1 : sm n (m 90) ≤ 100000 := by
    have h1 := sm_le (n := n) (f := m 90) (g := fun _ => 20000) (fun t ht => (hg t ht).2)
    have h2 : sm n (fun _ => (20000 : Int)) ≤ 100000 := by
      have hn2 : n = 0 ∨ n = 1 ∨ n = 2 ∨ n = 3 ∨ n = 4 ∨ n = 5 := by omega
      rcases hn2 with rfl | rfl | rfl | rfl | rfl | rfl <;> decide
    omega
  refine ⟨d + 1, _, by omega, c_levelOf hn5 X1 (fun i hi => by rw [g1 i hi]; have := hg i hi; omega), fun z m2 hz _ _ => ?_⟩
  obtain ⟨rfl, rfl⟩ := hz
  refine ⟨d + 4, _, by omega, c_makeBare B X1 H1 (fun t ht => by rw [g1 t ht]; have := hg t ht; omega), fun m2 h2 _ => ?_⟩
  have fm : Fro 70 [93, 94] [41] m m2 := (f1.mono (by simp) (by simp)).tr h2.1
  have X2 := X.fro fm (by decide) (by decide) (by decide) (by decide) (by decide)
  have o2 := h2.2.congr g1
  have r2 : ∀ i, In n i → 0 ≤ m2 93 i ∧ m2 93 i < br i := fun i hi => o2.rng B hi
  have hs2 := sm_br B r2
  refine ⟨d + 1, _, by omega, c_levelOf hn5 X2 (fun i hi => by have := r2 i hi; have := B.br10 hi; omega), fun z m3 hz _ _ => ?_⟩
  obtain ⟨rfl, rfl⟩ := hz
  rw [sm_congr g1]
  exact ⟨by omega, fm, m2 93, o2, rfl⟩
end OwnM
