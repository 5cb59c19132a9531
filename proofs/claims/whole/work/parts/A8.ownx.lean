/-! own, bare, nought, credit of the class -/
section OwnX
variable {l : Launch} {G : GT} {d : Nat} {m : MM} {b : Nat} {n : Nat} {D : Int → Int} {W : Int → Int → Int} {br : Int → Int}
theorem BXf (hb : isB b) {m1 m2 : MM} (X : BX n D W br b m1) {S : List Nat} (f : Fr S m1 m2) (hS : ∀ c ∈ S, 24 < c) : BX n D W br b m2 := by
  have hb6 : b ≤ 16 := by rcases hb with rfl | rfl <;> omega
  exact X.fr f (fun q => by have := hS _ q; omega) (fun q => by have := hS _ q; omega) (fun q => by have := hS _ q; omega) (fun q => by have := hS _ q; omega)
theorem c_learnFiller (B : BW n D W br) (hb : isB b) (X : BX n D W br b m) : CV l G Y_Group_learnFiller (d + 3) [.inr (.inr 38), .inr (.inr b)] m (fun m' => Fr [40, 41, 42, 43] m m' ∧ FlR n W br (m' 40)) := by
  have hn5 := B.1
  refine e_Group_learnFiller b hb (fun _ => ?_)
  have last : ∀ (mc : MM) (u : Int → Int), Fr [40, 41, 42, 43] m mc → (∀ i, In n i → mc 40 i = 2 * (br i - 1) + 4) → (∀ i, In n i → mc 42 i = 2 * (br i - 1) + 4 - Lp n W br u i ∧ 0 ≤ mc 42 i ∧ mc 42 i < br i) → (∀ i, 0 ≤ i → i < 5 → -1000 ≤ mc 40 i - mc 42 i ∧ mc 40 i - mc 42 i ≤ 1000) → ∀ (j : Nat) (i : Int) (m1 : MM), i + j = 5 → 0 ≤ i → Fr [40] mc m1 → (∀ t, m1 40 t = if 0 ≤ t ∧ t < i then mc 40 t - mc 42 t else mc 40 t) →
      Wq l G false Y_Group_learnFiller (d + 3) (QV fun m' => Fr [40, 41, 42, 43] m m' ∧ FlR n W br (m' 40)) 64 [(0, .inr (.inr 38)), (2, .inl i)] [] m1 := by
    intro mc u fc h40 h42 hbd j
    induction j with
    | zero =>
      intro i m1 hij i0 f hv
      refine s_Group_learnFiller_64 _ (fun _ _ => ⟨fun _ => ⟨fc.tr (f.mono (by simp)), fun t ht => ?_, u, fun t ht => ?_⟩, fun c => absurd (show i ≥ 5 by omega) c⟩)
      · rw [hv t, if_pos ⟨ht.1, by have := ht.2; omega⟩, h40 t ht]
        have := h42 t ht
        have := B.br10 ht
        omega
      · rw [hv t, if_pos ⟨ht.1, by have := ht.2; omega⟩, h40 t ht, (h42 t ht).1]
        omega
    | succ j ih =>
      intro i m1 hij i0 f hv
      have hb1 := hbd i i0 (by omega)
      have e40 : m1 40 i = mc 40 i := by rw [hv i, if_neg (by omega)]
      have e42 : m1 42 i = mc 42 i := by rw [f 42 (by decide)]
      refine s_Group_learnFiller_64 _ (fun _ _ => ⟨fun c => absurd c (by omega), fun _ => ⟨by omega, by omega, by omega, by omega, ?_⟩⟩)
      rintro m2 rfl
      refine ⟨by omega, ih (i + 1) _ (by omega) (by omega) (Fr_up f (by simp)) (fun t => ?_)⟩
      rw [up_row, hv t, e40, e42]
      by_cases e : t = i
      · rw [if_pos e, if_pos (by omega), e]
      · rw [if_neg e]
        by_cases e2 : 0 ≤ t ∧ t < i
        · rw [if_pos e2, if_pos (by omega)]
        · rw [if_neg e2, if_neg (by omega)]
  have loop : ∀ (j : Nat) (i : Int) (m1 : MM), i + j = 5 → 0 ≤ i → Fr [40] m m1 → (∀ t, 0 ≤ t → t < i → m1 40 t = if t < (n : Int) then 2 * (br t - 1) + 4 else 0) →
      Wq l G false Y_Group_learnFiller (d + 3) (QV fun m' => Fr [40, 41, 42, 43] m m' ∧ FlR n W br (m' 40)) 2 [(0, .inr (.inr 38)), (1, .inr (.inr b)), (2, .inl i)] [] m1 := by
    intro j
    induction j with
    | zero =>
      intro i m1 hij i0 f hv
      have X1 := BXf hb X f (by decide)
      refine s_Group_learnFiller_2 _ b hb (fun _ _ => ⟨fun _ => ⟨d, _, by omega, c_take (a := 41) (Or.inr (Or.inr (Or.inl rfl))) (h := 40) (len := 5) rfl (by decide) (by decide) (by decide) (by decide), fun m2 h2 _ => ?_⟩, fun c => absurd (show i ≥ 5 by omega) c⟩)
      obtain ⟨f2, t1, t2, t3⟩ := h2
      have X2 := BXf hb X1 f2 (by decide)
      have hin : ∀ t, In n t → m1 40 t = 2 * (br t - 1) + 4 := fun t ht => by rw [hv t ht.1 (by have := ht.2; omega), if_pos ht.2]
      have hnn : ∀ t, In n t → 0 ≤ m1 40 t := fun t ht => by rw [hin t ht]; have := (B.br ht).1; omega
      have hss : sm n (m1 40) ≤ 200 := by
        have h1 := sm_le (n := n) (f := m1 40) (g := fun _ => 22) (fun t ht => by rw [hin t ht]; have := B.br10 ht; omega)
        have h2 : sm n (fun _ => (22 : Int)) ≤ 110 := by
          have hn2 : n = 0 ∨ n = 1 ∨ n = 2 ∨ n = 3 ∨ n = 4 ∨ n = 5 := by omega
          rcases hn2 with rfl | rfl | rfl | rfl | rfl | rfl <;> decide
        omega
      refine ⟨d + 2, _, by omega, c_calm0 (a := 41) (Or.inr (Or.inr (Or.inl rfl))) B X2 hb (g := m1 40) (fun t q0 q5 => (t1 t q0 q5).1) hnn hss (by decide) (fun t q0 q5 => (t1 t q0 q5).2) t2 t3, fun m3 h3 _ => ?_⟩
      obtain ⟨f3, u, hu, r1, r2, -⟩ := h3
      have r1' : ∀ t, In n t → m3 42 t = m1 40 t - Lp n W br u t := r1
      have r2' : ∀ t, 0 ≤ t → t < 5 → ¬ In n t → m3 42 t = m1 40 t := r2
      have e40 : m3 40 = m1 40 := by rw [f3 40 (by decide), f2 40 (by decide)]
      refine last m3 u (((f.mono (by simp)).tr (f2.mono (by simp))).tr (f3.mono (by simp))) (fun t ht => by rw [e40]; exact hin t ht) (fun t ht => ?_) (fun t q0 q5 => ?_) 5 0 m3 (by omega) (by omega) Fr.rf (fun t => by rw [if_neg (by omega)])
      · have h1 := hu.nonneg B hnn t ht
        have h2 := hu.2.1 t ht
        refine ⟨by rw [r1' t ht, hin t ht], by rw [r1' t ht]; exact h1, by rw [r1' t ht]; exact h2⟩
      · rw [e40]
        by_cases ht : In n t
        · have h1 := hu.nonneg B hnn t ht
          have h2 := hu.2.1 t ht
          rw [r1' t ht, hin t ht] at *
          have := B.br10 ht
          have := (B.br ht).1
          omega
        · rw [r2' t q0 q5 ht]; omega
    | succ j ih =>
      intro i m1 hij i0 f hv
      have X1 := BXf hb X f (by decide)
      have go : ∀ y : Int, y = (if i < (n : Int) then 2 * (br i - 1) + 4 else 0) → ∀ m2, m2 = up m1 40 i y → (inR (i + 1)) ∧ (Wq l G false Y_Group_learnFiller (d + 3) (QV fun m' => Fr [40, 41, 42, 43] m m' ∧ FlR n W br (m' 40)) 2 [(0, .inr (.inr 38)), (1, .inr (.inr b)), (2, .inl (i + 1))] [] m2) := by
        rintro y hy m2 rfl
        refine ⟨by omega, ih (i + 1) _ (by omega) (by omega) (Fr_up f (by simp)) (fun t q0 q1 => ?_)⟩
        rw [up_row]
        by_cases e : t = i
        · rw [if_pos e, e, hy]
        · rw [if_neg e]; exact hv t q0 (by omega)
      refine s_Group_learnFiller_2 _ b hb (fun _ _ => ⟨fun c => absurd c (by omega), fun _ => ⟨fun c => ⟨by omega, go 0 ?_⟩, fun c => ⟨by omega, ?_⟩⟩⟩)
      · rw [X1.1] at c
        rw [if_neg (by omega)]
      · rw [X1.1] at c
        have hi : In n i := ⟨i0, by omega⟩
        rw [X1.2.2.1 i hi]
        have := B.br10 hi
        have := (B.br hi).1
        exact ⟨by omega, by omega, by omega, by omega, go _ (by rw [if_pos (by omega)])⟩
  exact loop 5 0 m (by omega) (by omega) Fr.rf (fun t q0 q1 => by omega)
theorem c_toOwn (B : BW n D W br) (hb : isB b) (X : BX n D W br b m) (F : FlR n W br (m 40)) {h : Nat} (hh : h = 26 ∨ h = 27) (hg : ∀ i, In n i → -3 ≤ m h i) {N : Int} (hN : sm n (m h) ≤ N) (hN3 : N ≤ 20000) (hbd : ∀ i, 0 ≤ i → i < 5 → -1000000 ≤ m h i ∧ m h i ≤ 1000000) : CV l G Y_Group_toOwn (d + 3) [.inr (.inr 38), .inr (.inr b), .inr (.inr h)] m (fun m' => Fr [h, 41, 42, 43] m m' ∧ OwR n W br (m h) (m' h) ∧ ∀ i, ¬ In n i → m' h i = m h i) := by
  have hn5 := B.1
  have hl : q_lay h = .inr (0, 8) := by rcases hh with rfl | rfl <;> rfl
  have hd1 : h ≠ 41 ∧ h ≠ 42 ∧ h ≠ 43 ∧ h ≠ 40 ∧ 24 < h := by rcases hh with rfl | rfl <;> decide
  obtain ⟨F1, zf, F2⟩ := F
  refine e_Group_toOwn b h 8 hb hl (by decide) (fun _ => ⟨d, _, by omega, c_take (a := 41) (Or.inr (Or.inr (Or.inl rfl))) (h := h) (len := 8) hl (by decide) (by decide) (by omega) (by omega), fun m0 h0 _ => ?_⟩)
  obtain ⟨f0, t1, t2, t3⟩ := h0
  have t1' : ∀ t, 0 ≤ t → t < 5 → m0 42 t = m h t := fun t q0 q5 => (t1 t q0 q5).1
  have X0 := BXf hb X f0 (by decide)
  have e40 : m0 40 = m 40 := f0 40 (by decide)
  have eh0 : m0 h = m h := f0 h (by simp only [List.mem_cons, List.not_mem_nil, or_false]; omega)
  have last : ∀ (mc : MM), Fr [41, 42, 43] m mc → OwR n W br (m h) (mc 42) → ∀ (j : Nat) (i : Int) (m1 : MM), i + j = n → 0 ≤ i → Fr [h] mc m1 → (∀ t, m1 h t = if 0 ≤ t ∧ t < i then mc 42 t else m h t) →
      Wq l G false Y_Group_toOwn (d + 3) (QV fun m' => Fr [h, 41, 42, 43] m m' ∧ OwR n W br (m h) (m' h) ∧ ∀ i, ¬ In n i → m' h i = m h i) 48 [(0, .inr (.inr 38)), (1, .inr (.inr b)), (2, .inr (.inr h)), (3, .inl i)] [] m1 := by
    intro mc fc hO j
    induction j with
    | zero =>
      intro i m1 hij i0 f hv
      have X1 := BXf hb (BXf hb X fc (by decide)) f (by intro c hc; simp only [List.mem_cons, List.not_mem_nil, or_false] at hc; omega)
      have hin : i = (n : Int) := by omega
      rw [hin] at hv
      refine s_Group_toOwn_48 _ b h 8 hb hl (by decide) (fun _ _ => ⟨fun _ => ⟨(fc.mono (fun c hc => List.mem_cons_of_mem _ hc)).tr (f.mono (by simp)), ?_, fun t ht => by rw [hv t, if_neg ht]⟩, fun c => absurd (show i ≥ m1 b 0 by rw [X1.1]; omega) c⟩)
      obtain ⟨Y, z, u, q1, q2, q3, q4⟩ := hO
      exact ⟨Y, z, u, q1, q2, q3, fun t ht => by rw [hv t, if_pos ht]; exact q4 t ht⟩
    | succ j ih =>
      intro i m1 hij i0 f hv
      have X1 := BXf hb (BXf hb X fc (by decide)) f (by intro c hc; simp only [List.mem_cons, List.not_mem_nil, or_false] at hc; omega)
      refine s_Group_toOwn_48 _ b h 8 hb hl (by decide) (fun _ _ => ⟨fun c => absurd c (by rw [X1.1]; omega), fun _ => ⟨by omega, by omega, ?_⟩⟩)
      rintro m2 rfl
      refine ⟨by omega, ih (i + 1) _ (by omega) (by omega) (Fr_up f (by simp)) (fun t => ?_)⟩
      rw [up_row, hv t, f 42 (by simp only [List.mem_cons, List.not_mem_nil, or_false]; omega)]
      by_cases e : t = i
      · rw [if_pos e, if_pos (by omega), e]
      · rw [if_neg e]
        by_cases e2 : 0 ≤ t ∧ t < i
        · rw [if_pos e2, if_pos (by omega)]
        · rw [if_neg e2, if_neg (by omega)]
  have loop : ∀ (j : Nat) (i : Int) (m1 : MM), i + j = n → 0 ≤ i → Fr [42] m0 m1 → (∀ t, 0 ≤ t → t < 5 → m1 42 t = m h t + (if t < i then m 40 t else 0)) →
      Wq l G false Y_Group_toOwn (d + 3) (QV fun m' => Fr [h, 41, 42, 43] m m' ∧ OwR n W br (m h) (m' h) ∧ ∀ i, ¬ In n i → m' h i = m h i) 10 [(0, .inr (.inr 38)), (1, .inr (.inr b)), (2, .inr (.inr h)), (3, .inl i)] [] m1 := by
    intro j
    induction j with
    | zero =>
      intro i m1 hij i0 f hv
      have X1 := BXf hb X0 f (by decide)
      have hin : ∀ t, In n t → m h t + (if t < i then m 40 t else 0) = m h t + m 40 t := fun t ht => by rw [if_pos (by have := ht.2; omega)]
      have hfull : ∀ t, In n t → br t - 1 ≤ m h t + (if t < i then m 40 t else 0) := fun t ht => by
        rw [hin t ht]
        have := hg t ht
        have := F1 t ht
        omega
      have hnn : ∀ t, In n t → 0 ≤ m h t + (if t < i then m 40 t else 0) := fun t ht => by
        have := hfull t ht
        have := (B.br ht).1
        omega
      have hss : sm n (fun t => m h t + (if t < i then m 40 t else 0)) ≤ N + 110 := by
        rw [sm_congr hin, sm_add]
        have h1 := sm_le (n := n) (f := m 40) (g := fun _ => 22) (fun t ht => (F1 t ht).2)
        have h2 : sm n (fun _ => (22 : Int)) ≤ 110 := by
          have hn2 : n = 0 ∨ n = 1 ∨ n = 2 ∨ n = 3 ∨ n = 4 ∨ n = 5 := by omega
          rcases hn2 with rfl | rfl | rfl | rfl | rfl | rfl <;> decide
        have e : sm n (fun i => m 40 i) = sm n (m 40) := rfl
        have e' : sm n (fun i => m h i) = sm n (m h) := rfl
        omega
      refine s_Group_toOwn_10 _ b h 8 hb hl (by decide) (fun _ _ => ⟨fun _ => ⟨d + 2, _, by omega, c_calm0 (a := 41) (Or.inr (Or.inr (Or.inl rfl))) B X1 hb (g := fun t => m h t + (if t < i then m 40 t else 0)) hv hnn hss (by omega) (fun t q0 q5 => ?_) ?_ ?_, fun m2 h2 _ => ?_⟩, fun c => absurd (show i ≥ m1 b 0 by rw [X1.1]; omega) c⟩)
      · rw [f 43 (by decide)]
        exact (t1 t q0 q5).2
      · rw [f 41 (by decide)]
        exact t2
      · rw [f 41 (by decide)]
        exact t3
      · obtain ⟨f2, u, hu, r1, -⟩ := h2
        have fm2 : Fr [41, 42, 43] m m2 := (f0.tr (f.mono (by simp))).tr f2
        refine last m2 fm2 ⟨_, fun t => 0 - zf t, u, hfull, fun t ht => ?_, hu, r1⟩ n 0 m2 (by omega) (by omega) Fr.rf (fun t => by rw [if_neg (by omega), fm2 h (by simp only [List.mem_cons, List.not_mem_nil, or_false]; omega)])
        have L0 : Lp n W br (fun _ => (0 : Int)) t = 0 := by
          unfold Lp
          have : sm n (fun j => W t j * 0) = 0 := (sm_congr (fun j _ => Int.mul_zero _)).trans (sm_zero n)
          rw [this]; simp
        show m h t + (if t < i then m 40 t else 0) = m h t - Lp n W br (fun t => 0 - zf t) t
        rw [Lp_sub (u := fun _ => 0), L0, hin t ht, F2 t ht]
        omega
    | succ j ih =>
      intro i m1 hij i0 f hv
      have X1 := BXf hb X0 f (by decide)
      have hi : In n i := by omega
      have hvi : m1 42 i = m h i := by rw [hv i i0 (by omega), if_neg (by omega)]; omega
      have hb1 := hbd i i0 (by omega)
      have hF := F1 i hi
      have hbr := (B.br hi).1
      have e40' : m1 40 = m 40 := by rw [f 40 (by decide)]; exact e40
      have P1 : CV l G Y_Sand_put d [.inr (.inr 41), .inl i, .inl (m 40 i)] m1 (fun m' => m' = up m1 42 i (m1 42 i + m 40 i)) := c_put (a := 41) (Or.inr (Or.inr (Or.inl rfl))) (by omega) (by show inR (m1 42 i + m 40 i); constructor <;> omega)
      refine s_Group_toOwn_10 _ b h 8 hb hl (by decide) (fun _ _ => ⟨fun c => absurd c (by rw [X1.1]; omega), fun _ => ⟨by omega, ?_⟩⟩)
      rw [e40']
      refine ⟨d, _, by omega, P1, fun m2 h2 _ => ⟨by omega, ?_⟩⟩
      subst h2
      refine ih (i + 1) _ (by omega) (by omega) (Fr_up f (by simp)) (fun t q0 q5 => ?_)
      rw [up_row, hvi]
      by_cases e : t = i
      · rw [if_pos e, if_pos (by omega), e]
      · rw [if_neg e, hv t q0 q5]
        by_cases e2 : t < i
        · rw [if_pos e2, if_pos (by omega)]
        · rw [if_neg e2, if_neg (by omega)]
  exact loop n 0 m0 (by omega) (by omega) Fr.rf (fun t q0 q5 => by rw [if_neg (by omega), t1' t q0 q5]; omega)
theorem c_turnOver (B : BW n D W br) (hb : isB b) (X : BX n D W br b m) {h : Nat} (hh : h = 26 ∨ h = 27) (hg : ∀ i, In n i → -1000000 ≤ m h i ∧ m h i ≤ 1000000) : CV l G Y_Group_turnOver d [.inr (.inr b), .inr (.inr h)] m (fun m' => Fr [h] m m' ∧ ∀ t, m' h t = if In n t then br t - 1 - m h t else m h t) := by
  have hn5 := B.1
  have hl : q_lay h = .inr (0, 8) := by rcases hh with rfl | rfl <;> rfl
  have h24 : 24 < h := by rcases hh with rfl | rfl <;> decide
  refine e_Group_turnOver b h 8 hb hl (by decide) (fun _ => ?_)
  have loop : ∀ (j : Nat) (i : Int) (m1 : MM), i + j = n → 0 ≤ i → Fr [h] m m1 → (∀ t, m1 h t = if 0 ≤ t ∧ t < i then br t - 1 - m h t else m h t) →
      Wq l G false Y_Group_turnOver d (QV fun m' => Fr [h] m m' ∧ ∀ t, m' h t = if In n t then br t - 1 - m h t else m h t) 2 [(0, .inr (.inr b)), (1, .inr (.inr h)), (2, .inl i)] [] m1 := by
    intro j
    induction j with
    | zero =>
      intro i m1 hij i0 f hv
      have X1 := BXf hb X f (by intro c hc; simp only [List.mem_cons, List.not_mem_nil, or_false] at hc; omega)
      have hin : i = (n : Int) := by omega
      rw [hin] at hv
      exact s_Group_turnOver_2 _ b h 8 hb hl (by decide) (fun _ _ => ⟨fun _ => ⟨f, hv⟩, fun c => absurd (show i ≥ m1 b 0 by rw [X1.1]; omega) c⟩)
    | succ j ih =>
      intro i m1 hij i0 f hv
      have X1 := BXf hb X f (by intro c hc; simp only [List.mem_cons, List.not_mem_nil, or_false] at hc; omega)
      have hi : In n i := by omega
      have hvi : m1 h i = m h i := by rw [hv i, if_neg (by omega)]
      have hgi := hg i hi
      have hbr := B.br hi
      refine s_Group_turnOver_2 _ b h 8 hb hl (by decide) (fun _ _ => ⟨fun c => absurd c (by rw [X1.1]; omega), fun _ => ⟨by omega, ?_⟩⟩)
      rw [X1.2.2.1 i hi, hvi]
      refine ⟨by omega, by omega, by omega, by omega, ?_⟩
      rintro m2 rfl
      refine ⟨by omega, ih (i + 1) _ (by omega) (by omega) (Fr_up f (by simp)) (fun t => ?_)⟩
      rw [up_row, hv t]
      by_cases e : t = i
      · rw [if_pos e, if_pos (by omega), e]
      · rw [if_neg e]
        by_cases e2 : 0 ≤ t ∧ t < i
        · rw [if_pos e2, if_pos (by omega)]
        · rw [if_neg e2, if_neg (by omega)]
  exact loop n 0 m (by omega) (by omega) Fr.rf (fun t => by rw [if_neg (by omega)])
theorem sm_br (B : BW n D W br) {f : Int → Int} (h : ∀ i, In n i → 0 ≤ f i ∧ f i < br i) : 0 ≤ sm n f ∧ sm n f ≤ 50 := by
  refine ⟨sm_nonneg (fun i hi => (h i hi).1), ?_⟩
  have hn5 := B.1
  have h1 := sm_le (n := n) (f := f) (g := fun _ => 10) (fun t ht => by have := h t ht; have := B.br10 ht; omega)
  have h2 : sm n (fun _ => (10 : Int)) ≤ 50 := by
    have hn2 : n = 0 ∨ n = 1 ∨ n = 2 ∨ n = 3 ∨ n = 4 ∨ n = 5 := by omega
    rcases hn2 with rfl | rfl | rfl | rfl | rfl | rfl <;> decide
  omega
theorem c_toBare (B : BW n D W br) (hb : isB b) (X : BX n D W br b m) (F : FlR n W br (m 40)) {h : Nat} (hh : h = 26 ∨ h = 27) (hg : ∀ i, In n i → -3 ≤ m h i) {N : Int} (hN : sm n (m h) ≤ N) (hN3 : N ≤ 20000) (hbd : ∀ i, 0 ≤ i → i < 5 → -1000000 ≤ m h i ∧ m h i ≤ 1000000) : CV l G Y_Group_toBare (d + 4) [.inr (.inr 38), .inr (.inr b), .inr (.inr h)] m (fun m' => Fr [h, 41, 42, 43] m m' ∧ BaR n W br (m h) (m' h) ∧ ∀ i, ¬ In n i → m' h i = m h i) := by
  have hn5 := B.1
  have hl : q_lay h = .inr (0, 8) := by rcases hh with rfl | rfl <;> rfl
  have hd1 : h ≠ 41 ∧ h ≠ 42 ∧ h ≠ 43 ∧ h ≠ 40 ∧ 24 < h := by rcases hh with rfl | rfl <;> decide
  have h24 : ∀ c ∈ [h, 41, 42, 43], 24 < c := by intro c hc; simp only [List.mem_cons, List.not_mem_nil, or_false] at hc; omega
  have h24' : ∀ c ∈ [h], 24 < c := by intro c hc; simp only [List.mem_cons, List.not_mem_nil, or_false] at hc; omega
  have n40 : 40 ∉ [h, 41, 42, 43] := by simp only [List.mem_cons, List.not_mem_nil, or_false]; omega
  have n40' : 40 ∉ [h] := by simp only [List.mem_cons, List.not_mem_nil, or_false]; omega
  refine e_Group_toBare b h 8 hb hl (by decide) (fun _ => ⟨d + 3, _, by omega, c_toOwn B hb X F hh hg hN hN3 hbd, fun m1 h1 _ => ?_⟩)
  obtain ⟨f1, o1, k1⟩ := h1
  have X1 := BXf hb X f1 h24
  have r1 : ∀ i, In n i → 0 ≤ m1 h i ∧ m1 h i < br i := fun i hi => o1.rng B hi
  refine ⟨d, _, by omega, c_turnOver B hb X1 hh (fun i hi => by have := r1 i hi; have := B.br10 hi; omega), fun m2 h2 _ => ?_⟩
  obtain ⟨f2, v2⟩ := h2
  have X2 := BXf hb X1 f2 h24'
  have v2' : ∀ i, In n i → m2 h i = br i - 1 - m1 h i := fun i hi => by rw [v2 i, if_pos hi]
  have r2 : ∀ i, In n i → 0 ≤ m2 h i ∧ m2 h i < br i := fun i hi => by rw [v2' i hi]; have := r1 i hi; omega
  have F2 : FlR n W br (m2 40) := by rw [f2 40 n40', f1 40 n40]; exact F
  refine ⟨d + 3, _, by omega, c_toOwn B hb X2 F2 hh (fun i hi => by have := r2 i hi; omega) (N := 50) (sm_br B r2).2 (by decide) (fun i q0 q5 => ?_), fun m3 h3 _ => ?_⟩
  · by_cases hi : In n i
    · have := r2 i hi
      have := B.br10 hi
      omega
    · rw [v2 i, if_neg hi, k1 i hi]
      exact hbd i q0 q5
  obtain ⟨f3, o3, k3⟩ := h3
  have X3 := BXf hb X2 f3 h24
  have r3 : ∀ i, In n i → 0 ≤ m3 h i ∧ m3 h i < br i := fun i hi => o3.rng B hi
  refine ⟨d, _, by omega, c_turnOver B hb X3 hh (fun i hi => by have := r3 i hi; have := B.br10 hi; omega), fun m4 h4 _ => ?_⟩
  obtain ⟨f4, v4⟩ := h4
  have fh : Fr [h, 41, 42, 43] m2 m4 := f3.tr (f4.mono (by simp))
  refine ⟨(f1.tr (f2.mono (by simp))).tr fh, ⟨m3 h, ?_, fun i hi => by rw [v4 i, if_pos hi]⟩, fun i hi => by rw [v4 i, if_neg hi, k3 i hi, v2 i, if_neg hi, k1 i hi]⟩
  obtain ⟨w, hw⟩ := o1.one
  refine o3.shift (w := fun i => 0 - w i) (fun i hi => ?_)
  have L0 : Lp n W br (fun _ => (0 : Int)) i = 0 := by
    unfold Lp
    have : sm n (fun j => W i j * 0) = 0 := (sm_congr (fun j _ => Int.mul_zero _)).trans (sm_zero n)
    rw [this]; simp
  rw [v2' i hi, hw i hi, Lp_sub (u := fun _ => 0), L0]
  omega
/-- heaps of now for the group -/
def GX (n : Nat) (W : Int → Int → Int) (br : Int → Int) (N : Int) (m : MM) : Prop := (∀ i, In n i → 0 ≤ m 25 i) ∧ sm n (m 25) ≤ N ∧ N ≤ 20000 ∧ (∀ i, 0 ≤ i → i < 5 → -1000000 ≤ m 25 i ∧ m 25 i ≤ 1000000) ∧ FlR n W br (m 40)
theorem c_noughtX (B : BW n D W br) (X : CX n D W br b m) (F : FlR n W br (m 40)) {x : Int} : CI l G Y_S_nought (d + 4) [.inr (.inr 0), .inl x] m (fun z m' => Fr [27, 41, 42, 43] m m' ∧ (In n x → ∃ Z, OwR n W br (fun _ => 0) Z ∧ z = Z x) ∧ (¬ In n x → z = -1)) := by
  have hn5 := B.1
  refine e_S_nought x (fun _ _ => ⟨b, X.2.1, X.1, d, _, by omega, c_has X.1, fun z m1 hz _ _ => ?_⟩)
  obtain ⟨rfl, rfl⟩ := hz
  rw [has_if X.2.2]
  by_cases hx : In n x
  · rw [if_pos hx]
    refine ⟨fun _ => ⟨d, _, by omega, c_fill (h := 27) (len := 8) rfl (by decide) (by decide), fun m1 h1 _ => ?_⟩, fun c => absurd (by decide) c⟩
    obtain ⟨f1, z1⟩ := h1
    have X1 := X.fr f1 (by decide) (by decide)
    have hz0 : ∀ i, In n i → m1 27 i = 0 := fun i hi => z1 i hi.1 (by have := hi.2; omega)
    refine ⟨b, X1.2.1, X1.1, d + 3, _, by omega, c_toOwn B X1.1 X1.2.2 (by rw [f1 40 (by decide)]; exact F) (Or.inr rfl) (fun i hi => by rw [hz0 i hi]; decide) (N := 0) (by rw [sm_congr hz0, sm_zero]; exact Int.le_refl 0) (by decide) (fun i q0 q5 => by rw [z1 i q0 (by omega)]; decide), fun m2 h2 _ => ⟨by omega, ?_⟩⟩
    obtain ⟨f2, o2, -⟩ := h2
    exact ⟨Fr.tr (f1.mono (by simp)) f2, fun _ => ⟨m2 27, o2.congr hz0, rfl⟩, fun q => absurd hx q⟩
  · rw [if_neg hx]
    exact ⟨fun c => absurd rfl c, fun _ => ⟨Fr.rf, fun q => absurd q hx, fun _ => rfl⟩⟩
theorem copy27 (X : CX n D W br b m) {N : Int} (H : GX n W br N m) : Fr [27, 41, 42, 43] m (upC m 25 27 0 0 8) ∧ CX n D W br b (upC m 25 27 0 0 8) ∧ FlR n W br (upC m 25 27 0 0 8 40) ∧ (∀ i, 0 ≤ i → i < 5 → upC m 25 27 0 0 8 27 i = m 25 i) := by
  have f : Fr [27, 41, 42, 43] m (upC m 25 27 0 0 8) := fun c hc => upC_ne (fun e => hc (by rw [e]; simp))
  refine ⟨f, X.fr f (by decide) (by decide), by rw [f 40 (by decide)]; exact H.2.2.2.2, fun i q0 q5 => ?_⟩
  rw [upC_row, if_pos (by omega)]
  exact congrArg (m 25) (by omega)
theorem c_ownX (B : BW n D W br) (X : CX n D W br b m) {N : Int} (H : GX n W br N m) {x : Int} : CI l G Y_S_own (d + 4) [.inr (.inr 0), .inl x] m (fun z m' => Fr [27, 41, 42, 43] m m' ∧ (In n x → ∃ Z, OwR n W br (m 25) Z ∧ z = Z x) ∧ (¬ In n x → z = -1)) := by
  have hn5 := B.1
  refine e_S_own x (by omega) (fun _ _ => ⟨b, X.2.1, X.1, d, _, by omega, c_has X.1, fun z m1 hz _ _ => ?_⟩)
  obtain ⟨rfl, rfl⟩ := hz
  rw [has_if X.2.2]
  by_cases hx : In n x
  · rw [if_pos hx]
    refine ⟨fun _ => ⟨by decide, ?_⟩, fun c => absurd (by decide) c⟩
    rintro m1 rfl
    obtain ⟨f1, X1, F1, v1⟩ := copy27 X H
    have hz0 : ∀ i, In n i → upC m 25 27 0 0 8 27 i = m 25 i := fun i hi => v1 i hi.1 (by have := hi.2; omega)
    obtain ⟨g1, g2, g3, g4, -⟩ := H
    refine ⟨b, X1.2.1, X1.1, d + 3, _, by omega, c_toOwn B X1.1 X1.2.2 F1 (Or.inr rfl) (fun i hi => by rw [hz0 i hi]; have := g1 i hi; omega) (N := N) (by rw [sm_congr hz0]; exact g2) g3 (fun i q0 q5 => by rw [v1 i q0 q5]; exact g4 i q0 q5), fun m2 h2 _ => ⟨by omega, ?_⟩⟩
    obtain ⟨f2, o2, -⟩ := h2
    exact ⟨Fr.tr f1 f2, fun _ => ⟨m2 27, o2.congr hz0, rfl⟩, fun q => absurd hx q⟩
  · rw [if_neg hx]
    exact ⟨fun c => absurd rfl c, fun _ => ⟨Fr.rf, fun q => absurd q hx, fun _ => rfl⟩⟩
theorem BaR.congr {X X' Z : Int → Int} (h : BaR n W br X Z) (e : ∀ i, In n i → X i = X' i) : BaR n W br X' Z := by
  obtain ⟨O, h1, h2⟩ := h
  exact ⟨O, h1.congr (fun i hi => by rw [e i hi]), h2⟩
theorem c_bareX (B : BW n D W br) (X : CX n D W br b m) {N : Int} (H : GX n W br N m) {x : Int} : CI l G Y_S_bare (d + 5) [.inr (.inr 0), .inl x] m (fun z m' => Fr [27, 41, 42, 43] m m' ∧ (In n x → ∃ Z, BaR n W br (m 25) Z ∧ z = Z x) ∧ (¬ In n x → z = -1)) := by
  have hn5 := B.1
  refine e_S_bare x (by omega) (fun _ _ => ⟨b, X.2.1, X.1, d, _, by omega, c_has X.1, fun z m1 hz _ _ => ?_⟩)
  obtain ⟨rfl, rfl⟩ := hz
  rw [has_if X.2.2]
  by_cases hx : In n x
  · rw [if_pos hx]
    refine ⟨fun _ => ⟨by decide, ?_⟩, fun c => absurd (by decide) c⟩
    rintro m1 rfl
    obtain ⟨f1, X1, F1, v1⟩ := copy27 X H
    have hz0 : ∀ i, In n i → upC m 25 27 0 0 8 27 i = m 25 i := fun i hi => v1 i hi.1 (by have := hi.2; omega)
    obtain ⟨g1, g2, g3, g4, -⟩ := H
    refine ⟨b, X1.2.1, X1.1, d + 4, _, by omega, c_toBare B X1.1 X1.2.2 F1 (Or.inr rfl) (fun i hi => by rw [hz0 i hi]; have := g1 i hi; omega) (N := N) (by rw [sm_congr hz0]; exact g2) g3 (fun i q0 q5 => by rw [v1 i q0 q5]; exact g4 i q0 q5), fun m2 h2 _ => ⟨by omega, ?_⟩⟩
    obtain ⟨f2, o2, -⟩ := h2
    exact ⟨Fr.tr f1 f2, fun _ => ⟨m2 27, o2.congr hz0, rfl⟩, fun q => absurd hx q⟩
  · rw [if_neg hx]
    exact ⟨fun c => absurd rfl c, fun _ => ⟨Fr.rf, fun q => absurd q hx, fun _ => rfl⟩⟩
theorem c_creditX (B : BW n D W br) (X : CX n D W br b m) {N : Int} (H : GX n W br N m) : CI l G Y_S_credit (d + 5) [.inr (.inr 0)] m (fun z m' => Fr [27, 41, 42, 43] m m' ∧ ∃ Z, BaR n W br (m 25) Z ∧ z = sm n (m 25) - sm n Z) := by
  have hn5 := B.1
  refine e_S_credit (by omega) (fun _ => ⟨by decide, ?_⟩)
  rintro m1 rfl
  obtain ⟨f1, X1, F1, v1⟩ := copy27 X H
  have hz0 : ∀ i, In n i → upC m 25 27 0 0 8 27 i = m 25 i := fun i hi => v1 i hi.1 (by have := hi.2; omega)
  obtain ⟨g1, g2, g3, g4, -⟩ := H
  refine ⟨b, X1.2.1, X1.1, d + 4, _, by omega, c_toBare B X1.1 X1.2.2 F1 (Or.inr rfl) (fun i hi => by rw [hz0 i hi]; have := g1 i hi; omega) (N := N) (by rw [sm_congr hz0]; exact g2) g3 (fun i q0 q5 => by rw [v1 i q0 q5]; exact g4 i q0 q5), fun m2 h2 _ => ?_⟩
  obtain ⟨f2, o2, -⟩ := h2
  have o2' := o2.congr hz0
  have fm : Fr [27, 41, 42, 43] m m2 := f1.tr f2
  have X2 := X.fr fm (by decide) (by decide)
  have e25 : m2 25 = m 25 := fm 25 (by decide)
  have hs := sm_nonneg g1
  have r2 : ∀ i, In n i → 0 ≤ m2 27 i ∧ m2 27 i < br i := fun i hi => o2'.rng B hi
  have hs2 := sm_br B r2
  refine ⟨b, X2.2.1, X2.1, d, _, by omega, grains_of B X2 (by rw [e25]; exact g1) (N := N) (by rw [e25]; exact g2) (by omega), fun z m3 hz _ _ => ?_⟩
  obtain ⟨rfl, rfl⟩ := hz
  refine ⟨b, X2.2.1, X2.1, d, _, by omega, c_grainsOf X2.1 hn5 X2.2.2.1 (h := 27) (len := 8) rfl (by decide) (by decide) (fun i hi => by have := r2 i hi; have := B.br10 hi; omega), fun z m3 hz _ _ => ?_⟩
  obtain ⟨rfl, rfl⟩ := hz
  rw [e25]
  exact ⟨by omega, fm, m2 27, o2', rfl⟩
end OwnX
