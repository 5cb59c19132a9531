/-! sum of both -/
def SmR (n : Nat) (W : Int → Int → Int) (br g x : Int → Int) (z c : Int) (L : Int → Int) : Prop := ∃ u, Stb n W br (fun i => g i + x i) u ∧ c = n ∧ (∀ i, In n i → L i = g i + x i - Lp n W br u i) ∧ z = sm n (fun i => g i + x i - Lp n W br u i)
def SmA (n : Nat) (W : Int → Int → Int) (br g x : Int → Int) (f : Prop) (z c : Int) (L : Int → Int) : Prop := (f → SmR n W br g x z c L) ∧ (¬ f → z = -1 ∧ c = 0)
theorem SmA.uniq {n : Nat} {W : Int → Int → Int} {br g x g' x' : Int → Int} {f f' : Prop} {z c z' c' : Int} {L L' : Int → Int} (hf : f ↔ f') (e1 : ∀ i, In n i → g i = g' i) (e2 : f → ∀ i, In n i → x i = x' i) (h : SmA n W br g x f z c L) (h' : SmA n W br g' x' f' z' c' L') : z = z' ∧ c = c' ∧ ∀ i, 0 ≤ i → i < c → L i = L' i := by
  by_cases q : f
  · obtain ⟨u, hu, a1, a2, a3⟩ := h.1 q
    obtain ⟨v, hv, b1, b2, b3⟩ := h'.1 (hf.mp q)
    have e3 := e2 q
    have huv := hu.uniq (hv.congr (fun i hi => by rw [e1 i hi, e3 i hi]))
    have key : ∀ i, In n i → g i + x i - Lp n W br u i = g' i + x' i - Lp n W br v i := fun i hi => by rw [e1 i hi, e3 i hi, Lp_congr huv i hi]
    exact ⟨by rw [a3, b3, sm_congr key], by rw [a1, b1], fun i i0 i1 => by rw [a2 i ⟨i0, by omega⟩, b2 i ⟨i0, by omega⟩, key i ⟨i0, by omega⟩]⟩
  · have a := h.2 q
    have b := h'.2 (fun r => q (hf.mpr r))
    exact ⟨by rw [a.1, b.1], by rw [a.2, b.2], fun i i0 i1 => by omega⟩
section Sum
variable {l : Launch} {G : GT} {d : Nat} {m : MM} {b : Nat} {n : Nat} {D : Int → Int} {W : Int → Int → Int} {br : Int → Int}
theorem c_sumX (B : BW n D W br) (X : CX n D W br b m) (hg : ∀ i, In n i → 0 ≤ m 25 i) {N : Int} (hN : sm n (m 25) ≤ N) (hN3 : N ≤ 14000) {x : Int} (hx : (0 ≤ x ∧ x < 3) ∧ m 31 x ≠ 0 → (∀ i, In n i → 0 ≤ m 30 (8 * x + i)) ∧ sm n (fun i => m 30 (8 * x + i)) ≤ 14000) : CI l G Y_S_sum (d + 3) [.inr (.inr 0), .inl x] m (fun z m' => Fr [32, 33, 34, 67, 68] m m' ∧ SmA n W br (m 25) (fun i => m 30 (8 * x + i)) ((0 ≤ x ∧ x < 3) ∧ m 31 x ≠ 0) z (m' 67 1) (m' 68)) := by
  have hn5 := B.1
  refine e_S_sum x (fun _ _ => ⟨d, _, by omega, e_Lying_clear (P := fun m' => m' = up m 67 1 0) (fun _ _ h => h), fun m1 h1 _ => ?_⟩)
  have f1 : Fr [32, 33, 34, 67, 68] m m1 := by rw [h1]; exact Fr_up Fr.rf (by simp)
  have e67 : m1 67 1 = 0 := by rw [h1]; exact up_at
  have e31 : m1 31 = m 31 := f1 31 (by decide)
  refine ⟨d, _, by omega, c_isFilled, fun z m2 hz _ _ => ?_⟩
  obtain ⟨rfl, rfl⟩ := hz
  rw [e31]
  by_cases h : (0 ≤ x ∧ x < 3) ∧ m 31 x ≠ 0
  · rw [if_pos h]
    obtain ⟨hx1, hx2⟩ := hx h
    refine ⟨fun _ => ⟨d, _, by omega, c_take (a := 32) (Or.inl rfl) (h := 25) (len := 8) rfl (by decide) (by decide) (by decide) (by decide), fun m0 h0 _ => ?_⟩, fun c => absurd (by decide) c⟩
    obtain ⟨f0, t1, t2, t3⟩ := h0
    have f10 : Fr [32, 33, 34, 67, 68] m m0 := f1.tr (f0.mono (by simp))
    have e25 : m1 25 = m 25 := f1 25 (by decide)
    rw [e25] at t1
    have e670 : m0 67 1 = 0 := by rw [f0 67 (by decide)]; exact e67
    have last : ∀ (u : Int → Int) (mc : MM), Stb n W br (fun i => m 25 i + m 30 (8 * x + i)) u → Fr [32, 33, 34, 67, 68] m mc → (∀ i, In n i → mc 33 i = m 25 i + m 30 (8 * x + i) - Lp n W br u i) → (∀ i, In n i → 0 ≤ mc 33 i ∧ mc 33 i ≤ 100000) → mc 67 1 = 0 → ∀ (j t : Nat) (m2 : MM), t + j = n → Fr [67, 68] mc m2 → m2 67 1 = t → (∀ i, In t i → m2 68 i = mc 33 i) → (0 ≤ sm t (mc 33) ∧ sm t (mc 33) ≤ 100000 * t) →
        Wq l G false Y_S_sum (d + 3) (QI fun z m' => Fr [32, 33, 34, 67, 68] m m' ∧ SmA n W br (m 25) (fun i => m 30 (8 * x + i)) ((0 ≤ x ∧ x < 3) ∧ m 31 x ≠ 0) z (m' 67 1) (m' 68)) 81 [(0, .inr (.inr 0)), (2, .inl (sm t (mc 33))), (3, .inl (t : Int))] [] m2 := by
      intro u mc hu fc hc hcr hc67 j
      induction j with
      | zero =>
        intro t m2 htj f2 ht hL hs
        have e : t = n := by omega
        rw [e] at hL ⊢
        have fm : Fr [32, 33, 34, 67, 68] m m2 := fc.tr (f2.mono (by simp))
        have X2 := X.fr fm (by decide) (by decide)
        exact s_S_sum_81 _ _ (fun _ _ _ => ⟨b, X2.2.1, X2.1, fun _ => ⟨fm, fun _ => ⟨u, hu, by rw [ht, e], fun i hi => by rw [hL i hi, hc i hi], sm_congr hc⟩, fun q => absurd h q⟩, fun c => absurd (show (n : Int) ≥ m2 b 0 by rw [X2.2.2.1]; exact Int.le_refl _) c⟩)
      | succ j ih =>
        intro t m2 htj f2 ht hL hs
        have fm : Fr [32, 33, 34, 67, 68] m m2 := fc.tr (f2.mono (by simp))
        have X2 := X.fr fm (by decide) (by decide)
        have ht2 : In n (t : Int) := by omega
        have hct := hcr t ht2
        have e33 : m2 33 = mc 33 := f2 33 (by decide)
        refine s_S_sum_81 _ _ (fun _ _ _ => ⟨b, X2.2.1, X2.1, fun c => absurd c (by rw [X2.2.2.1]; omega), fun _ => ⟨by omega, d, _, by omega, c_lyingPut (by omega), fun m3 h3 _ => ?_⟩⟩)
        rw [ht, e33] at h3
        have e333 : m3 33 = mc 33 := by rw [h3, up_ne (by decide), up_ne (by decide)]; exact e33
        rw [e333]
        refine ⟨by omega, by omega, by omega, ?_⟩
        have := ih (t + 1) m3 (by omega) (by rw [h3]; exact Fr_up (Fr_up f2 (by simp)) (by simp)) (by rw [h3, up_at]; rfl) (fun i hi => ?_) (by rw [sm_next]; omega)
        · rw [sm_next] at this
          exact this
        · rw [h3, up_ne (by decide), up_row]
          by_cases e : i = (t : Int)
          · rw [if_pos e, e]
          · rw [if_neg e]; exact hL i ⟨hi.1, by have := hi.2; omega⟩
    have loop : ∀ (j : Nat) (i : Int) (m2 : MM), i + j = n → 0 ≤ i → Fr [33] m0 m2 → (∀ t, 0 ≤ t → t < 5 → m2 33 t = m 25 t + (if t < i then m 30 (8 * x + t) else 0)) →
        Wq l G false Y_S_sum (d + 3) (QI fun z m' => Fr [32, 33, 34, 67, 68] m m' ∧ SmA n W br (m 25) (fun i => m 30 (8 * x + i)) ((0 ≤ x ∧ x < 3) ∧ m 31 x ≠ 0) z (m' 67 1) (m' 68)) 30 [(0, .inr (.inr 0)), (1, .inl x), (2, .inl i)] [] m2 := by
      intro j
      induction j with
      | zero =>
        intro i m2 hij i0 f2 hv
        have fm : Fr [32, 33, 34, 67, 68] m m2 := f10.tr (f2.mono (by simp))
        have X2 := X.fr fm (by decide) (by decide)
        have hin : ∀ t, In n t → m 25 t + (if t < i then m 30 (8 * x + t) else 0) = m 25 t + m 30 (8 * x + t) := fun t ht => by rw [if_pos (by have := ht.2; omega)]
        have hnn : ∀ t, In n t → 0 ≤ m 25 t + (if t < i then m 30 (8 * x + t) else 0) := fun t ht => by
          rw [hin t ht]
          have := hg t ht
          have := hx1 t ht
          omega
        have hss : sm n (fun t => m 25 t + (if t < i then m 30 (8 * x + t) else 0)) ≤ N + 14000 := by
          rw [sm_congr hin, sm_add]
          omega
        refine s_S_sum_30 _ _ (fun _ _ _ => ⟨b, X2.2.1, X2.1, fun _ => ⟨b, X2.2.1, X2.1, d + 2, _, by omega, c_calm0 (a := 32) (Or.inl rfl) B X2.2.2 X2.1 (g := fun t => m 25 t + (if t < i then m 30 (8 * x + t) else 0)) hv hnn hss (by omega) (fun t q0 q5 => ?_) ?_ ?_, fun m3 h3 _ => ?_⟩, fun c => absurd (show i ≥ m2 b 0 by rw [X2.2.2.1]; omega) c⟩)
        · rw [f2 34 (by decide)]
          exact (t1 t q0 q5).2
        · rw [f2 32 (by decide)]
          exact t2
        · rw [f2 32 (by decide)]
          exact t3
        · obtain ⟨f3, u, hu, c1, -⟩ := h3
          have c1' : ∀ t, In n t → m3 33 t = m 25 t + m 30 (8 * x + t) - Lp n W br u t := fun t ht => by
            have := c1 t ht
            have e2 : m3 33 t = m 25 t + (if t < i then m 30 (8 * x + t) else 0) - Lp n W br u t := this
            rw [e2, hin t ht]
          have hu2 := hu.congr hin
          refine last u m3 hu2 (fm.tr (f3.mono (by simp))) c1' (fun t ht => ?_) (by rw [f3 67 (by decide), f2 67 (by decide)]; exact e670) n 0 m3 (by omega) Fr.rf (by rw [f3 67 (by decide), f2 67 (by decide)]; exact e670) (fun t ht => absurd ht (by intro r; have := r.1; have := r.2; omega)) ⟨Int.le_refl 0, Int.le_refl 0⟩
          have hb10 := B.br10 ht
          have h1 := hu.nonneg B hnn t ht
          have h2 := hu.2.1 t ht
          have e2 : m3 33 t = m 25 t + (if t < i then m 30 (8 * x + t) else 0) - Lp n W br u t := c1 t ht
          rw [e2]
          exact ⟨h1, by have h2' : m 25 t + (if t < i then m 30 (8 * x + t) else 0) - Lp n W br u t < br t := h2; omega⟩
      | succ j ih =>
        intro i m2 hij i0 f2 hv
        have fm : Fr [32, 33, 34, 67, 68] m m2 := f10.tr (f2.mono (by simp))
        have X2 := X.fr fm (by decide) (by decide)
        have hi : In n i := by omega
        have hvi : m2 33 i = m 25 i := by rw [hv i i0 (by omega), if_neg (by omega)]; omega
        have hs1 := sm_term hg i hi
        have hg1 := hg i hi
        have hs2 := sm_term hx1 i hi
        have hg2 := hx1 i hi
        have e30 : m2 30 (x * 8 + i) = m 30 (8 * x + i) := by rw [fm 30 (by decide), Int.mul_comm]
        have hs2' : m 30 (8 * x + i) ≤ 14000 := by
          have : m 30 (8 * x + i) ≤ sm n (fun i => m 30 (8 * x + i)) := hs2
          omega
        have P1 : CV l G Y_Sand_put d [.inr (.inr 32), .inl i, .inl (m 30 (8 * x + i))] m2 (fun m' => m' = up m2 33 i (m2 33 i + m 30 (8 * x + i))) := c_put (a := 32) (Or.inl rfl) (by omega) (by show inR (m2 33 i + m 30 (8 * x + i)); constructor <;> omega)
        refine s_S_sum_30 _ _ (fun _ _ _ => ⟨b, X2.2.1, X2.1, fun c => absurd c (by rw [X2.2.2.1]; omega), fun _ => ⟨by omega, by omega, by omega, ?_⟩⟩)
        rw [e30]
        refine ⟨d, _, by omega, P1, fun m3 h3 _ => ⟨by omega, ?_⟩⟩
        subst h3
        refine ih (i + 1) _ (by omega) (by omega) (Fr_up f2 (by simp)) (fun t q0 q5 => ?_)
        rw [up_row, hvi]
        by_cases e : t = i
        · rw [if_pos e, if_pos (by omega), e]
        · rw [if_neg e, hv t q0 q5]
          by_cases e2 : t < i
          · rw [if_pos e2, if_pos (by omega)]
          · rw [if_neg e2, if_neg (by omega)]
    refine loop n 0 m0 (by omega) (by omega) Fr.rf (fun t q0 q5 => ?_)
    rw [if_neg (by omega)]
    have e : m0 33 t = m 25 t := (t1 t q0 q5).1
    rw [e]; omega
  · rw [if_neg h]
    exact ⟨fun c => absurd rfl c, fun _ => ⟨f1, fun q => absurd q h, fun _ => ⟨rfl, e67⟩⟩⟩
theorem c_sumM (B : BW n D W br) (X : BM n D W br m) (hg : ∀ i, In n i → 0 ≤ m 90 i) {N : Int} (hN : sm n (m 90) ≤ N) (hN3 : N ≤ 14000) {x : Int} (hx : (0 ≤ x ∧ x < 3) ∧ m 110 x ≠ 0 → (∀ i, In n i → 0 ≤ m 109 (8 * x + i)) ∧ sm n (fun i => m 109 (8 * x + i)) ≤ 14000) : CI l G Y_M_sum (d + 3) [.inr (.inr 70), .inl x] m (fun z m' => Fro 70 [93, 94, 97] [41, 48] m m' ∧ SmA n W br (m 90) (fun i => m 109 (8 * x + i)) ((0 ≤ x ∧ x < 3) ∧ m 110 x ≠ 0) z (m' 70 48) (m' 97)) := by
  have hn5 := B.1
  refine e_M_sum x (fun _ _ m1 h1 => ?_)
  have f1 : Fro 70 [93, 94, 97] [41, 48] m m1 := by rw [h1]; exact Fro_upo Fro.rf (by simp)
  have e48 : m1 70 48 = 0 := by rw [h1]; exact up_at
  have e110 : m1 110 = m 110 := f1.1 110 (by decide) (by decide)
  have X1 := X.fro f1 (by decide) (by decide) (by decide) (by decide) (by decide)
  refine ⟨d + 1, _, by omega, c_isBox, fun z m2 hz _ _ => ?_⟩
  obtain ⟨rfl, rfl⟩ := hz
  rw [e110]
  by_cases h : (0 ≤ x ∧ x < 3) ∧ m 110 x ≠ 0
  · rw [if_pos h]
    obtain ⟨hx1, hx2⟩ := hx h
    refine ⟨fun _ => ⟨d + 1, _, by omega, c_layNow hn5 X1, fun m0 h0 _ => ?_⟩, fun c => absurd (by decide) c⟩
    obtain ⟨f0, g0, -⟩ := h0
    rw [f1.1 90 (by decide) (by decide)] at g0
    have f10 : Fro 70 [93, 94, 97] [41, 48] m m0 := f1.tr (f0.mono (by simp) (by simp))
    have last : ∀ (u : Int → Int) (mc : MM), Stb n W br (fun i => m 90 i + m 109 (8 * x + i)) u → Fro 70 [93, 94, 97] [41, 48] m mc → (∀ i, In n i → mc 93 i = m 90 i + m 109 (8 * x + i) - Lp n W br u i) → (∀ i, In n i → 0 ≤ mc 93 i ∧ mc 93 i ≤ 100000) → ∀ (j t : Nat) (m2 : MM), t + j = n → Fr [97] mc m2 → (∀ i, In t i → m2 97 i = mc 93 i) →
        Wq l G false Y_M_sum (d + 3) (QI fun z m' => Fro 70 [93, 94, 97] [41, 48] m m' ∧ SmA n W br (m 90) (fun i => m 109 (8 * x + i)) ((0 ≤ x ∧ x < 3) ∧ m 110 x ≠ 0) z (m' 70 48) (m' 97)) 62 [(0, .inr (.inr 70)), (3, .inl (t : Int))] [] m2 := by
      intro u mc hu fc hc hcr j
      induction j with
      | zero =>
        intro t m2 htj f2 hL
        have e : t = n := by omega
        rw [e] at hL
        have fm : Fro 70 [93, 94, 97] [41, 48] m m2 := fc.tr ⟨fun c hc _ => f2 c (by simp only [List.mem_cons, List.not_mem_nil, or_false] at hc ⊢; omega), fun i _ => by rw [f2 70 (by decide)]⟩
        have X2 := X.fro fm (by decide) (by decide) (by decide) (by decide) (by decide)
        refine s_M_sum_62 _ (fun _ _ => ⟨d, _, by omega, c_lots X2, fun z m3 hz _ _ => ?_⟩)
        obtain ⟨rfl, rfl⟩ := hz
        refine ⟨fun _ => ⟨d, _, by omega, c_lots X2, fun z m3 hz _ _ => ?_⟩, fun c => absurd (show (t : Int) ≥ n by omega) c⟩
        obtain ⟨rfl, rfl⟩ := hz
        rintro m3 rfl
        have f3 : Fro 70 [93, 94, 97] [41, 48] m (up m2 70 48 (n : Int)) := Fro_upo fm (by simp)
        have X3 := X.fro f3 (by decide) (by decide) (by decide) (by decide) (by decide)
        have e93 : up m2 70 48 (n : Int) 93 = mc 93 := by rw [up_ne (by decide), f2 93 (by decide)]
        refine ⟨d + 1, _, by omega, c_levelOf hn5 X3 (fun i hi => by rw [e93]; have := hcr i hi; omega), fun z m4 hz _ _ => ?_⟩
        obtain ⟨hz, rfl⟩ := hz
        rw [e93] at hz
        refine ⟨f3, fun _ => ⟨u, hu, up_at, fun i hi => ?_, by rw [hz]; exact sm_congr hc⟩, fun q => absurd h q⟩
        rw [up_ne (by decide), hL i hi, hc i hi]
      | succ j ih =>
        intro t m2 htj f2 hL
        have fm : Fro 70 [93, 94, 97] [41, 48] m m2 := fc.tr ⟨fun c hc _ => f2 c (by simp only [List.mem_cons, List.not_mem_nil, or_false] at hc ⊢; omega), fun i _ => by rw [f2 70 (by decide)]⟩
        have X2 := X.fro fm (by decide) (by decide) (by decide) (by decide) (by decide)
        refine s_M_sum_62 _ (fun _ _ => ⟨d, _, by omega, c_lots X2, fun z m3 hz _ _ => ?_⟩)
        obtain ⟨rfl, rfl⟩ := hz
        refine ⟨fun c => absurd c (by omega), fun _ => ⟨by omega, by omega, ?_⟩⟩
        rintro m3 rfl
        refine ⟨by omega, ih (t + 1) _ (by omega) (Fr_up f2 (by simp)) (fun i hi => ?_)⟩
        rw [up_row, f2 93 (by decide)]
        by_cases e : i = (t : Int)
        · rw [if_pos e, e]
        · rw [if_neg e]; exact hL i ⟨hi.1, by have := hi.2; omega⟩
    have loop : ∀ (j : Nat) (i : Int) (m2 : MM), i + j = n → 0 ≤ i → Fro 70 [93] [] m0 m2 → (∀ t, In n t → m2 93 t = m 90 t + (if t < i then m 109 (8 * x + t) else 0)) →
        Wq l G false Y_M_sum (d + 3) (QI fun z m' => Fro 70 [93, 94, 97] [41, 48] m m' ∧ SmA n W br (m 90) (fun i => m 109 (8 * x + i)) ((0 ≤ x ∧ x < 3) ∧ m 110 x ≠ 0) z (m' 70 48) (m' 97)) 21 [(0, .inr (.inr 70)), (1, .inl x), (2, .inl i)] [] m2 := by
      intro j
      induction j with
      | zero =>
        intro i m2 hij i0 f2 hv
        have fm : Fro 70 [93, 94, 97] [41, 48] m m2 := f10.tr (f2.mono (by simp) (by simp))
        have X2 := X.fro fm (by decide) (by decide) (by decide) (by decide) (by decide)
        have hin : ∀ t, In n t → m2 93 t = m 90 t + m 109 (8 * x + t) := fun t ht => by rw [hv t ht, if_pos (by have := ht.2; omega)]
        have hnn : ∀ t, In n t → 0 ≤ m2 93 t := fun t ht => by
          rw [hin t ht]
          have := hg t ht
          have := hx1 t ht
          omega
        have hss : sm n (m2 93) ≤ N + 14000 := by
          rw [sm_congr hin, sm_add]
          omega
        refine s_M_sum_21 _ _ (fun _ _ _ => ⟨d, _, by omega, c_lots X2, fun z m3 hz _ _ => ?_⟩)
        obtain ⟨rfl, rfl⟩ := hz
        refine ⟨fun _ => ⟨d + 2, _, by omega, c_settleHeap B X2 hnn hss (by omega), fun z m3 h3 _ _ => ?_⟩, fun c => absurd (show i ≥ (n : Int) by omega) c⟩
        obtain ⟨u, hu, ⟨f3, g3, -, -, -, -⟩, -⟩ := h3
        refine last u m3 (hu.congr hin) (fm.tr (f3.mono (by simp) (by simp))) (fun t ht => by rw [g3 t ht, hin t ht]) (fun t ht => ?_) n 0 m3 (by omega) Fr.rf (fun t ht => absurd ht (by intro r; have := r.1; have := r.2; omega))
        have hb10 := B.br10 ht
        have h1 := hu.nonneg B hnn t ht
        have h2 := hu.2.1 t ht
        rw [g3 t ht]
        omega
      | succ j ih =>
        intro i m2 hij i0 f2 hv
        have fm : Fro 70 [93, 94, 97] [41, 48] m m2 := f10.tr (f2.mono (by simp) (by simp))
        have X2 := X.fro fm (by decide) (by decide) (by decide) (by decide) (by decide)
        have hi : In n i := by omega
        have hvi : m2 93 i = m 90 i := by rw [hv i hi, if_neg (by omega)]; omega
        have hs1 := sm_term hg i hi
        have hg1 := hg i hi
        have hs2 := sm_term hx1 i hi
        have hg2 := hx1 i hi
        have e109 : m2 109 (8 * x + i) = m 109 (8 * x + i) := by rw [fm.1 109 (by decide) (by decide)]
        have hs2' : m 109 (8 * x + i) ≤ 14000 := by
          have : m 109 (8 * x + i) ≤ sm n (fun i => m 109 (8 * x + i)) := hs2
          omega
        refine s_M_sum_21 _ _ (fun _ _ _ => ⟨d, _, by omega, c_lots X2, fun z m3 hz _ _ => ?_⟩)
        obtain ⟨rfl, rfl⟩ := hz
        rw [hvi, e109]
        refine ⟨fun c => absurd c (by omega), fun _ => ⟨by omega, by omega, by omega, by omega, by omega, by omega, ?_⟩⟩
        rintro m3 rfl
        refine ⟨by omega, ih (i + 1) _ (by omega) (by omega) (Fro_up f2 (by simp) (by decide)) (fun t ht => ?_)⟩
        rw [up_row]
        by_cases e : t = i
        · rw [if_pos e, if_pos (by omega), e]
        · rw [if_neg e, hv t ht]
          by_cases e2 : t < i
          · rw [if_pos e2, if_pos (by omega)]
          · rw [if_neg e2, if_neg (by omega)]
    refine loop n 0 m0 (by omega) (by omega) Fro.rf (fun t ht => ?_)
    rw [if_neg (by have := ht.1; omega), g0 t ht]; omega
  · rw [if_neg h]
    exact ⟨fun c => absurd rfl c, fun _ => ⟨f1, fun q => absurd q h, fun _ => ⟨rfl, e48⟩⟩⟩
end Sum
