/-- a state of eight numbers, settled by these topplings -/
def stS (n : Nat) (D : Int → Int) (W : Int → Int → Int) (br s u : Int → Int) : Int → Int :=
  fun i => if In n i then s i - Lp n W br u i else if i = 5 then s 5 + sm n (fun j => D j * u j) else s i
/-- what lies on a plate on which so much falls -/
def fal (g v : Int) : Int := if g ≥ 999 then g else min 999 (g + v)
theorem fal_kept {g v : Int} (hv : 0 ≤ v) : (if g + v ≤ 999 then g + v else if g > 999 then g else 999) = fal g v := by
  unfold fal
  by_cases h : g ≥ 999
  · rw [if_pos h]
    by_cases h1 : g + v ≤ 999
    · rw [if_pos h1]; omega
    · rw [if_neg h1]
      by_cases h2 : g > 999
      · rw [if_pos h2]
      · rw [if_neg h2]; omega
  · rw [if_neg h]
    by_cases h1 : g + v ≤ 999
    · rw [if_pos h1]; omega
    · rw [if_neg h1, if_neg (by omega)]; omega
/-- what drains is no more than what lay there -/
theorem Stb.drain {n : Nat} {D : Int → Int} {W : Int → Int → Int} {br g u : Int → Int} (B : BW n D W br) (h : Stb n W br g u) (hg : ∀ i, In n i → 0 ≤ g i) : 0 ≤ sm n (fun i => D i * u i) ∧ sm n (fun i => D i * u i) ≤ sm n g := by
  refine ⟨sm_nonneg (fun i hi => Int.mul_nonneg (B.2.1 i hi).1 (h.1 i hi)), ?_⟩
  have h1 := sm_nonneg (h.nonneg B hg)
  rw [sm_sub, Lp_sum B] at h1
  omega
section States
variable {l : Launch} {G : GT} {d : Nat} {m : MM} {b : Nat} {n : Nat} {D : Int → Int} {W : Int → Int → Int} {br : Int → Int}
theorem c_addFallen {h len : Nat} (hl : q_lay h = .inr (0, len)) (hlt : len < 2147483648) (h5 : 5 ≤ len) {x v : Int} (hx : 0 ≤ x ∧ x < 5) (hv : 0 ≤ v ∧ v ≤ 1000) (hm : 0 ≤ m h x) : CV l G Y_S_addFallen (d + 1) [.inr (.inr h), .inl x, .inl v] m (fun m' => m' = up m h x (fal (m h x) v)) := by
  refine e_S_addFallen x v h len hl hlt (by omega) (fun _ _ _ => ⟨fun c => absurd hx.1 (by omega), fun _ => ⟨fun c => absurd hx.2 (by omega), fun _ => ⟨by omega, fun c => ?_, fun c => ⟨by omega, by omega, by omega, ?_⟩⟩⟩⟩)
  · funext a i
    unfold fal
    rw [if_pos c]
    by_cases e : a = h
    · subst e
      rw [up_row]
      by_cases e2 : i = x
      · rw [if_pos e2, e2]
      · rw [if_neg e2]
    · rw [up_ne e]
  · rintro m2 rfl
    unfold fal
    rw [if_neg c]
theorem c_layBack (hn : n ≤ 5) (X : CX n D W br b m) {h len : Nat} (hl : q_lay h = .inr (0, len)) (hlt : len < 2147483648) (h6 : 6 ≤ len) (hh : h = 25 ∨ h = 26) (hs : inR (m h 5 + m 32 3)) :
    CV l G Y_S_layBack d [.inr (.inr 0), .inr (.inr h)] m (fun m' => Fr [h] m m' ∧ ∀ i, m' h i = if In n i then m 33 i else if i = 5 then m h 5 + m 32 3 else m h i) := by
  refine e_S_layBack h len hl hlt (fun _ => ?_)
  have loop : ∀ (j k : Nat) (m1 : MM), k + j = n → Fr [h] m m1 → (∀ i, m1 h i = if In k i then m 33 i else m h i) →
      Wq l G false Y_S_layBack d (QV fun m' => Fr [h] m m' ∧ ∀ i, m' h i = if In n i then m 33 i else if i = 5 then m h 5 + m 32 3 else m h i) 2 [(0, .inr (.inr 0)), (1, .inr (.inr h)), (2, .inl k)] [] m1 := by
    intro j
    induction j with
    | zero =>
      intro k m1 hk f g
      have X1 : CX n D W br b m1 := X.fr f (by rcases hh with rfl | rfl <;> decide) (by rcases hh with rfl | rfl <;> decide)
      have e5 : m1 h 5 = m h 5 := by rw [g 5, if_neg (by omega)]
      have e3 : m1 32 3 = m 32 3 := by rw [f 32 (by rcases hh with rfl | rfl <;> decide)]
      refine s_S_layBack_2 k h len hl hlt (fun _ _ => ⟨b, X1.2.1, X1.1, fun _ => ⟨by omega, by rw [e5, e3]; exact hs, by omega, ?_⟩, fun c => absurd (show (k : Int) ≥ m1 b 0 by rw [X1.2.2.1]; omega) c⟩)
      rintro m2 rfl
      refine ⟨Fr_up f (by simp), fun i => ?_⟩
      rw [up_row, e5, e3, g i, show k = n by omega]
      by_cases c : In n i
      · rw [if_pos c, if_pos c, if_neg (by omega)]
      · rw [if_neg c, if_neg c]
    | succ j ih =>
      intro k m1 hk f g
      have X1 : CX n D W br b m1 := X.fr f (by rcases hh with rfl | rfl <;> decide) (by rcases hh with rfl | rfl <;> decide)
      refine s_S_layBack_2 k h len hl hlt (fun _ _ => ⟨b, X1.2.1, X1.1, fun c => absurd c (by rw [X1.2.2.1]; omega), fun _ => ⟨by omega, by omega, ?_⟩⟩)
      rintro m2 rfl
      refine ⟨by omega, ih (k + 1) _ (by omega) (Fr_up f (by simp)) (fun i => ?_)⟩
      rw [up_row, g i, f 33 (by rcases hh with rfl | rfl <;> decide)]
      by_cases c : i = (k : Int)
      · rw [if_pos c, if_pos (by omega), c]
      · rw [if_neg c]
        by_cases c2 : In k i
        · rw [if_pos c2, if_pos (by omega)]
        · rw [if_neg c2, if_neg (by omega)]
  exact loop n 0 m (by omega) Fr.rf (fun i => by rw [if_neg (by omega)])
theorem c_calmDown (B : BW n D W br) (X : CX n D W br b m) {h len : Nat} (hl : q_lay h = .inr (0, len)) (hlt : len < 2147483648) (h6 : 6 ≤ len) (hh : h = 25 ∨ h = 26) (hg : ∀ i, In n i → 0 ≤ m h i) {N : Int} (hN : sm n (m h) ≤ N) (hN3 : N ≤ 30000) (hd : 0 ≤ m h 5 ∧ m h 5 ≤ 1000000000) :
    CI l G Y_S_calmDown (d + 3) [.inr (.inr 0), .inr (.inr h)] m (fun z m' => Fr [h, 32, 33, 34] m m' ∧ ∃ u, Stb n W br (m h) u ∧ m' h = stS n D W br (m h) u ∧ z = sm n u) := by
  have hn5 := B.1
  refine e_S_calmDown h len hl hlt (fun _ => ⟨d, _, by omega, c_take (a := 32) (Or.inl rfl) (h := h) (len := len) hl (by omega) hlt (by rcases hh with rfl | rfl <;> decide) (by rcases hh with rfl | rfl <;> decide), fun m1 h1 _ => ?_⟩)
  obtain ⟨f1, t1, t2, t3⟩ := h1
  have X1 := X.fr f1 (by decide) (by decide)
  refine ⟨b, X1.2.1, X1.1, d + 2, _, by omega, c_calm0 (a := 32) (Or.inl rfl) B X1.2.2 X1.1 (g := m h) (fun i i0 i5 => (t1 i i0 i5).1) hg hN hN3 (fun i i0 i5 => (t1 i i0 i5).2) t2 t3, fun m2 h2 _ => ?_⟩
  have f2 := f1.tr h2.1
  obtain ⟨u, hu, r1, r2, r3, r4, r5, r6⟩ := h2.2
  have X2 := X.fr f2 (by decide) (by decide)
  have eh : m2 h = m h := f2 h (by rcases hh with rfl | rfl <;> decide)
  have hdr := hu.drain B hg
  refine ⟨d, _, by omega, c_layBack hn5 X2 hl hlt h6 hh (by rw [eh, r6]; constructor <;> omega), fun m3 h3 _ => ?_⟩
  obtain ⟨f3, g3⟩ := h3
  refine ⟨(f2.mono (fun b hb => List.mem_cons_of_mem _ hb)).tr (f3.mono (fun b hb => by simp only [List.mem_cons, List.not_mem_nil, or_false] at hb; simp [hb])), u, hu, ?_, ?_⟩
  · funext i
    rw [g3 i]
    unfold stS
    by_cases c : In n i
    · rw [if_pos c, if_pos c]; exact r1 i c
    · rw [if_neg c, if_neg c, eh, r6]
  · rw [f3 32 (by rcases hh with rfl | rfl <;> decide)]; exact r5
theorem c_bring (hn : n ≤ 5) (X : BM n D W br m) (hs : inR (m 90 5 + m 70 41)) :
    CV l G Y_M_bring (d + 1) [.inr (.inr 70)] m (fun m' => Fr [90] m m' ∧ ∀ i, m' 90 i = if In n i then m 93 i else if i = 5 then m 90 5 + m 70 41 else m 90 i) := by
  refine e_M_bring (fun _ => ?_)
  have loop : ∀ (j k : Nat) (m1 : MM), k + j = n → Fr [90] m m1 → (∀ i, m1 90 i = if In k i then m 93 i else m 90 i) →
      Wq l G false Y_M_bring (d + 1) (QV fun m' => Fr [90] m m' ∧ ∀ i, m' 90 i = if In n i then m 93 i else if i = 5 then m 90 5 + m 70 41 else m 90 i) 2 [(0, .inr (.inr 70)), (1, .inl k)] [] m1 := by
    intro j
    induction j with
    | zero =>
      intro k m1 hk f g
      have X1 : BM n D W br m1 := X.fro (S := [90]) (I := []) ⟨fun b hb _ => f b hb, fun i _ => by rw [f 70 (by decide)]⟩ (by decide) (by decide) (by decide) (by decide) (by decide)
      have e5 : m1 90 5 = m 90 5 := by rw [g 5, if_neg (by omega)]
      have e3 : m1 70 41 = m 70 41 := by rw [f 70 (by decide)]
      refine s_M_bring_2 k (fun _ _ => ⟨d, _, Nat.lt_succ_self d, c_lots X1, fun z m2 hz _ _ => ?_⟩)
      obtain ⟨rfl, rfl⟩ := hz
      refine ⟨fun _ => ⟨by rw [e5, e3]; exact hs, ?_⟩, fun c => absurd (show (k : Int) ≥ n by omega) c⟩
      rintro m2 rfl
      refine ⟨Fr_up f (by simp), fun i => ?_⟩
      rw [up_row, e5, e3, g i, show k = n by omega]
      by_cases c : In n i
      · rw [if_pos c, if_pos c, if_neg (by omega)]
      · rw [if_neg c, if_neg c]
    | succ j ih =>
      intro k m1 hk f g
      have X1 : BM n D W br m1 := X.fro (S := [90]) (I := []) ⟨fun b hb _ => f b hb, fun i _ => by rw [f 70 (by decide)]⟩ (by decide) (by decide) (by decide) (by decide) (by decide)
      refine s_M_bring_2 k (fun _ _ => ⟨d, _, Nat.lt_succ_self d, c_lots X1, fun z m2 hz _ _ => ?_⟩)
      obtain ⟨rfl, rfl⟩ := hz
      rw [Int.zero_add]
      refine ⟨fun c => absurd c (by omega), fun _ => ⟨by omega, by omega, by omega, ?_⟩⟩
      rintro m2 rfl
      refine ⟨by omega, ih (k + 1) _ (by omega) (Fr_up f (by simp)) (fun i => ?_)⟩
      rw [up_row, g i, f 93 (by decide)]
      by_cases c : i = (k : Int)
      · rw [if_pos c, if_pos (by omega), c]
      · rw [if_neg c]
        by_cases c2 : In k i
        · rw [if_pos c2, if_pos (by omega)]
        · rw [if_neg c2, if_neg (by omega)]
  exact loop n 0 m (by omega) Fr.rf (fun i => by rw [if_neg (by omega)])
end States
