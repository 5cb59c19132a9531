/-! a day of both -/
def dyF (n : Nat) (br : Int → Int) (fs : List Int) (s : Int → Int) : Int → Int := fun i => if In n i then fal (s i) (max 0 (min 20 (fV fs (s i) (br i) i (s 6)))) else s i
def dyS (s : Int → Int) : Int := (s 7 * 137 + 71) % 1000
def dyL (n : Nat) (lk : Int) (s h : Int → Int) : Int → Int := if 0 < n ∧ dyS s % 100 < lk then (fun i => if i = dyS s % n then fal (h i) 1 else h i) else h
/-- the heap before it settles -/
def dyH (n : Nat) (br : Int → Int) (fs : List Int) (lk y : Int) (s : Int → Int) : Int → Int := if y = 1 then dyL n lk s (dyF n br fs s) else dyF n br fs s
def DyR (n : Nat) (D : Int → Int) (W : Int → Int → Int) (br : Int → Int) (fs : List Int) (lk y : Int) (s s' : Int → Int) (z : Int) : Prop :=
  ∃ u, Stb n W br (dyH n br fs lk y s) u ∧ z = sm n u ∧ ∀ i, 0 ≤ i → i < 7 → s' i = if In n i then dyH n br fs lk y s i - Lp n W br u i else if i = 5 then s 5 + sm n (fun j => D j * u j) else if i = 6 then s 6 + 1 else s i
section Day
variable {l : Launch} {G : GT} {d : Nat} {m : MM} {b : Nat} {n : Nat} {D : Int → Int} {W : Int → Int → Int} {br : Int → Int} {fs : List Int} {lk y : Int}
theorem fal_rng {g v : Int} (hg : 0 ≤ g) (hv : 0 ≤ v) : g ≤ fal g v ∧ fal g v ≤ g + v := by
  unfold fal
  split <;> omega
theorem dyF_rng {s : Int → Int} {i : Int} (hi : In n i) (hs : 0 ≤ s i) : s i ≤ dyF n br fs s i ∧ dyF n br fs s i ≤ s i + 20 := by
  unfold dyF
  rw [if_pos hi]
  have := fal_rng (v := max 0 (min 20 (fV fs (s i) (br i) i (s 6)))) hs (by omega)
  omega
theorem dyS_rng {s : Int → Int} : 0 ≤ dyS s ∧ dyS s < 1000 := by unfold dyS; omega
theorem dyH_rng {s : Int → Int} {i : Int} (hi : In n i) (hs : 0 ≤ s i) : s i ≤ dyH n br fs lk y s i ∧ dyH n br fs lk y s i ≤ s i + 20 + (if i = dyS s % n then 1 else 0) := by
  have h1 := dyF_rng (br := br) (fs := fs) hi hs
  unfold dyH
  by_cases c : y = 1
  · rw [if_pos c]
    unfold dyL
    by_cases c2 : 0 < n ∧ dyS s % 100 < lk
    · rw [if_pos c2]
      show s i ≤ (if i = dyS s % n then fal (dyF n br fs s i) 1 else dyF n br fs s i) ∧ (if i = dyS s % n then fal (dyF n br fs s i) 1 else dyF n br fs s i) ≤ _
      by_cases c3 : i = dyS s % n
      · rw [if_pos c3, if_pos c3]
        have := fal_rng (g := dyF n br fs s i) (v := 1) (by omega) (by decide)
        omega
      · rw [if_neg c3, if_neg c3]; omega
    · rw [if_neg c2]
      split <;> omega
  · rw [if_neg c]
    split <;> omega
theorem dyH_sum (hn : n ≤ 5) {s : Int → Int} (hs : ∀ i, In n i → 0 ≤ s i) {N : Int} (hN : sm n s ≤ N) : sm n (dyH n br fs lk y s) ≤ N + 101 := by
  have h1 := sm_le (n := n) (f := dyH n br fs lk y s) (g := fun i => s i + 20 + (if i = dyS s % n then 1 else 0)) (fun i hi => (dyH_rng hi (hs i hi)).2)
  rw [sm_add n (fun i => s i + 20), sm_add n s, sm_one] at h1
  have h2 : sm n (fun _ => (20 : Int)) ≤ 100 := by
    have hn2 : n = 0 ∨ n = 1 ∨ n = 2 ∨ n = 3 ∨ n = 4 ∨ n = 5 := by omega
    rcases hn2 with rfl | rfl | rfl | rfl | rfl | rfl <;> decide
  have h3 : (if 0 ≤ dyS s % n ∧ dyS s % n < (n : Int) then (1 : Int) else 0) ≤ 1 := by split <;> decide
  omega
theorem dyF_congr {s t : Int → Int} (e : ∀ i, In n i → s i = t i) (e6 : s 6 = t 6) {i : Int} (hi : In n i) : dyF n br fs s i = dyF n br fs t i := by
  unfold dyF
  rw [if_pos hi, if_pos hi, e i hi, e6]
theorem dyH_congr {s t : Int → Int} (e : ∀ i, In n i → s i = t i) (e6 : s 6 = t 6) (e7 : y = 1 → s 7 = t 7) : ∀ i, In n i → dyH n br fs lk y s i = dyH n br fs lk y t i := by
  intro i hi
  unfold dyH
  by_cases c : y = 1
  · rw [if_pos c, if_pos c]
    have hS : dyS s = dyS t := by unfold dyS; rw [e7 c]
    unfold dyL
    rw [hS]
    by_cases c2 : 0 < n ∧ dyS t % 100 < lk
    · rw [if_pos c2, if_pos c2]
      show (if i = dyS t % n then fal (dyF n br fs s i) 1 else dyF n br fs s i) = (if i = dyS t % n then fal (dyF n br fs t i) 1 else dyF n br fs t i)
      rw [dyF_congr e e6 hi]
    · rw [if_neg c2, if_neg c2]
      exact dyF_congr e e6 hi
  · rw [if_neg c, if_neg c]
    exact dyF_congr e e6 hi
theorem DyR.uniq (hn : n ≤ 5) {s t s' t' : Int → Int} {z z' : Int} (e : ∀ i, 0 ≤ i → i < 7 → s i = t i) (e7 : y = 1 → s 7 = t 7) (h1 : DyR n D W br fs lk y s s' z) (h2 : DyR n D W br fs lk y t t' z') : z = z' ∧ ∀ i, 0 ≤ i → i < 7 → s' i = t' i := by
  obtain ⟨u, hu, hz, hs⟩ := h1
  obtain ⟨v, hv, hz', ht⟩ := h2
  have eH := dyH_congr (br := br) (fs := fs) (lk := lk) (y := y) (n := n) (s := s) (t := t) (fun i hi => e i hi.1 (by omega)) (e 6 (by decide) (by decide)) e7
  have huv := hu.uniq (hv.congr (fun i hi => (eH i hi).symm))
  refine ⟨by rw [hz, hz', sm_congr huv], fun i i0 i7 => ?_⟩
  rw [hs i i0 i7, ht i i0 i7]
  by_cases c : In n i
  · rw [if_pos c, if_pos c, eH i c, Lp_congr huv i c]
  · rw [if_neg c, if_neg c, e 5 (by decide) (by decide), e 6 (by decide) (by decide), e i i0 i7, sm_congr (fun j hj => by rw [huv j hj] : ∀ j, In n j → D j * u j = D j * v j)]
theorem CF.fr {a : Nat} {m' : MM} (F : CF fs a m) {S : List Nat} (h : Fr S m m') (h0 : a ∉ S) (h1 : a + 1 ∉ S) : CF fs a m' := by
  obtain ⟨F1, F2, F3⟩ := F
  exact ⟨by rw [h a h0]; exact F1, F2, fun j s hs => by rw [h _ h1]; exact F3 j s hs⟩
theorem c_passDay (B : BW n D W br) (X : CX n D W br b m) (F : CF fs (b + 6) m) (hf : fOk fs) (hlk : m b 2 = lk) {h : Nat} (hh : h = 25 ∨ h = 26) (hg : ∀ i, In n i → 0 ≤ m h i) {N : Int} (hN : sm n (m h) ≤ N) (hN3 : N + 101 ≤ 30000) (hd : 0 ≤ m h 5 ∧ m h 5 ≤ 1000000000) (h6 : 0 ≤ m h 6 ∧ m h 6 ≤ 100000) (h7 : 0 ≤ m h 7 ∧ m h 7 ≤ 1000) (hy : y = 0 ∨ y = 1) :
    CI l G Y_S_passDay (d + 4) [.inr (.inr 0), .inr (.inr h), .inl y] m (fun z m' => Fr [h, 32, 33, 34, b + 8] m m' ∧ DyR n D W br fs lk y (m h) (m' h) z ∧ m' h 7 = dyS (m h)) := by
  have hn5 := B.1
  have hl : q_lay h = .inr (0, 8) := by rcases hh with rfl | rfl <;> rfl
  have hb8 : b + 8 ≠ h := by rcases hh with rfl | rfl <;> rcases X.1 with rfl | rfl <;> decide
  have hbh : ∀ k, k ≤ 8 → b + k ≠ h := fun k hk => by rcases hh with rfl | rfl <;> rcases X.1 with rfl | rfl <;> omega
  have hS0 : ∀ a, a = 0 ∨ (b ≤ a ∧ a < b + 8) → a ∉ [h, b + 8] := fun a ha => by
    simp only [List.mem_cons, List.not_mem_nil, or_false]
    rcases hh with rfl | rfl <;> rcases X.1 with rfl | rfl <;> omega
  have XF : ∀ m1, Fr [h, b + 8] m m1 → CX n D W br b m1 := fun m1 f => ⟨X.1, by rw [f 0 (hS0 0 (Or.inl rfl))]; exact X.2.1, X.2.2.fr f (hS0 b (Or.inr (by omega))) (hS0 (b + 2) (Or.inr (by omega))) (hS0 (b + 3) (Or.inr (by omega))) (hS0 (b + 4) (Or.inr (by omega)))⟩
  refine e_S_passDay y h 8 hl (by decide) (fun _ _ => ?_)
  generalize hQ : (fun (z : Int) (m' : MM) => Fr [h, 32, 33, 34, b + 8] m m' ∧ DyR n D W br fs lk y (m h) (m' h) z ∧ m' h 7 = dyS (m h)) = Q
  have tail : ∀ m1 : MM, Fr [h, b + 8] m m1 → (∀ j, m1 h j = if In n j then dyH n br fs lk y (m h) j else if j = 7 then dyS (m h) else m h j) →
      ((6 < ((8 : Nat) : Int)) ∧ ((inR ((m1 h 6) + 1)) ∧ ((6 < ((8 : Nat) : Int)) ∧ (∀ m30, m30 = up m1 h 6 ((m1 h 6) + 1) → (∃ (e35 : Nat) (P36 : Int → MM → Prop), e35 < d + 4 ∧ CI l G Y_S_calmDown e35 [.inr (.inr 0), .inr (.inr h)] m30 P36 ∧ (∀ z41 m42, P36 z41 m42 → inR z41 → wfM m42 → (Q z41 m42))))))) := by
    intro m1 f hv
    have e6 : m1 h 6 = m h 6 := by rw [hv 6, if_neg (by omega), if_neg (by decide)]
    refine ⟨by decide, by omega, by decide, ?_⟩
    rintro m2 rfl
    have f2 : Fr [h, b + 8] m (up m1 h 6 (m1 h 6 + 1)) := Fr_up f (by simp)
    have hv2 : ∀ j, up m1 h 6 (m1 h 6 + 1) h j = if In n j then dyH n br fs lk y (m h) j else if j = 7 then dyS (m h) else if j = 6 then m h 6 + 1 else m h j := fun j => by
      rw [up_row]
      by_cases c : j = 6
      · rw [if_pos c, if_neg (by omega), if_neg (by omega), if_pos c, e6]
      · rw [if_neg c, hv j, if_neg c]
    generalize up m1 h 6 (m1 h 6 + 1) = m2 at f2 hv2
    have X2 := XF m2 f2
    have hin : ∀ i, In n i → m2 h i = dyH n br fs lk y (m h) i := fun i hi => by rw [hv2 i, if_pos hi]
    have e5 : m2 h 5 = m h 5 := by rw [hv2 5, if_neg (by omega), if_neg (by decide), if_neg (by decide)]
    refine ⟨d + 3, _, by omega, c_calmDown B X2 hl (by decide) (by decide) hh (fun i hi => ?_) (N := N + 101) ?_ hN3 (by rw [e5]; exact hd), fun z m3 h3 _ _ => ?_⟩
    · rw [hin i hi]
      have := (dyH_rng (br := br) (fs := fs) (lk := lk) (y := y) hi (hg i hi)).1
      have := hg i hi
      omega
    · rw [sm_congr hin]
      exact dyH_sum hn5 hg hN
    · obtain ⟨f3, u, hu, hs, hz⟩ := h3
      subst hQ
      refine ⟨(f2.mono (by simp)).tr (f3.mono (by simp)), ⟨u, hu.congr hin, hz, fun i i0 i7 => ?_⟩, ?_⟩
      · rw [hs]
        show (if In n i then m2 h i - Lp n W br u i else if i = 5 then m2 h 5 + sm n (fun j => D j * u j) else m2 h i) = _
        by_cases c : In n i
        · rw [if_pos c, if_pos c, hin i c]
        · rw [if_neg c, if_neg c, e5]
          by_cases c5 : i = 5
          · rw [if_pos c5, if_pos c5]
          · rw [if_neg c5, if_neg c5, hv2 i, if_neg c, if_neg (by omega)]
      · rw [hs]
        show (if In n 7 then m2 h 7 - Lp n W br u 7 else if (7 : Int) = 5 then m2 h 5 + sm n (fun j => D j * u j) else m2 h 7) = _
        rw [if_neg (by omega), if_neg (by decide), hv2 7, if_neg (by omega), if_pos rfl]
  have loop : ∀ (j : Nat) (i : Int) (m1 : MM), i + j = n → 0 ≤ i → Fr [h, b + 8] m m1 → (∀ t, m1 h t = if In n t ∧ t < i then dyF n br fs (m h) t else m h t) →
      Wq l G false Y_S_passDay (d + 4) (QI Q) 2 [(0, .inr (.inr 0)), (1, .inr (.inr h)), (2, .inl y), (3, .inl i)] [] m1 := by
    intro j
    induction j with
    | zero =>
      intro i m1 hij h0 f hv
      have X1 := XF m1 f
      have e7 : m1 h 7 = m h 7 := by rw [hv 7, if_neg (by omega)]
      have elk : m1 b 2 = lk := by rw [f b (hS0 b (Or.inr (by omega)))]; exact hlk
      refine s_S_passDay_2 y i h 8 hl (by decide) (by omega) (fun _ _ _ => ⟨b, X1.2.1, X1.1, fun _ => ⟨by decide, by omega, by omega, by decide, ?_⟩, fun c => absurd (show i ≥ m1 b 0 by rw [X1.2.2.1]; omega) c⟩)
      have eS : Int.tmod (m1 h 7 * 137 + 71) 1000 = dyS (m h) := by
        rw [Int.tmod_eq_emod_of_nonneg (by omega), e7]
        rfl
      rw [eS]
      rintro m2 rfl
      have f2 : Fr [h, b + 8] m (up m1 h 7 (dyS (m h))) := Fr_up f (by simp)
      have hv2 : ∀ j, up m1 h 7 (dyS (m h)) h j = if In n j then dyF n br fs (m h) j else if j = 7 then dyS (m h) else m h j := fun j => by
        rw [up_row, hv j]
        by_cases c : j = 7
        · rw [if_pos c, if_neg (by omega), if_pos c]
        · rw [if_neg c, if_neg c]
          by_cases c2 : In n j
          · rw [if_pos c2, if_pos ⟨c2, by omega⟩]
          · rw [if_neg c2, if_neg (fun q => c2 q.1)]
      have elk2 : up m1 h 7 (dyS (m h)) b 2 = lk := by rw [up_ne (show b ≠ h from hbh 0 (by omega))]; exact elk
      generalize up m1 h 7 (dyS (m h)) = m2 at f2 hv2 elk2
      have X2 := XF m2 f2
      have e72 : m2 h 7 = dyS (m h) := by rw [hv2 7, if_neg (by omega), if_pos rfl]
      have hsr := dyS_rng (s := m h)
      have mod1 : Int.tmod (dyS (m h)) 100 = dyS (m h) % 100 := Int.tmod_eq_emod_of_nonneg hsr.1
      have mod2 : Int.tmod (dyS (m h)) (n : Int) = dyS (m h) % n := Int.tmod_eq_emod_of_nonneg hsr.1
      rw [e72, mod1]
      have noluck : y = 0 ∨ ¬ (0 < n ∧ dyS (m h) % 100 < lk) → ∀ j, m2 h j = if In n j then dyH n br fs lk y (m h) j else if j = 7 then dyS (m h) else m h j := by
        intro hc j
        have e : dyH n br fs lk y (m h) = dyF n br fs (m h) := by
          unfold dyH
          rcases hc with hc | hc
          · rw [if_neg (by omega)]
          · by_cases q : y = 1
            · rw [if_pos q]; unfold dyL; rw [if_neg hc]
            · rw [if_neg q]
        rw [e]
        exact hv2 j
      refine ⟨fun c => tail m2 f2 (noluck (Or.inl c)), fun c => ⟨b, X2.2.1, X2.1, fun c2 => tail m2 f2 (noluck (Or.inr (fun q => by rw [X2.2.2.1] at c2; omega))), fun c2 => ⟨by decide, b, X2.2.1, X2.1, fun c3 => tail m2 f2 (noluck (Or.inr (fun q => by rw [elk2] at c3; omega))), fun c3 => ⟨by decide, b, X2.2.1, X2.1, by omega, ?_⟩⟩⟩⟩
      rw [X2.2.2.1] at c2 ⊢
      rw [elk2] at c3
      rw [mod2]
      have hpn : In n (dyS (m h) % n) := ⟨Int.emod_nonneg _ (by omega), Int.emod_lt_of_pos _ (by omega)⟩
      have hcur : m2 h (dyS (m h) % n) = dyF n br fs (m h) (dyS (m h) % n) := by rw [hv2, if_pos hpn]
      have hc0 := (dyF_rng (br := br) (fs := fs) hpn (hg _ hpn)).1
      have hc1 := hg _ hpn
      refine ⟨d + 1, _, by omega, c_addFallen hl (by decide) (by decide) (x := dyS (m h) % n) (v := 1) (by omega) (by decide) (by omega), fun m3 h3 _ => ?_⟩
      have f3 : Fr [h, b + 8] m m3 := by rw [h3]; exact Fr_up f2 (by simp)
      refine tail m3 f3 (fun j => ?_)
      rw [h3, up_row, hv2 j, hcur]
      have eH : ∀ t, dyH n br fs lk y (m h) t = if t = dyS (m h) % n then fal (dyF n br fs (m h) t) 1 else dyF n br fs (m h) t := fun t => by
        unfold dyH
        rw [if_pos (by omega)]
        unfold dyL
        rw [if_pos ⟨by omega, by omega⟩]
      by_cases q : j = dyS (m h) % n
      · rw [if_pos q, if_pos (by rw [q]; exact hpn), eH j, if_pos q, q]
      · rw [if_neg q, eH j, if_neg q]
    | succ j ih =>
      intro i m1 hij h0 f hv
      have X1 := XF m1 f
      have hi : In n i := by omega
      have F1 : CF fs (b + 6) m1 := F.fr f (hS0 _ (Or.inr (by omega))) (hS0 _ (Or.inr (by omega)))
      have ei : m1 h i = m h i := by rw [hv i, if_neg (by omega)]
      have e6 : m1 h 6 = m h 6 := by rw [hv 6, if_neg (by omega)]
      have ebr : m1 (b + 4) i = br i := X1.2.2.2.2.1 i hi
      refine s_S_passDay_2 y i h 8 hl (by decide) (by omega) (fun _ _ _ => ⟨b, X1.2.1, X1.1, fun c => absurd c (by rw [X1.2.2.1]; omega), fun _ => ⟨b, X1.2.1, X1.1, by omega, b, X1.2.1, X1.1, by omega, by decide, d + 1, _, by omega, c_worth (isB_f X1.1) F1 hf, fun z m2 hz _ _ => ?_⟩⟩)
      obtain ⟨f2, hz⟩ := hz
      rw [ei, ebr, e6] at hz
      have eh2 : m2 h = m1 h := f2 h (by simp only [List.mem_cons, List.not_mem_nil, or_false]; exact fun q => hb8 q.symm)
      have hgi := hg i hi
      refine ⟨d + 1, _, by omega, c_addFallen hl (by decide) (by decide) (x := i) (v := max 0 (min 20 z)) (by omega) (by omega) (by rw [eh2, ei]; exact hgi), fun m3 h3 _ => ⟨by omega, ?_⟩⟩
      refine ih (i + 1) m3 (by omega) (by omega) (by rw [h3]; exact Fr_up (f.tr (f2.mono (by simp))) (by simp)) (fun t => ?_)
      rw [h3, up_row, eh2, ei, hv t]
      by_cases c : t = i
      · rw [if_pos c, if_pos (by omega), c]
        unfold dyF
        rw [if_pos hi, hz]
      · rw [if_neg c]
        by_cases c2 : In n t ∧ t < i
        · rw [if_pos c2, if_pos (by omega)]
        · rw [if_neg c2, if_neg (by omega)]
  exact loop n 0 m (by omega) (by omega) Fr.rf (fun t => by rw [if_neg (by omega)])
end Day
