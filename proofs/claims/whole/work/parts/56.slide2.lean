/-- how many topple in the slide of each plate below k -/
def Sls (n : Nat) (W : Int → Int → Int) (br g : Int → Int) (k : Nat) (t : Int → Int) : Prop := ∀ p, In k p → ∃ w, Sld n W br g p w ∧ t p = sm n w
theorem Sls.uniq {n : Nat} {W : Int → Int → Int} {br g t t' : Int → Int} {k : Nat} (h1 : Sls n W br g k t) (h2 : Sls n W br g k t') : ∀ p, In k p → t p = t' p := fun p hp => by
  obtain ⟨w, a1, a2⟩ := h1 p hp
  obtain ⟨v, b1, b2⟩ := h2 p hp
  rw [a2, b2]
  exact sm_congr (a1.uniq b1)
theorem Sls.congr {n : Nat} {W : Int → Int → Int} {br g g' t : Int → Int} {k : Nat} (h : Sls n W br g k t) (hg : ∀ i, In n i → g i = g' i) : Sls n W br g' k t := fun p hp => by
  obtain ⟨w, a1, a2⟩ := h p hp
  exact ⟨w, a1.congr hg, a2⟩
theorem Sls.more {n : Nat} {W : Int → Int → Int} {br g t w : Int → Int} {k : Nat} (h : Sls n W br g k t) (hw : Sld n W br g k w) : Sls n W br g (k + 1) (fun p => if p = k then sm n w else t p) := fun p hp => by
  by_cases e : p = k
  · subst e
    exact ⟨w, hw, by show (if _ then _ else _) = _; rw [if_pos rfl]⟩
  · obtain ⟨v, a1, a2⟩ := h p (by omega)
    exact ⟨v, a1, by show (if _ then _ else _) = _; rw [if_neg e]; exact a2⟩
/-- the first of the most, and how many -/
def stp : Nat → (Int → Int) → Int × Int
  | 0, _ => (-1, -1)
  | k + 1, t => if (stp k t).2 < t k then ((k : Int), t k) else stp k t
theorem stp_congr : ∀ {k : Nat} {t t' : Int → Int}, (∀ p, In k p → t p = t' p) → stp k t = stp k t'
  | 0, _, _, _ => rfl
  | k + 1, t, t', h => by
    show (if (stp k t).2 < t k then ((k : Int), t k) else stp k t) = if (stp k t').2 < t' k then ((k : Int), t' k) else stp k t'
    rw [stp_congr (fun p hp => h p ⟨hp.1, by omega⟩), h k ⟨by omega, by omega⟩]
section Slide2
variable {l : Launch} {G : GT} {d : Nat} {m : MM} {b : Nat} {n : Nat} {D : Int → Int} {W : Int → Int → Int} {br : Int → Int}
theorem RestX.rest (B : BW n D W br) {g : Int → Int} (hg : ∀ i, In n i → 0 ≤ g i) {a : Nat} {m m' : MM} (h : RestX n D W br g a m m') : ∃ u, Stb n W br g u ∧ (∀ i, In n i → m' (a + 1) i = g i - Lp n W br u i) ∧ ∀ i, In n i → 0 ≤ m' (a + 1) i ∧ m' (a + 1) i < br i := by
  obtain ⟨-, u, hu, r, -⟩ := h
  exact ⟨u, hu, r, fun i hi => by
    rw [r i hi]
    exact ⟨hu.nonneg B hg i hi, hu.2.1 i hi⟩⟩
theorem RestX.sld {g r u : Int → Int} {p : Int} {a : Nat} {m m' : MM} (hu : Stb n W br g u) (hr : ∀ i, In n i → r i = g i - Lp n W br u i) (h : RestX n D W br (fun i => r i + (if i = p then 1 else 0)) a m m') : ∃ w, Sld n W br g p w ∧ (∀ i, In n i → m' (a + 2) i = w i) ∧ m' a 2 = sm n w ∧ m' a 3 = sm n (fun i => D i * w i) := by
  obtain ⟨-, w, hw, -, -, o, -, t, dr⟩ := h
  exact ⟨w, ⟨u, hu, hw.congr (fun i hi => by
    show r i + _ = g i - Lp n W br u i + _
    rw [hr i hi])⟩, o, t, dr⟩
theorem c_slideX (B : BW n D W br) (X : CX n D W br b m) (hg : ∀ i, In n i → 0 ≤ m 25 i) {N : Int} (hN : sm n (m 25) ≤ N) (hN3 : N ≤ 30000) {x y : Int} : CI l G Y_S_slide (d + 4) [.inr (.inr 0), .inl x, .inl y] m (fun z m' => Fr [32, 33, 34, 35, 36, 37] m m' ∧ (In n x ∧ 0 ≤ y ∧ y ≤ 2 → ∃ w, Sld n W br (m 25) x w ∧ z = (if y = 0 then sm n w else if y = 1 then bs n (fun i => decide (0 < w i)) else sm n (fun i => D i * w i))) ∧ (¬ (In n x ∧ 0 ≤ y ∧ y ≤ 2) → z = -1)) := by
  have hn5 := B.1
  refine e_S_slide x y (fun _ _ _ => ⟨b, X.2.1, X.1, d, _, by omega, c_has X.1, fun z m1 hz _ _ => ?_⟩)
  obtain ⟨rfl, rfl⟩ := hz
  rw [has_if X.2.2]
  by_cases h : In n x
  · rw [if_pos h]
    refine ⟨fun c => absurd c (by decide), fun _ => ⟨fun c => ⟨Fr.rf, fun q => absurd q.2.1 (by omega), fun _ => rfl⟩, fun c => ⟨fun c2 => ⟨d + 3, _, by omega, c_settleAhead B X hg hN hN3, fun m1 h1 _ => ?_⟩, fun c2 => ⟨Fr.rf, fun q => absurd q.2.2 c2, fun _ => rfl⟩⟩⟩⟩
    obtain ⟨u, hu, r1, r2⟩ := h1.rest B hg
    have X1 := X.fr h1.1 (by decide) (by decide)
    refine ⟨d + 3, _, by omega, c_slideFrom B X1 (r := m1 33) (fun i _ _ => rfl) r2 h, fun m2 h2 _ => ?_⟩
    have f2 : Fr [32, 33, 34, 35, 36, 37] m m2 := (h1.1.mono (by simp)).tr (h2.1.mono (by simp))
    have X2 := X.fr f2 (by decide) (by decide)
    obtain ⟨w, hw, o, t, dr⟩ := h2.sld hu r1
    refine ⟨fun c3 => ⟨fun c4 => ⟨f2, fun _ => ⟨w, hw, ?_⟩, fun q => absurd ⟨h, by omega, c2⟩ q⟩, fun c4 => ⟨b, X2.2.1, X2.1, d, _, by omega, by rw [X2.2.2.1]; exact c_toppled (a := 35) (Or.inr (Or.inl rfl)) B.1, fun z m3 hz _ _ => ?_⟩⟩, fun c3 => ⟨f2, fun _ => ⟨w, hw, ?_⟩, fun q => absurd ⟨h, by omega, c2⟩ q⟩⟩
    · rw [if_neg c3, if_neg c4]; exact dr
    · obtain ⟨rfl, rfl⟩ := hz
      refine ⟨f2, fun _ => ⟨w, hw, ?_⟩, fun q => absurd ⟨h, by omega, c2⟩ q⟩
      rw [if_neg c3, if_pos (Classical.not_not.mp c4)]
      exact bs_congr (fun i hi => by rw [show m2 (35 + 2) i = w i from o i hi])
    · rw [if_pos (Classical.not_not.mp c3)]; exact t
  · rw [if_neg h]
    exact ⟨fun _ => ⟨Fr.rf, fun q => absurd q.1 h, fun _ => rfl⟩, fun c => absurd rfl c⟩
theorem c_steepestX (B : BW n D W br) (X : CX n D W br b m) (hg : ∀ i, In n i → 0 ≤ m 25 i) {N : Int} (hN : sm n (m 25) ≤ N) (hN3 : N ≤ 30000) : CI l G Y_S_steepest (d + 4) [.inr (.inr 0)] m (fun z m' => Fr [32, 33, 34, 35, 36, 37] m m' ∧ ∃ t, Sls n W br (m 25) n t ∧ z = (stp n t).1) := by
  have hn5 := B.1
  refine e_S_steepest (fun _ => ⟨d + 3, _, by omega, c_settleAhead B X hg hN hN3, fun m1 h1 _ => ?_⟩)
  obtain ⟨u, hu, r1, r2⟩ := h1.rest B hg
  have loop : ∀ (j k : Nat) (t : Int → Int) (m2 : MM), k + j = n → Fr [32, 33, 34, 35, 36, 37] m m2 → m2 33 = m1 33 → Sls n W br (m 25) k t →
      Wq l G false Y_S_steepest (d + 4) (QI fun z m' => Fr [32, 33, 34, 35, 36, 37] m m' ∧ ∃ t, Sls n W br (m 25) n t ∧ z = (stp n t).1) 10 [(0, .inr (.inr 0)), (1, .inl (stp k t).1), (2, .inl (stp k t).2), (3, .inl k)] [] m2 := by
    intro j
    induction j with
    | zero =>
      intro k t m2 hk hf h33 ht
      have X2 := X.fr hf (by decide) (by decide)
      have e : k = n := by omega
      subst e
      exact s_S_steepest_10 _ _ k (fun _ _ _ _ => ⟨b, X2.2.1, X2.1, fun _ => ⟨hf, t, ht, rfl⟩, fun c => absurd (show (k : Int) ≥ m2 b 0 by rw [X2.2.2.1]; omega) c⟩)
    | succ j ih =>
      intro k t m2 hk hf h33 ht
      have X2 := X.fr hf (by decide) (by decide)
      refine s_S_steepest_10 _ _ k (fun _ _ _ _ => ⟨b, X2.2.1, X2.1, fun c => absurd c (by rw [X2.2.2.1]; omega), fun _ => ⟨d + 3, _, by omega, c_slideFrom B X2 (r := m1 33) (fun i _ _ => by rw [h33]) r2 (x := (k : Int)) (by omega), fun m3 h3 _ => ?_⟩⟩)
      obtain ⟨w, hw, o, tt, dr⟩ := h3.sld hu r1
      have f3 : Fr [32, 33, 34, 35, 36, 37] m m3 := hf.tr (h3.1.mono (by simp))
      have h33' : m3 33 = m1 33 := by rw [h3.1 33 (by decide)]; exact h33
      have hmore := ht.more hw
      have hnext := ih (k + 1) _ m3 (by omega) f3 h33' hmore
      have e1 : stp (k + 1) (fun p => if p = (k : Int) then sm n w else t p) = if (stp k t).2 < sm n w then ((k : Int), sm n w) else stp k t := by
        show (if (stp k _).2 < (if (k : Int) = k then sm n w else t k) then ((k : Int), if (k : Int) = k then sm n w else t k) else stp k _) = _
        rw [if_pos rfl, stp_congr (t' := t) (fun p hp => if_neg (by omega))]
      rw [e1] at hnext
      rw [tt]
      refine ⟨fun c => ⟨by omega, ?_⟩, fun c => ⟨by omega, ?_⟩⟩
      · rw [if_neg (by omega)] at hnext; exact hnext
      · rw [if_pos (by omega)] at hnext; exact hnext
  exact loop n 0 (fun _ => 0) m1 (by omega) (h1.1.mono (by simp)) rfl (fun p hp => by omega)
theorem c_quietX (B : BW n D W br) (X : CX n D W br b m) (hg : ∀ i, In n i → 0 ≤ m 25 i) {N : Int} (hN : sm n (m 25) ≤ N) (hN3 : N ≤ 30000) : CI l G Y_S_quiet (d + 4) [.inr (.inr 0)] m (fun z m' => Fr [32, 33, 34, 35, 36, 37] m m' ∧ ∃ t, Sls n W br (m 25) n t ∧ z = bs n (fun i => decide (t i = 0))) := by
  have hn5 := B.1
  refine e_S_quiet (fun _ => ⟨d + 3, _, by omega, c_settleAhead B X hg hN hN3, fun m1 h1 _ => ?_⟩)
  obtain ⟨u, hu, r1, r2⟩ := h1.rest B hg
  have loop : ∀ (j k : Nat) (t : Int → Int) (m2 : MM), k + j = n → Fr [32, 33, 34, 35, 36, 37] m m2 → m2 33 = m1 33 → Sls n W br (m 25) k t →
      Wq l G false Y_S_quiet (d + 4) (QI fun z m' => Fr [32, 33, 34, 35, 36, 37] m m' ∧ ∃ t, Sls n W br (m 25) n t ∧ z = bs n (fun i => decide (t i = 0))) 8 [(0, .inr (.inr 0)), (1, .inl (bs k (fun i => decide (t i = 0)))), (2, .inl k)] [] m2 := by
    intro j
    induction j with
    | zero =>
      intro k t m2 hk hf h33 ht
      have X2 := X.fr hf (by decide) (by decide)
      have e : k = n := by omega
      subst e
      exact s_S_quiet_8 _ k (fun _ _ _ => ⟨b, X2.2.1, X2.1, fun _ => ⟨hf, t, ht, rfl⟩, fun c => absurd (show (k : Int) ≥ m2 b 0 by rw [X2.2.2.1]; omega) c⟩)
    | succ j ih =>
      intro k t m2 hk hf h33 ht
      have X2 := X.fr hf (by decide) (by decide)
      refine s_S_quiet_8 _ k (fun _ _ _ => ⟨b, X2.2.1, X2.1, fun c => absurd c (by rw [X2.2.2.1]; omega), fun _ => ⟨d + 3, _, by omega, c_slideFrom B X2 (r := m1 33) (fun i _ _ => by rw [h33]) r2 (x := (k : Int)) (by omega), fun m3 h3 _ => ?_⟩⟩)
      obtain ⟨w, hw, o, tt, dr⟩ := h3.sld hu r1
      have f3 : Fr [32, 33, 34, 35, 36, 37] m m3 := hf.tr (h3.1.mono (by simp))
      have h33' : m3 33 = m1 33 := by rw [h3.1 33 (by decide)]; exact h33
      have hnext := ih (k + 1) _ m3 (by omega) f3 h33' (ht.more hw)
      have e1 : bs k (fun i => decide (t i = 0)) = bs k (fun i => decide ((if i = (k : Int) then sm n w else t i) = 0)) := bs_congr (fun i hi => by rw [if_neg (by omega)])
      rw [tt, e1]
      refine ⟨fun c => ⟨by omega, ?_⟩, fun c => ⟨by omega, ?_⟩⟩
      · rw [bs_no (k := k) (by rw [if_pos rfl]; simpa using c)]; exact hnext
      · rw [bs_yes (k := k) (by omega) (by rw [if_pos rfl]; simpa using c)]; exact hnext
  exact loop n 0 (fun _ => 0) m1 (by omega) (h1.1.mono (by simp)) rfl (fun p hp => by omega)
end Slide2
