/-! seen, fits, sure, ask of the reference -/
section SightM
variable {l : Launch} {G : GT} {d : Nat} {m : MM} {b : Nat} {n : Nat} {D : Int → Int} {W : Int → Int → Int} {br hd : Int → Int}
theorem c_doesFit (hn : n ≤ 5) (S : SgW n (m 70 60) (m 103) (m 105) (m 107)) {v k : Int} (hv : 0 ≤ v ∧ v ≤ 30) : CI l G Y_M_doesFit d [.inr (.inr 70), .inl v, .inl k] m (fun z m' => z = (if ftk (fun v p => m 102 (5 * v + p)) (m 103) (m 104) (m 105) (m 106) (m 107) k v (m 70 60).toNat = true then 1 else 0) ∧ m = m') := by
  obtain ⟨hc, S⟩ := S
  generalize hC : (m 70 60).toNat = C
  have hC2 : m 70 60 = (C : Int) := by omega
  refine e_M_doesFit v k (fun _ _ _ => ?_)
  have loop : ∀ (t j : Nat), j + t = C → ftk (fun v p => m 102 (5 * v + p)) (m 103) (m 104) (m 105) (m 106) (m 107) k v j = true → Wq l G false Y_M_doesFit d (QI fun z m' => z = (if ftk (fun v p => m 102 (5 * v + p)) (m 103) (m 104) (m 105) (m 106) (m 107) k v C = true then 1 else 0) ∧ m = m') 2 [(0, .inr (.inr 70)), (1, .inl v), (2, .inl k), (3, .inl (j : Int))] [] m := by
    intro t
    induction t with
    | zero =>
      intro j hj hr
      have e : j = C := by omega
      rw [e] at hr
      exact s_M_doesFit_2 _ _ _ (fun _ _ _ _ => ⟨fun _ => ⟨by rw [if_pos hr], rfl⟩, fun c => absurd (show (j : Int) ≥ m 70 60 by omega) c⟩)
    | succ t ih =>
      intro j hj hr
      obtain ⟨s1, s2, s3⟩ := S j (by omega) (by omega)
      have nx : ftk (fun v p => m 102 (5 * v + p)) (m 103) (m 104) (m 105) (m 106) (m 107) k v (j + 1) = sgB (fun v p => m 102 (5 * v + p)) (m 103) (m 104) (m 105) (m 106) (m 107) k v j := by
        show (ftk _ _ _ _ _ _ k v j && _) = _
        rw [hr, Bool.true_and]
      have no : sgB (fun v p => m 102 (5 * v + p)) (m 103) (m 104) (m 105) (m 106) (m 107) k v j = false → (0 : Int) = (if ftk (fun v p => m 102 (5 * v + p)) (m 103) (m 104) (m 105) (m 106) (m 107) k v C = true then 1 else 0) := fun q => by
        have := ftk_no (nx.trans q) (C - (j + 1))
        rw [show j + 1 + (C - (j + 1)) = C by omega] at this
        rw [this, if_neg (by decide)]
      have yes : sgB (fun v p => m 102 (5 * v + p)) (m 103) (m 104) (m 105) (m 106) (m 107) k v j = true → (inR ((j : Int) + 1)) ∧ (Wq l G false Y_M_doesFit d (QI fun z m' => z = (if ftk (fun v p => m 102 (5 * v + p)) (m 103) (m 104) (m 105) (m 106) (m 107) k v C = true then 1 else 0) ∧ m = m') 2 [(0, .inr (.inr 70)), (1, .inl v), (2, .inl k), (3, .inl ((j : Int) + 1))] [] m) := fun q => ⟨by omega, ih (j + 1) (by omega) (nx.trans q)⟩
      have skip : ¬ (m 106 j ≤ k ∧ (m 107 j < 0 ∨ k < m 107 j)) → sgB (fun v p => m 102 (5 * v + p)) (m 103) (m 104) (m 105) (m 106) (m 107) k v j = true := fun hh => by
        unfold sgB
        by_cases q1 : m 106 j ≤ k
        · rw [decide_eq_false (show ¬ m 107 j < 0 by omega), decide_eq_false (show ¬ k < m 107 j by omega), Bool.or_false, Bool.and_false]; rfl
        · rw [decide_eq_false q1]; rfl
      have at42 : (m 106 j ≤ k ∧ (m 107 j < 0 ∨ k < m 107 j)) → Wq l G false Y_M_doesFit d (QI fun z m' => z = (if ftk (fun v p => m 102 (5 * v + p)) (m 103) (m 104) (m 105) (m 106) (m 107) k v C = true then 1 else 0) ∧ m = m') 42 [(0, .inr (.inr 70)), (1, .inl v), (2, .inl k), (3, .inl (j : Int))] [] m := by
        intro hh
        have cyes : sgB (fun v p => m 102 (5 * v + p)) (m 103) (m 104) (m 105) (m 106) (m 107) k v j = decide ((if m 102 (5 * v + m 103 j) < m 104 j then (0 : Int) else 1) = m 105 j) := by
          unfold sgB
          rw [decide_eq_true hh.1]
          have : (decide (m 107 j < 0) || decide (k < m 107 j)) = true := by
            rcases hh.2 with r | r
            · rw [decide_eq_true r, Bool.true_or]
            · rw [decide_eq_true r, Bool.or_true]
          rw [this]
          rfl
        refine s_M_doesFit_42 _ _ _ (fun _ _ _ _ => ⟨by omega, by omega, by omega, by omega, by omega, fun c => ⟨by omega, fun r => yes ?_, fun r => ⟨no ?_, rfl⟩⟩, fun c => ⟨by omega, fun r => yes ?_, fun r => ⟨no ?_, rfl⟩⟩⟩)
        · rw [cyes, if_pos c]; exact decide_eq_true r
        · rw [cyes, if_pos c]; exact decide_eq_false r
        · rw [cyes, if_neg c]; exact decide_eq_true r
        · rw [cyes, if_neg c]; exact decide_eq_false r
      exact s_M_doesFit_2 _ _ _ (fun _ _ _ _ => ⟨fun c => absurd c (by omega), fun _ => ⟨by omega, fun c => yes (skip (by omega)), fun c => ⟨by omega, fun c2 => at42 (by omega), fun c2 => ⟨by omega, fun c3 => at42 (by omega), fun c3 => yes (skip (by omega))⟩⟩⟩⟩)
  exact loop C 0 (by omega) rfl
/-- what the reference knows of the sights -/
def SgM (n : Nat) (hd : Int → Int) (m : MM) : Prop :=
  (∀ i, In n i → m 79 (5 * m 70 28 + i) = hd i) ∧ (∀ i, In n i → 0 ≤ hd i ∧ hd i ≤ 99) ∧ SgW n (m 70 60) (m 103) (m 105) (m 107)
theorem c_layRests (B : BW n D W br) (X : BM n D W br m) (hhd : ∀ i, In n i → m 79 (5 * m 70 28 + i) = hd i) (hh : ∀ i, In n i → 0 ≤ hd i ∧ hd i ≤ 99) : CV l G Y_M_layRests (d + 3) [.inr (.inr 70)] m (fun m' => Fro 70 [93, 94, 102] [41] m m' ∧ EnR n W br hd (fun v p => m' 102 (5 * v + p))) := by
  have hn5 := B.1
  refine e_M_layRests (fun _ => ?_)
  have outer : ∀ (j : Nat) (v : Int) (m1 : MM), v + j = 31 → 0 ≤ v → Fro 70 [93, 94, 102] [41] m m1 → (∀ w, 0 ≤ w → w < v → ∃ u, Stb n W br (hvv n hd w) u ∧ ∀ p, In n p → m1 102 (5 * w + p) = hvv n hd w p - Lp n W br u p) →
      Wq l G false Y_M_layRests (d + 3) (QV fun m' => Fro 70 [93, 94, 102] [41] m m' ∧ EnR n W br hd (fun v p => m' 102 (5 * v + p))) 2 [(0, .inr (.inr 70)), (1, .inl v)] [] m1 := by
    intro j
    induction j with
    | zero =>
      intro v m1 hvj v0 f hE
      exact s_M_layRests_2 _ (fun _ _ => ⟨fun _ => ⟨f, fun w w0 w1 => hE w w0 (by omega)⟩, fun c => absurd (show v > 30 by omega) c⟩)
    | succ j ih =>
      intro v m1 hvj v0 f hE
      refine s_M_layRests_2 _ (fun _ _ => ⟨fun c => absurd c (by omega), fun _ => ?_⟩)
      have last : ∀ (u : Int → Int), Stb n W br (hvv n hd v) u → ∀ (m0 : MM), Fro 70 [93, 94, 102] [41] m m0 → m0 102 = m1 102 → (∀ i, In n i → m0 93 i = hvv n hd v i - Lp n W br u i) → ∀ (t : Nat) (x : Int) (m3 : MM), x + t = n → 0 ≤ x → Fr [102] m0 m3 → (∀ k, m3 102 k = if 5 * v ≤ k ∧ k < 5 * v + x then m0 93 (k - 5 * v) else m0 102 k) →
          Wq l G false Y_M_layRests (d + 3) (QV fun m' => Fro 70 [93, 94, 102] [41] m m' ∧ EnR n W br hd (fun v p => m' 102 (5 * v + p))) 64 [(0, .inr (.inr 70)), (1, .inl v), (3, .inl x)] [] m3 := by
        intro u hu m0 fm0 e102 h93 t
        induction t with
        | zero =>
          intro x m3 hxt x0 f3 hv3
          have fm3 : Fro 70 [93, 94, 102] [41] m m3 := fm0.tr ⟨fun c hc _ => f3 c (by simp only [List.mem_cons, List.not_mem_nil, or_false] at hc ⊢; omega), fun i _ => by rw [f3 70 (by decide)]⟩
          have X3 := X.fro fm3 (by decide) (by decide) (by decide) (by decide) (by decide)
          refine s_M_layRests_64 _ _ (fun _ _ _ => ⟨d, _, by omega, c_lots X3, fun z m4 hz _ _ => ?_⟩)
          obtain ⟨rfl, rfl⟩ := hz
          refine ⟨fun _ => ⟨by omega, ih (v + 1) m3 (by omega) (by omega) fm3 (fun w w0 w1 => ?_)⟩, fun c => absurd (show x ≥ (n : Int) by omega) c⟩
          by_cases e : w = v
          · rw [e]
            refine ⟨u, hu, fun p hp => ?_⟩
            rw [hv3, if_pos (by omega), show 5 * v + p - 5 * v = p by omega]
            exact h93 p hp
          · obtain ⟨u', k1, k2⟩ := hE w w0 (by omega)
            refine ⟨u', k1, fun p hp => ?_⟩
            rw [hv3, if_neg (by omega), e102]
            exact k2 p hp
        | succ t iht =>
          intro x m3 hxt x0 f3 hv3
          have fm3 : Fro 70 [93, 94, 102] [41] m m3 := fm0.tr ⟨fun c hc _ => f3 c (by simp only [List.mem_cons, List.not_mem_nil, or_false] at hc ⊢; omega), fun i _ => by rw [f3 70 (by decide)]⟩
          have X3 := X.fro fm3 (by decide) (by decide) (by decide) (by decide) (by decide)
          refine s_M_layRests_64 _ _ (fun _ _ _ => ⟨d, _, by omega, c_lots X3, fun z m4 hz _ _ => ?_⟩)
          obtain ⟨rfl, rfl⟩ := hz
          refine ⟨fun c => absurd c (by omega), fun _ => ⟨by omega, by omega, by omega, by omega, ?_⟩⟩
          rintro m4 rfl
          refine ⟨by omega, iht (x + 1) _ (by omega) (by omega) (Fr_up f3 (by simp)) (fun k => ?_)⟩
          rw [up_row, hv3 k, f3 93 (by decide)]
          by_cases e : k = 5 * v + x
          · rw [if_pos e, if_pos (by omega), show k - 5 * v = x by omega]
          · rw [if_neg e]
            by_cases e2 : 5 * v ≤ k ∧ k < 5 * v + x
            · rw [if_pos e2, if_pos (by omega)]
            · rw [if_neg e2, if_neg (by omega)]
      have inner : ∀ (t : Nat) (x : Int) (m2 : MM), x + t = n → 0 ≤ x → Fro 70 [93] [] m1 m2 → (∀ i, In n i → i < x → m2 93 i = hvv n hd v i) →
          Wq l G false Y_M_layRests (d + 3) (QV fun m' => Fro 70 [93, 94, 102] [41] m m' ∧ EnR n W br hd (fun v p => m' 102 (5 * v + p))) 10 [(0, .inr (.inr 70)), (1, .inl v), (2, .inl x)] [] m2 := by
        intro t
        induction t with
        | zero =>
          intro x m2 hxt x0 f2 hv2
          have fm2 : Fro 70 [93, 94, 102] [41] m m2 := f.tr (f2.mono (by simp) (by simp))
          have X2 := X.fro fm2 (by decide) (by decide) (by decide) (by decide) (by decide)
          have hin : ∀ i, In n i → m2 93 i = hvv n hd v i := fun i hi => hv2 i hi (by omega)
          have hr0 := hvv_rng hn5 hh (v := v) (by omega)
          refine s_M_layRests_10 _ _ (fun _ _ _ => ⟨d, _, by omega, c_lots X2, fun z m4 hz _ _ => ?_⟩)
          obtain ⟨rfl, rfl⟩ := hz
          refine ⟨fun _ => ⟨d + 2, _, by omega, c_settleHeap B X2 (fun i hi => by rw [hin i hi]; exact hr0.1 i hi) (N := 600) (by rw [sm_congr hin]; exact hr0.2) (by decide), fun z m3 h3 _ _ => ?_⟩, fun c => absurd (show x ≥ (n : Int) by omega) c⟩
          obtain ⟨u, hu, ⟨f3, g3, -, -, -, -⟩, -⟩ := h3
          exact last u (hu.congr hin) m3 (fm2.tr (f3.mono (by simp) (by simp))) (by rw [f3.1 102 (by decide) (by decide), f2.1 102 (by decide) (by decide)]) (fun i hi => by rw [g3 i hi, hin i hi]) n 0 m3 (by omega) (by omega) Fr.rf (fun k => by rw [if_neg (by omega)])
        | succ t iht =>
          intro x m2 hxt x0 f2 hv2
          have fm2 : Fro 70 [93, 94, 102] [41] m m2 := f.tr (f2.mono (by simp) (by simp))
          have X2 := X.fro fm2 (by decide) (by decide) (by decide) (by decide) (by decide)
          have hi : In n x := by omega
          have hb := X2.1
          have e79 : m2 79 (5 * m2 70 28 + x) = hd x := by rw [fm2.1 79 (by decide) (by decide), fm2.2 28 (by decide)]; exact hhd x hi
          refine s_M_layRests_10 _ _ (fun _ _ _ => ⟨d, _, by omega, c_lots X2, fun z m4 hz _ _ => ?_⟩)
          obtain ⟨rfl, rfl⟩ := hz
          refine ⟨fun c => absurd c (by omega), fun _ => ⟨d, _, by omega, c_lots X2, fun z m4 hz _ _ => ?_⟩⟩
          obtain ⟨rfl, rfl⟩ := hz
          have go : ∀ y : Int, y = hvv n hd v x → ∀ m4, m4 = up m2 93 x y → (inR (x + 1)) ∧ (Wq l G false Y_M_layRests (d + 3) (QV fun m' => Fro 70 [93, 94, 102] [41] m m' ∧ EnR n W br hd (fun v p => m' 102 (5 * v + p))) 10 [(0, .inr (.inr 70)), (1, .inl v), (2, .inl (x + 1))] [] m4) := by
            rintro y hy m4 rfl
            refine ⟨by omega, iht (x + 1) _ (by omega) (by omega) (Fro_up f2 (by simp) (by decide)) (fun i hi2 hix => ?_)⟩
            rw [up_row]
            by_cases e : i = x
            · rw [if_pos e, e, hy]
            · rw [if_neg e]; exact hv2 i hi2 (by omega)
          refine ⟨by omega, fun c => ⟨by omega, by omega, by omega, by omega, ?_⟩, fun c => ⟨by omega, go v ?_⟩⟩
          · rw [e79]
            exact go (hd x) (by unfold hvv; rw [if_neg c])
          · unfold hvv
            rw [if_pos (Classical.not_not.mp c)]
      exact inner n 0 m1 (by omega) (by omega) Fro.rf (fun i hi hix => absurd hix (by have := hi.1; omega))
  exact outer 31 0 m (by omega) (by omega) Fro.rf (fun w w0 w1 => by omega)
theorem SgM.fro {m' : MM} (S : SgM n hd m) {Q : List Nat} {I : List Int} (f : Fro 70 Q I m m') (h0 : 79 ∉ Q) (h1 : 103 ∉ Q) (h2 : 105 ∉ Q) (h3 : 107 ∉ Q) (h4 : 28 ∉ I) (h5 : 60 ∉ I) : SgM n hd m' := by
  unfold SgM at S ⊢
  rw [f.1 79 h0 (by decide), f.1 103 h1 (by decide), f.1 105 h2 (by decide), f.1 107 h3 (by decide), f.2 28 h4, f.2 60 h5]
  exact S
theorem c_fitsM (B : BW n D W br) (X : BM n D W br m) (S : SgM n hd m) {k : Int} : CI l G Y_M_fits (d + 4) [.inr (.inr 70), .inl k] m (fun z m' => Fro 70 [93, 94, 102] [41] m m' ∧ (1 ≤ n → EnR n W br hd (fun v p => m' 102 (5 * v + p))) ∧ z = fiV n (fun v => ftk (fun v p => m' 102 (5 * v + p)) (m 103) (m 104) (m 105) (m 106) (m 107) k v (m 70 60).toNat)) := by
  have hn5 := B.1
  unfold fiV
  refine e_M_fits k (fun _ _ => ⟨d, _, by omega, c_lots X, fun z m1 hz _ _ => ?_⟩)
  obtain ⟨rfl, rfl⟩ := hz
  refine ⟨fun c => ⟨d + 3, _, by omega, c_layRests B X S.1 S.2.1, fun m1 h1 _ => ?_⟩, fun c => ⟨Fro.rf, fun q => absurd (Classical.not_not.mp c) (by omega), by rw [if_pos (by omega)]⟩⟩
  obtain ⟨f1, hE⟩ := h1
  have S1 := S.fro f1 (by decide) (by decide) (by decide) (by decide) (by decide) (by decide)
  simp only [if_neg (show ¬ n = 0 by omega)]
  have loop : ∀ (j t : Nat), t + j = 31 → (0 ≤ cntF (fun v => ftk (fun v p => m1 102 (5 * v + p)) (m 103) (m 104) (m 105) (m 106) (m 107) k v (m 70 60).toNat) t ∧ cntF (fun v => ftk (fun v p => m1 102 (5 * v + p)) (m 103) (m 104) (m 105) (m 106) (m 107) k v (m 70 60).toNat) t ≤ t) →
      Wq l G false Y_M_fits (d + 4) (QI fun z m' => Fro 70 [93, 94, 102] [41] m m' ∧ (1 ≤ n → EnR n W br hd (fun v p => m' 102 (5 * v + p))) ∧ z = cntF (fun v => ftk (fun v p => m' 102 (5 * v + p)) (m 103) (m 104) (m 105) (m 106) (m 107) k v (m 70 60).toNat) 31) 17 [(0, .inr (.inr 70)), (1, .inl k), (2, .inl (cntF (fun v => ftk (fun v p => m1 102 (5 * v + p)) (m 103) (m 104) (m 105) (m 106) (m 107) k v (m 70 60).toNat) t)), (3, .inl (t : Int))] [] m1 := by
    intro j
    induction j with
    | zero =>
      intro t htj hc
      have e : t = 31 := by omega
      subst e
      exact s_M_fits_17 _ _ _ (fun _ _ _ _ => ⟨fun _ => ⟨f1, fun _ => hE, rfl⟩, fun c => absurd (by decide) c⟩)
    | succ j ih =>
      intro t htj hc
      refine s_M_fits_17 _ _ _ (fun _ _ _ _ => ⟨fun c => absurd c (by omega), fun _ => ⟨d, _, by omega, c_doesFit hn5 S1.2.2 (by omega), fun z m2 hz _ _ => ?_⟩⟩)
      obtain ⟨hz, rfl⟩ := hz
      rw [f1.1 103 (by decide) (by decide), f1.1 104 (by decide) (by decide), f1.1 105 (by decide) (by decide), f1.1 106 (by decide) (by decide), f1.1 107 (by decide) (by decide), f1.2 60 (by decide)] at hz
      have cn : cntF (fun v => ftk (fun v p => m1 102 (5 * v + p)) (m 103) (m 104) (m 105) (m 106) (m 107) k v (m 70 60).toNat) (t + 1) = cntF (fun v => ftk (fun v p => m1 102 (5 * v + p)) (m 103) (m 104) (m 105) (m 106) (m 107) k v (m 70 60).toNat) t + z := by rw [hz]; rfl
      have hz01 : z = 0 ∨ z = 1 := by
        rw [hz]
        split
        · exact Or.inr rfl
        · exact Or.inl rfl
      have := ih (t + 1) (by omega) (by omega)
      rw [cn] at this
      refine ⟨fun c => ⟨by omega, by omega, ?_⟩, fun c => ⟨by omega, by omega, ?_⟩⟩
      · rw [c] at this; exact this
      · rw [show z = 1 by omega] at this; exact this
  exact loop 31 0 (by omega) ⟨Int.le_refl 0, Int.le_refl 0⟩
theorem c_sureM (B : BW n D W br) (X : BM n D W br m) (S : SgM n hd m) {x k : Int} : CI l G Y_M_sure (d + 5) [.inr (.inr 70), .inl x, .inl k] m (fun z m' => Fro 70 [93, 94, 102] [41] m m' ∧ ∃ E, ((0 ≤ x ∧ x ≤ 1) ∧ n ≠ 0 → EnR n W br hd E) ∧ suR n (fun v => ftk E (m 103) (m 104) (m 105) (m 106) (m 107) k v (m 70 60).toNat) x z) := by
  have hn5 := B.1
  refine e_M_sure x k (fun _ _ _ => ⟨d, _, by omega, c_isIn, fun z m1 hz _ _ => ?_⟩)
  obtain ⟨rfl, rfl⟩ := hz
  by_cases hx : 0 ≤ x ∧ x ≤ 1
  · rw [if_pos hx]
    refine ⟨fun c => absurd c (by decide), fun _ => ⟨d + 4, _, by omega, c_fitsM B X S, fun z m1 h1 _ _ => ?_⟩⟩
    obtain ⟨f1, hE, hz⟩ := h1
    have S1 := S.fro f1 (by decide) (by decide) (by decide) (by decide) (by decide) (by decide)
    generalize hF : (fun v => ftk (fun v p => m1 102 (5 * v + p)) (m 103) (m 104) (m 105) (m 106) (m 107) k v (m 70 60).toNat) = F at hz
    have hfit : ∀ v, 0 ≤ v ∧ v ≤ 30 → CI l G Y_M_doesFit (d + 4) [.inr (.inr 70), .inl v, .inl k] m1 (fun z m' => z = (if F v = true then 1 else 0) ∧ m1 = m') := fun v hv => by
      have := c_doesFit (l := l) (G := G) (d := d + 4) (m := m1) hn5 S1.2.2 (v := v) (k := k) hv
      rw [f1.1 103 (by decide) (by decide), f1.1 104 (by decide) (by decide), f1.1 105 (by decide) (by decide), f1.1 106 (by decide) (by decide), f1.1 107 (by decide) (by decide), f1.2 60 (by decide)] at this
      rw [← hF]
      exact this
    unfold fiV at hz
    by_cases hn0 : n = 0
    · rw [if_pos hn0] at hz
      refine ⟨fun q => absurd hz q, fun _ => ⟨f1, fun v p => m1 102 (5 * v + p), fun q => absurd hn0 q.2, fun q => absurd hn0 q.2.1, fun _ => rfl⟩⟩
    · rw [if_neg hn0] at hz
      have hE1 := hE (by omega)
      refine ⟨fun q => ?_, fun q => ⟨f1, fun v p => m1 102 (5 * v + p), fun _ => hE1, fun r => absurd (Classical.not_not.mp q) (by rw [hz, ← hF]; exact r.2.2), fun _ => rfl⟩⟩
      -- one of them fits
      have some1 : ∃ w, In 31 w ∧ F w = true := Classical.byContradiction (fun hno => by
        apply q
        rw [hz]
        have : cntF F 31 = cntF (fun _ => false) 31 := cntF_congr (fun i hi => by
          cases hFi : F i with
          | false => rfl
          | true => exact absurd ⟨i, hi, hFi⟩ hno)
        rw [this]
        rfl)
      obtain ⟨w, hw, hFw⟩ := some1
      have hcn : cntF F 31 ≠ 0 := by rw [← hz]; exact q
      have fin : ∀ a, (0 ≤ a ∧ a < 31 ∧ F a = true ∧ (x = 0 → ∀ v, 0 ≤ v → v < a → F v = false) ∧ (x ≠ 0 → ∀ v, a < v → v < 31 → F v = false)) → (Fro 70 [93, 94, 102] [41] m m1 ∧ ∃ E, ((0 ≤ x ∧ x ≤ 1) ∧ n ≠ 0 → EnR n W br hd E) ∧ suR n (fun v => ftk E (m 103) (m 104) (m 105) (m 106) (m 107) k v (m 70 60).toNat) x a) := by
        rintro a ⟨a0, a1, a2, a3, a4⟩
        -- the other end, by search
        have up : ∀ (t : Nat), (∃ w, 0 ≤ w ∧ w ≤ (t : Int) ∧ F w = true) → ∃ lo, 0 ≤ lo ∧ lo ≤ (t : Int) ∧ F lo = true ∧ ∀ v, 0 ≤ v → v < lo → F v = false := by
          intro t
          induction t with
          | zero =>
            rintro ⟨w, w0, w1, w2⟩
            exact ⟨w, w0, w1, w2, fun v v0 v1 => by omega⟩
          | succ t iht =>
            rintro ⟨w, w0, w1, w2⟩
            by_cases h : ∃ w, 0 ≤ w ∧ w ≤ (t : Int) ∧ F w = true
            · obtain ⟨lo, l0, l1, l2, l3⟩ := iht h
              exact ⟨lo, l0, by omega, l2, l3⟩
            · refine ⟨w, w0, w1, w2, fun v v0 v1 => ?_⟩
              cases hFv : F v with
              | false => rfl
              | true => exact absurd ⟨v, v0, by omega, hFv⟩ h
        have dn : ∀ (t : Nat), (∃ w, 30 - (t : Int) ≤ w ∧ w ≤ 30 ∧ F w = true) → ∃ hi, 30 - (t : Int) ≤ hi ∧ hi ≤ 30 ∧ F hi = true ∧ ∀ v, hi < v → v < 31 → F v = false := by
          intro t
          induction t with
          | zero =>
            rintro ⟨w, w0, w1, w2⟩
            exact ⟨w, w0, w1, w2, fun v v0 v1 => by omega⟩
          | succ t iht =>
            rintro ⟨w, w0, w1, w2⟩
            by_cases h : ∃ w, 30 - (t : Int) ≤ w ∧ w ≤ 30 ∧ F w = true
            · obtain ⟨lo, l0, l1, l2, l3⟩ := iht h
              exact ⟨lo, by omega, l1, l2, l3⟩
            · refine ⟨w, w0, w1, w2, fun v v0 v1 => ?_⟩
              cases hFv : F v with
              | false => rfl
              | true => exact absurd ⟨v, by omega, by omega, hFv⟩ h
        refine ⟨f1, fun v p => m1 102 (5 * v + p), fun _ => hE1, fun _ => ?_, fun r => absurd ⟨hx, hn0, by rw [hF]; exact hcn⟩ r⟩
        rw [hF]
        by_cases hx0 : x = 0
        · obtain ⟨hi, b0, b1, b2, b3⟩ := dn 30 ⟨w, by have := hw.1; omega, by have := hw.2; omega, hFw⟩
          exact ⟨a, hi, ⟨⟨a0, a1, a2, a3 hx0⟩, by omega, by omega, b2, b3⟩, by rw [if_pos hx0]⟩
        · obtain ⟨lo, b0, b1, b2, b3⟩ := up 30 ⟨w, hw.1, by have := hw.2; omega, hFw⟩
          exact ⟨lo, a, ⟨⟨b0, by omega, b2, b3⟩, a0, a1, a2, a4 hx0⟩, by rw [if_neg hx0]⟩
      have goUp : ¬ (x ≠ 0) → ∀ (j : Nat) (a : Int), a + j = 31 → 0 ≤ a → (∀ v, 0 ≤ v → v < a → F v = false) → Wq l G false Y_M_sure (d + 5) (QI fun z m' => Fro 70 [93, 94, 102] [41] m m' ∧ ∃ E, ((0 ≤ x ∧ x ≤ 1) ∧ n ≠ 0 → EnR n W br hd E) ∧ suR n (fun v => ftk E (m 103) (m 104) (m 105) (m 106) (m 107) k v (m 70 60).toNat) x z) 30 [(0, .inr (.inr 70)), (1, .inl x), (2, .inl k), (3, .inl a)] [] m1 := by
        intro hx0 j
        induction j with
        | zero =>
          intro a haj a0 hv
          exact absurd hFw (by rw [hv w hw.1 (by have := hw.2; omega)]; decide)
        | succ j ih =>
          intro a haj a0 hv
          refine s_M_sure_30 _ _ _ (fun _ _ _ _ => ⟨d + 4, _, by omega, hfit a (by omega), fun z2 m2 hz2 _ _ => ?_⟩)
          obtain ⟨rfl, rfl⟩ := hz2
          cases hFa : F a with
          | false =>
            refine ⟨fun r => absurd rfl r, fun _ => ⟨fun r => absurd r hx0, fun _ => ⟨by omega, ih (a + 1) (by omega) (by omega) (fun v v0 v1 => ?_)⟩⟩⟩
            by_cases e : v = a
            · rw [e]; exact hFa
            · exact hv v v0 (by omega)
          | true =>
            exact ⟨fun _ => fin a ⟨a0, by omega, hFa, fun _ => hv, fun r => absurd r hx0⟩, fun r => absurd (by decide) r⟩
      have goDn : x ≠ 0 → ∀ (j : Nat) (a : Int), a + 1 = j → a ≤ 30 → (∀ v, a < v → v < 31 → F v = false) → Wq l G false Y_M_sure (d + 5) (QI fun z m' => Fro 70 [93, 94, 102] [41] m m' ∧ ∃ E, ((0 ≤ x ∧ x ≤ 1) ∧ n ≠ 0 → EnR n W br hd E) ∧ suR n (fun v => ftk E (m 103) (m 104) (m 105) (m 106) (m 107) k v (m 70 60).toNat) x z) 30 [(0, .inr (.inr 70)), (1, .inl x), (2, .inl k), (3, .inl a)] [] m1 := by
        intro hx0 j
        induction j with
        | zero =>
          intro a haj a0 hv
          exact absurd hFw (by rw [hv w (by have := hw.1; omega) hw.2]; decide)
        | succ j ih =>
          intro a haj a0 hv
          refine s_M_sure_30 _ _ _ (fun _ _ _ _ => ⟨d + 4, _, by omega, hfit a (by omega), fun z2 m2 hz2 _ _ => ?_⟩)
          obtain ⟨rfl, rfl⟩ := hz2
          cases hFa : F a with
          | false =>
            refine ⟨fun r => absurd rfl r, fun _ => ⟨fun _ => ⟨by omega, ih (a + (-1)) (by omega) (by omega) (fun v v0 v1 => ?_)⟩, fun r => absurd hx0 r⟩⟩
            by_cases e : v = a
            · rw [e]; exact hFa
            · exact hv v (by omega) v1
          | true =>
            exact ⟨fun _ => fin a ⟨by omega, by omega, hFa, fun r => absurd r hx0, fun _ => hv⟩, fun r => absurd (by decide) r⟩
      exact ⟨fun c => goDn c 31 30 (by omega) (by omega) (fun v v0 v1 => by omega), fun c => goUp c 31 0 (by omega) (by omega) (fun v v0 v1 => by omega)⟩
  · rw [if_neg hx]
    exact ⟨fun _ => ⟨Fro.rf, fun _ _ => 0, fun q => absurd q.1 hx, fun q => absurd q.1 hx, fun _ => rfl⟩, fun c => absurd rfl c⟩
end SightM
