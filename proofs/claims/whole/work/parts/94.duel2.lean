section Duel2
variable {l : Launch} {G : GT} {d : Nat} {m : MM} {b : Nat} {n : Nat} {D : Int → Int} {W : Int → Int → Int} {br : Int → Int}
/-- what a duel says, whatever is asked -/
def DuA (n : Nat) (W : Int → Int → Int) (br g : Int → Int) (p o z c : Int) (L : Int → Int) : Prop :=
  (In n p ∧ In n o ∧ p ≠ o → DuR n W br g p o z c L) ∧ (¬ (In n p ∧ In n o ∧ p ≠ o) → z = -1 ∧ c = 0)
theorem DuA.uniq {g h : Int → Int} {p o z c z' c' : Int} {L L' : Int → Int} (e : ∀ i, In n i → g i = h i) (h1 : DuA n W br g p o z c L) (h2 : DuA n W br h p o z' c' L') : z = z' ∧ c = c' ∧ ∀ i, 0 ≤ i → i < c → L i = L' i := by
  by_cases q : In n p ∧ In n o ∧ p ≠ o
  · exact (h1.1 q).uniq q.1 q.2.1 e (h2.1 q)
  · have a := h1.2 q
    have b := h2.2 q
    exact ⟨by rw [a.1, b.1], by rw [a.2, b.2], fun i i0 i1 => by omega⟩
theorem c_duelX (B : BW n D W br) (X : CX n D W br b m) (hg : ∀ i, In n i → 0 ≤ m 25 i) {N : Int} (hN : sm n (m 25) ≤ N) (hN3 : N ≤ 20000) {p o : Int} : CI l G Y_S_duel (d + 5) [.inr (.inr 0), .inl p, .inl o] m (fun z m' => Fr [32, 33, 34, 35, 36, 37, 67, 68, 69] m m' ∧ DuA n W br (m 25) p o z (m' 67 1) (m' 68)) := by
  have hn5 := B.1
  refine e_S_duel p o (fun _ _ _ => ⟨d, _, by omega, e_Lying_clear (P := fun m' => m' = up m 67 1 0) (fun _ _ h => h), fun m1 h1 _ => ?_⟩)
  have f1 : Fr [32, 33, 34, 35, 36, 37, 67, 68, 69] m m1 := by rw [h1]; exact Fr_up Fr.rf (by simp)
  have e67 : m1 67 1 = 0 := by rw [h1]; exact up_at
  have e25 : m1 25 = m 25 := f1 25 (by decide)
  have X1 := X.fr f1 (by decide) (by decide)
  have no : ¬ (In n p ∧ In n o ∧ p ≠ o) → Fr [32, 33, 34, 35, 36, 37, 67, 68, 69] m m1 ∧ DuA n W br (m 25) p o (-1) (m1 67 1) (m1 68) := fun q => ⟨f1, fun r => absurd r q, fun _ => ⟨rfl, e67⟩⟩
  refine ⟨b, X1.2.1, X1.1, d, _, by omega, c_has X1.1, fun z m2 hz _ _ => ?_⟩
  obtain ⟨rfl, rfl⟩ := hz
  rw [has_if X1.2.2]
  by_cases hp : In n p
  · rw [if_pos hp]
    refine ⟨fun c => absurd c (by decide), fun _ => ⟨b, X1.2.1, X1.1, d, _, by omega, c_has X1.1, fun z m2 hz _ _ => ?_⟩⟩
    obtain ⟨rfl, rfl⟩ := hz
    rw [has_if X1.2.2]
    by_cases ho : In n o
    · rw [if_pos ho]
      refine ⟨fun c => absurd c (by decide), fun _ => ⟨fun hpo => ⟨d + 4, _, by omega, c_playAll B X1 (by rw [e25]; exact hg) (N := N) (by rw [e25]; exact hN) hN3 hp ho hpo, fun m2 h2 _ => ?_⟩, fun c => no (fun q => c q.2.2)⟩⟩
      obtain ⟨f2, u, r, hu, hr, hpl⟩ := h2
      rw [e25] at hu hr
      have e672 : m2 67 1 = 0 := by rw [f2 67 (by decide)]; exact e67
      generalize hB : rsb (fun a b => m2 69 ((a * 4 + b) * 2)) (fun a b => m2 69 ((a * 4 + b) * 2 + 1)) = R
      have fin : ∀ (z : Int) (m3 : MM), Fr [67, 68] m2 m3 → DuS R 16 z (m3 67 1) (m3 68) → Fr [32, 33, 34, 35, 36, 37, 67, 68, 69] m m3 ∧ DuA n W br (m 25) p o z (m3 67 1) (m3 68) := by
        intro z m3 f3 hs
        refine ⟨(f1.tr (f2.mono (by simp))).tr (f3.mono (by simp)), fun _ => ⟨fun a b => m2 69 ((a * 4 + b) * 2) + u p, fun a b => m2 69 ((a * 4 + b) * 2 + 1) + u o, fun a b a0 a4 b0 b4 => ?_, ?_⟩, fun q => absurd ⟨hp, ho, hpo⟩ q⟩
        · obtain ⟨w, hw, w1, w2⟩ := hpl a b a0 a4 b0 b4 (by omega)
          have he : ∀ i, In n i → 0 ≤ (if i = p then a else 0) + (if i = o then b else 0) := fun i _ => by split <;> split <;> omega
          have hc := Stb.comp he hu (w := w) (hw.congr (fun i hi => by show r i + (if i = p then a else 0) + (if i = o then b else 0) = m 25 i - Lp n W br u i + ((if i = p then a else 0) + (if i = o then b else 0)); rw [hr i hi]; omega))
          refine ⟨_, hc.congr (fun i hi => by show m 25 i + ((if i = p then a else 0) + (if i = o then b else 0)) = m 25 i + (if i = p then a else 0) + (if i = o then b else 0); omega), ?_, ?_⟩
          · show m2 69 ((a * 4 + b) * 2) + u p = u p + w p - a
            rw [w1]; omega
          · show m2 69 ((a * 4 + b) * 2 + 1) + u o = u o + w o - b
            rw [w2]; omega
        · rw [← hB] at hs
          exact hs.congr (fun v hv => (rsb_congr (c0 := u p) (c1 := u o) (fun _ _ _ _ _ _ => rfl) (fun _ _ _ _ _ _ => rfl) hv).symm)
      have outer : ∀ (j : Nat) (a : Nat) (z : Int) (m3 : MM), a + j = 4 → 0 ≤ z → z ≤ 4 * a → Fr [67, 68] m2 m3 → DuS R (4 * a) z (m3 67 1) (m3 68) → Wq l G false Y_S_duel (d + 5) (QI fun z m' => Fr [32, 33, 34, 35, 36, 37, 67, 68, 69] m m' ∧ DuA n W br (m 25) p o z (m' 67 1) (m' 68)) 47 [(0, .inr (.inr 0)), (3, .inl z), (4, .inl (a : Int))] [] m3 := by
        intro j
        induction j with
        | zero =>
          intro a z m3 haj z0 z1 f3 hs
          have e : 4 * a = 16 := by omega
          rw [e] at hs
          exact s_S_duel_47 _ _ (fun _ _ _ => ⟨fun _ => fin z m3 f3 hs, fun c => absurd (show (a : Int) ≥ 4 by omega) c⟩)
        | succ j ih =>
          intro a z m3 haj z0 z1 f3 hs
          refine s_S_duel_47 _ _ (fun _ _ _ => ⟨fun c => absurd c (by omega), fun _ => ?_⟩)
          have inner : ∀ (t : Nat) (c : Nat) (y : Int) (m4 : MM), c + t = 4 → 0 ≤ y → y ≤ 4 * a + c → Fr [67, 68] m2 m4 → DuS R (4 * a + c) y (m4 67 1) (m4 68) → Wq l G false Y_S_duel (d + 5) (QI fun z m' => Fr [32, 33, 34, 35, 36, 37, 67, 68, 69] m m' ∧ DuA n W br (m 25) p o z (m' 67 1) (m' 68)) 56 [(0, .inr (.inr 0)), (3, .inl y), (4, .inl (a : Int)), (5, .inl (c : Int))] [] m4 := by
            intro t
            induction t with
            | zero =>
              intro c y m4 hct y0 y1 f4 hs4
              have e : 4 * a + c = 4 * (a + 1) := by omega
              rw [e] at hs4
              exact s_S_duel_56 _ _ _ (fun _ _ _ _ => ⟨fun _ => ⟨by omega, ih (a + 1) y m4 (by omega) y0 (by omega) f4 hs4⟩, fun q => absurd (show (c : Int) ≥ 4 by omega) q⟩)
            | succ t iht =>
              intro c y m4 hct y0 y1 f4 hs4
              refine s_S_duel_56 _ _ _ (fun _ _ _ _ => ⟨fun q => absurd q (by omega), fun _ => ⟨d + 1, _, by omega, c_isRest (by omega) (by omega), fun z2 m5 hz _ _ => ?_⟩⟩)
              obtain ⟨rfl, rfl⟩ := hz
              have ev : rsk (fun a b => m4 69 ((a * 4 + b) * 2)) (fun a b => m4 69 ((a * 4 + b) * 2 + 1)) (a : Int) (c : Int) 4 = R (4 * a + c) := by
                rw [← hB, f4 69 (by decide)]
                show _ = rsk _ _ (((4 * a + c : Nat) : Int) / 4) (((4 * a + c : Nat) : Int) % 4) 4
                rw [show ((4 * a + c : Nat) : Int) / 4 = a by omega, show ((4 * a + c : Nat) : Int) % 4 = c by omega]
              rw [ev]
              cases hR : R (4 * a + c) with
              | false =>
                exact ⟨fun _ => ⟨by omega, iht (c + 1) y m4 (by omega) y0 (by omega) f4 (hs4.no hR)⟩, fun q => absurd rfl q⟩
              | true =>
                refine ⟨fun q => absurd q (by decide), fun _ => ⟨fun q => ⟨by omega, by omega, iht (c + 1) (y + 1) m4 (by omega) (by omega) (by omega) f4 (hs4.more hR q)⟩, fun q => ?_⟩⟩
                have y00 : y = 0 := Classical.not_not.mp q
                have c0 : m4 67 1 = 0 := by
                  obtain ⟨h3, -⟩ := hs4
                  rcases h3 with h3 | h3
                  · exact h3.2.1
                  · omega
                refine ⟨d, _, by omega, c_lyingPut (by omega), fun m5 h5 _ => ?_⟩
                rw [c0] at h5
                have c5 : m5 67 1 = 1 := by rw [h5]; exact up_at
                refine ⟨d, _, by omega, c_lyingPut (by omega), fun m6 h6 _ => ⟨by omega, by omega, ?_⟩⟩
                rw [c5] at h6
                have c6 : m6 67 1 = 2 := by rw [h6]; exact up_at
                have l0 : m6 68 0 = (a : Int) := by rw [h6, up_ne (by decide), up_off (by decide), h5, up_ne (by decide), up_at]
                have l1 : m6 68 1 = (c : Int) := by rw [h6, up_ne (by decide), up_at]
                refine iht (c + 1) (y + 1) m6 (by omega) (by omega) (by omega) (by rw [h6, h5]; exact Fr_up (Fr_up (Fr_up (Fr_up f4 (by simp)) (by simp)) (by simp)) (by simp)) ?_
                rw [c6]
                exact hs4.first hR y00 (by rw [l0]; omega) (by rw [l1]; omega)
          exact inner 4 0 z m3 (by omega) z0 (by omega) f3 hs
      exact outer 4 0 0 m2 (by omega) (by omega) (by omega) Fr.rf (by rw [e672]; exact DuS.start)
    · rw [if_neg ho]
      exact ⟨fun _ => no (fun q => ho q.2.1), fun c => absurd rfl c⟩
  · rw [if_neg hp]
    exact ⟨fun _ => no (fun q => hp q.1), fun c => absurd rfl c⟩
theorem c_duelM (B : BW n D W br) (X : BM n D W br m) (hg : ∀ i, In n i → 0 ≤ m 90 i) {N : Int} (hN : sm n (m 90) ≤ N) (hN3 : N ≤ 20000) {p o : Int} : CI l G Y_M_duel (d + 3) [.inr (.inr 70), .inl p, .inl o] m (fun z m' => Fro 70 [93, 94, 97, 100, 101] [41, 48] m m' ∧ DuA n W br (m 90) p o z (m' 70 48) (m' 97)) := by
  have hn5 := B.1
  refine e_M_duel p o (fun _ _ _ m1 h1 => ?_)
  have f1 : Fro 70 [93, 94, 97, 100, 101] [41, 48] m m1 := by rw [h1]; exact Fro_upo Fro.rf (by simp)
  have e48 : m1 70 48 = 0 := by rw [h1]; exact up_at
  have e90 : m1 90 = m 90 := f1.1 90 (by decide) (by decide)
  have X1 := X.fro f1 (by decide) (by decide) (by decide) (by decide) (by decide)
  have no : ¬ (In n p ∧ In n o ∧ p ≠ o) → Fro 70 [93, 94, 97, 100, 101] [41, 48] m m1 ∧ DuA n W br (m 90) p o (-1) (m1 70 48) (m1 97) := fun q => ⟨f1, fun r => absurd r q, fun _ => ⟨rfl, e48⟩⟩
  refine ⟨d + 1, _, by omega, c_isPlate hn5 X1, fun z m2 hz _ _ => ?_⟩
  obtain ⟨rfl, rfl⟩ := hz
  by_cases hp : In n p
  · rw [if_pos hp]
    refine ⟨fun c => absurd c (by decide), fun _ => ⟨d + 1, _, by omega, c_isPlate hn5 X1, fun z m2 hz _ _ => ?_⟩⟩
    obtain ⟨rfl, rfl⟩ := hz
    by_cases ho : In n o
    · rw [if_pos ho]
      refine ⟨fun c => absurd c (by decide), fun _ => ⟨fun hpo => ?_, fun c => no (fun q => c q.2.2)⟩⟩
      generalize hQ : (fun (z : Int) (m' : MM) => Fro 70 [93, 94, 97, 100, 101] [41, 48] m m' ∧ DuA n W br (m 90) p o z (m' 70 48) (m' 97)) = Q
      have second : ∀ m2 : MM, Fro 70 [93, 94, 97, 100, 101] [41, 48] m m2 → m2 70 48 = 0 → (∀ v, 0 ≤ v → v < 16 → ∃ u, Stb n W br (fun i => m 90 i + (if i = p then v / 4 else 0) + (if i = o then v % 4 else 0)) u ∧ m2 100 v = u p - v / 4 ∧ m2 101 v = u o - v % 4) → Wq l G false Y_M_duel (d + 3) (QI Q) 113 [(0, .inr (.inr 70)), (3, .inl 0), (4, .inl 0)] [] m2 := by
        intro m2 f2 e2 hv2
        generalize hB : rsb (fun a b => m2 100 (4 * a + b)) (fun a b => m2 101 (4 * a + b)) = R
        have outer : ∀ (j : Nat) (v : Nat) (z : Int) (m3 : MM), v + j = 16 → 0 ≤ z → z ≤ v → Fro 70 [97] [48] m2 m3 → DuS R v z (m3 70 48) (m3 97) → Wq l G false Y_M_duel (d + 3) (QI Q) 113 [(0, .inr (.inr 70)), (3, .inl z), (4, .inl (v : Int))] [] m3 := by
          intro j
          induction j with
          | zero =>
            intro v z m3 hvj z0 z1 f3 hs
            have e : v = 16 := by omega
            rw [e] at hs
            subst hQ
            refine s_M_duel_113 _ _ (fun _ _ _ => ⟨fun _ => ⟨f2.tr (f3.mono (by simp) (by simp)), fun _ => ⟨fun a b => m2 100 (4 * a + b), fun a b => m2 101 (4 * a + b), fun a b a0 a4 b0 b4 => ?_, by rw [hB]; exact hs⟩, fun q => absurd ⟨hp, ho, hpo⟩ q⟩, fun c => absurd (show (v : Int) ≥ 16 by omega) c⟩)
            obtain ⟨u, hu, u1, u2⟩ := hv2 (4 * a + b) (by omega) (by omega)
            rw [show (4 * a + b) / 4 = a by omega, show (4 * a + b) % 4 = b by omega] at hu
            rw [show (4 * a + b) / 4 = a by omega] at u1
            rw [show (4 * a + b) % 4 = b by omega] at u2
            exact ⟨u, hu, u1, u2⟩
          | succ j ih =>
            intro v z m3 hvj z0 z1 f3 hs
            refine s_M_duel_113 _ _ (fun _ _ _ => ⟨fun c => absurd c (by omega), fun _ => ?_⟩)
            rw [Int.tdiv_eq_ediv_of_nonneg (Int.natCast_nonneg v), Int.tmod_eq_emod_of_nonneg (Int.natCast_nonneg v)]
            have e100 : m3 100 = m2 100 := f3.1 100 (by decide) (by decide)
            have e101 : m3 101 = m2 101 := f3.1 101 (by decide) (by decide)
            have hv4 : 4 * ((v : Int) / 4) + (v : Int) % 4 = v := by omega
            have inner : ∀ (t k : Nat), k + t = 4 → Wq l G false Y_M_duel (d + 3) (QI Q) 138 [(0, .inr (.inr 70)), (3, .inl z), (4, .inl (v : Int)), (5, .inl ((v : Int) / 4)), (6, .inl ((v : Int) % 4)), (7, .inl (if rsk (fun a b => m2 100 (4 * a + b)) (fun a b => m2 101 (4 * a + b)) ((v : Int) / 4) ((v : Int) % 4) k = true then 1 else 0)), (8, .inl (k : Int))] [] m3 := by
              intro t
              induction t with
              | zero =>
                intro k hk
                have e : k = 4 := by omega
                subst e
                have ev : rsk (fun a b => m2 100 (4 * a + b)) (fun a b => m2 101 (4 * a + b)) ((v : Int) / 4) ((v : Int) % 4) 4 = R v := by rw [← hB]; rfl
                rw [ev]
                refine s_M_duel_138 _ _ _ _ _ _ (fun _ _ _ _ _ _ _ => ⟨fun _ => ?_, fun c => absurd (by decide) c⟩)
                cases hR : R v with
                | false =>
                  exact ⟨fun q => absurd rfl q, fun _ => ⟨by omega, ih (v + 1) z m3 (by omega) z0 (by omega) f3 (hs.no hR)⟩⟩
                | true =>
                  refine ⟨fun _ => ⟨fun q => ⟨by omega, by omega, ih (v + 1) (z + 1) m3 (by omega) (by omega) (by omega) f3 (hs.more hR q)⟩, fun q => ?_⟩, fun q => absurd (by decide) q⟩
                  rintro m4 rfl m5 rfl m6 rfl
                  refine ⟨by omega, by omega, ih (v + 1) (z + 1) _ (by omega) (by omega) (by omega) (Fro_upo (Fro_up (Fro_up f3 (by simp) (by decide)) (by simp) (by decide)) (by simp)) ?_⟩
                  rw [up_at]
                  refine hs.first hR (Classical.not_not.mp q) ?_ ?_
                  · rw [up_ne (by decide), up_off (by decide), up_at]
                  · rw [up_ne (by decide), up_at]
              | succ t iht =>
                intro k hk
                have nx : rsk (fun a b => m2 100 (4 * a + b)) (fun a b => m2 101 (4 * a + b)) ((v : Int) / 4) ((v : Int) % 4) (k + 1) = (rsk (fun a b => m2 100 (4 * a + b)) (fun a b => m2 101 (4 * a + b)) ((v : Int) / 4) ((v : Int) % 4) k && (decide (m2 100 (4 * (k : Int) + (v : Int) % 4) ≤ m2 100 v) && decide (m2 101 (4 * ((v : Int) / 4) + (k : Int)) ≤ m2 101 v))) := by
                  show (_ && (decide (_ ≤ m2 100 (4 * ((v : Int) / 4) + (v : Int) % 4)) && decide (_ ≤ m2 101 (4 * ((v : Int) / 4) + (v : Int) % 4)))) = _
                  rw [hv4]
                have go : ∀ y : Int, y = (if rsk (fun a b => m2 100 (4 * a + b)) (fun a b => m2 101 (4 * a + b)) ((v : Int) / 4) ((v : Int) % 4) (k + 1) = true then 1 else 0) → (inR ((k : Int) + 1)) ∧ (Wq l G false Y_M_duel (d + 3) (QI Q) 138 [(0, .inr (.inr 70)), (3, .inl z), (4, .inl (v : Int)), (5, .inl ((v : Int) / 4)), (6, .inl ((v : Int) % 4)), (7, .inl y), (8, .inl ((k : Int) + 1))] [] m3) := fun y hy => by
                  rw [hy]
                  exact ⟨by omega, iht (k + 1) (by omega)⟩
                refine s_M_duel_138 _ _ _ _ _ _ (fun _ _ _ _ _ _ _ => ⟨fun c => absurd c (by omega), fun _ => ?_⟩)
                rw [e100, e101]
                cases hr : rsk (fun a b => m2 100 (4 * a + b)) (fun a b => m2 101 (4 * a + b)) ((v : Int) / 4) ((v : Int) % 4) k with
                | false =>
                  exact ⟨fun _ => go 0 (by rw [nx, hr]; rfl), fun q => absurd rfl q⟩
                | true =>
                  refine ⟨fun q => absurd q (by decide), fun _ => ⟨by omega, by omega, by omega, by omega, fun q => go 0 ?_, fun q => ⟨by omega, by omega, by omega, by omega, fun q2 => go 0 ?_, fun q2 => go 1 ?_⟩⟩⟩
                  · rw [nx, hr, decide_eq_false (by omega)]; rfl
                  · rw [nx, hr, decide_eq_false (show ¬ (m2 101 (4 * ((v : Int) / 4) + (k : Int)) ≤ m2 101 v) by omega), Bool.and_false]; rfl
                  · rw [nx, hr, decide_eq_true (show m2 100 (4 * (k : Int) + (v : Int) % 4) ≤ m2 100 v by omega), decide_eq_true (show m2 101 (4 * ((v : Int) / 4) + (k : Int)) ≤ m2 101 v by omega)]; rfl
            exact inner 4 0 (by omega)
        exact outer 16 0 0 m2 (by omega) (by omega) (by omega) Fro.rf (by rw [e2]; exact DuS.start)
      have first : ∀ (j : Nat) (v : Int) (m2 : MM), v + j = 16 → 0 ≤ v → Fro 70 [93, 94, 97, 100, 101] [41, 48] m m2 → m2 70 48 = 0 → (∀ w, 0 ≤ w → w < v → ∃ u, Stb n W br (fun i => m 90 i + (if i = p then w / 4 else 0) + (if i = o then w % 4 else 0)) u ∧ m2 100 w = u p - w / 4 ∧ m2 101 w = u o - w % 4) → Wq l G false Y_M_duel (d + 3) (QI Q) 30 [(0, .inr (.inr 70)), (1, .inl p), (2, .inl o), (3, .inl v)] [] m2 := by
        intro j
        induction j with
        | zero =>
          intro v m2 hvj v0 f2 e2 hv2
          exact s_M_duel_30 _ _ _ (fun _ _ _ _ => ⟨fun _ => second m2 f2 e2 (fun w w0 w1 => hv2 w w0 (by omega)), fun c => absurd (show v ≥ 16 by omega) c⟩)
        | succ j ih =>
          intro v m2 hvj v0 f2 e2 hv2
          have X2 := X.fro f2 (by decide) (by decide) (by decide) (by decide) (by decide)
          refine s_M_duel_30 _ _ _ (fun _ _ _ _ => ⟨fun c => absurd c (by omega), fun _ => ⟨d + 1, _, by omega, c_layNow hn5 X2, fun m3 h3 _ => ?_⟩⟩)
          obtain ⟨f3, g3, -⟩ := h3
          rw [f2.1 90 (by decide) (by decide)] at g3
          have hsp := sm_term hg p hp
          have hso := sm_term hg o ho
          have hrp := hg p hp
          have hro := hg o ho
          rw [Int.tdiv_eq_ediv_of_nonneg v0, Int.tmod_eq_emod_of_nonneg v0, g3 p hp]
          refine ⟨by omega, by omega, by omega, ?_⟩
          rintro m4 rfl
          rw [up_off (fun e => hpo e.symm), g3 o ho]
          refine ⟨by omega, by omega, by omega, ?_⟩
          rintro m5 rfl
          have v5 : ∀ i, In n i → up (up m3 93 p (m 90 p + v / 4)) 93 o (m 90 o + v % 4) 93 i = m 90 i + (if i = p then v / 4 else 0) + (if i = o then v % 4 else 0) := fun i hi => by
            rw [up_row]
            by_cases e : i = o
            · rw [if_pos e, if_pos e, e, if_neg (fun q => hpo q.symm)]; omega
            · rw [if_neg e, if_neg e, up_row]
              by_cases e2 : i = p
              · rw [if_pos e2, if_pos e2, e2]; omega
              · rw [if_neg e2, if_neg e2, g3 i hi]; omega
          have f5 : Fro 70 [93] [] m2 (up (up m3 93 p (m 90 p + v / 4)) 93 o (m 90 o + v % 4)) := Fro_up (Fro_up f3 (by simp) (by decide)) (by simp) (by decide)
          generalize up (up m3 93 p (m 90 p + v / 4)) 93 o (m 90 o + v % 4) = m5 at v5 f5
          have X5 := X2.fro f5 (by decide) (by decide) (by decide) (by decide) (by decide)
          have hh := hp2_rng hg hN hp ho (a := v / 4) (c := v % 4) (by omega) (by omega)
          refine ⟨d + 2, _, by omega, c_settleHeap B X5 (fun i hi => by rw [v5 i hi]; exact hh.1 i hi) (N := N + v / 4 + v % 4) (by rw [sm_congr v5]; exact hh.2) (by omega), fun z m6 h6 _ _ => ?_⟩
          obtain ⟨u, hu, ⟨f6, -, -, o6, -, -⟩, -⟩ := h6
          have hu2 := hu.congr v5
          have hws := (hu2.way B hh.1).sum B hh.1 hh.2
          have hwp := sm_term hu2.1 p hp
          have hwo := sm_term hu2.1 o ho
          have hwp0 := hu2.1 p hp
          have hwo0 := hu2.1 o ho
          have e100 : m6 100 = m2 100 := by rw [f6.1 100 (by decide) (by decide), f5.1 100 (by decide) (by decide)]
          have e101 : m6 101 = m2 101 := by rw [f6.1 101 (by decide) (by decide), f5.1 101 (by decide) (by decide)]
          have e48' : m6 70 48 = 0 := by rw [f6.2 48 (by decide), f5.2 48 (by decide)]; exact e2
          rw [o6 p hp]
          refine ⟨by omega, by omega, by omega, ?_⟩
          rintro m7 rfl
          rw [up_ne (show 94 ≠ 100 by decide), o6 o ho]
          refine ⟨by omega, by omega, by omega, ?_⟩
          rintro m8 rfl
          refine ⟨by omega, ih (v + 1) _ (by omega) (by omega) (Fro_up (Fro_up ((f2.tr (f5.mono (by simp) (by simp))).tr (f6.mono (by simp) (by simp))) (by simp) (by decide)) (by simp) (by decide)) (by rw [up_ne (by decide), up_ne (by decide)]; exact e48') (fun w w0 w1 => ?_)⟩
          by_cases e : w = v
          · rw [e]
            refine ⟨u, hu2, ?_, ?_⟩
            · rw [up_ne (by decide), up_at]
            · rw [up_at]
          · obtain ⟨u', k1, k2, k3⟩ := hv2 w w0 (by omega)
            refine ⟨u', k1, ?_, ?_⟩
            · rw [up_ne (by decide), up_off e, e100]; exact k2
            · rw [up_off e, up_ne (by decide), e101]; exact k3
      exact first 16 0 m1 (by omega) (by omega) f1 e48 (fun w w0 w1 => by omega)
    · rw [if_neg ho]
      exact ⟨fun _ => no (fun q => ho q.2.1), fun c => absurd rfl c⟩
  · rw [if_neg hp]
    exact ⟨fun _ => no (fun q => hp q.1), fun c => absurd rfl c⟩
end Duel2
