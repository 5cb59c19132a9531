/-! what was seen: the class -/
def sgB (E : Int → Int → Int) (P M I T U : Int → Int) (k v i : Int) : Bool := !(decide (T i ≤ k) && (decide (U i < 0) || decide (k < U i))) || decide ((if E v (P i) < M i then (0 : Int) else 1) = I i)
def ftk (E : Int → Int → Int) (P M I T U : Int → Int) (k v : Int) : Nat → Bool
  | 0 => true
  | j + 1 => ftk E P M I T U k v j && sgB E P M I T U k v j
theorem ftk_no {E : Int → Int → Int} {P M I T U : Int → Int} {k v : Int} {j : Nat} (h : ftk E P M I T U k v j = false) : ∀ t, ftk E P M I T U k v (j + t) = false
  | 0 => h
  | t + 1 => by
    show (ftk E P M I T U k v (j + t) && _) = false
    rw [ftk_no h t]; rfl
theorem ftk_congr {E E' : Int → Int → Int} {P M I T U P' M' I' T' U' : Int → Int} {k v : Int} : ∀ {c : Nat}, (∀ i, In c i → P i = P' i ∧ M i = M' i ∧ I i = I' i ∧ T i = T' i ∧ U i = U' i ∧ E v (P i) = E' v (P i)) → ftk E P M I T U k v c = ftk E' P' M' I' T' U' k v c
  | 0, _ => rfl
  | c + 1, h => by
    show (ftk E P M I T U k v c && sgB E P M I T U k v c) = (ftk E' P' M' I' T' U' k v c && sgB E' P' M' I' T' U' k v c)
    rw [ftk_congr (c := c) (fun i hi => h i ⟨hi.1, by omega⟩)]
    obtain ⟨a1, a2, a3, a4, a5, a6⟩ := h (c : Int) ⟨by omega, by omega⟩
    unfold sgB
    rw [a6, a1, a2, a3, a4, a5]
def hvv (n : Nat) (hd : Int → Int) (v : Int) : Int → Int := fun i => if i = (n : Int) - 1 then v else hd i
/-- the ends of all guesses -/
def EnR (n : Nat) (W : Int → Int → Int) (br hd : Int → Int) (E : Int → Int → Int) : Prop := ∀ v, 0 ≤ v → v ≤ 30 → ∃ u, Stb n W br (hvv n hd v) u ∧ ∀ i, In n i → E v i = hvv n hd v i - Lp n W br u i
theorem EnR.uniq {n : Nat} {W : Int → Int → Int} {br hd hd' : Int → Int} {E E' : Int → Int → Int} (e : ∀ i, In n i → hd i = hd' i) (h : EnR n W br hd E) (h' : EnR n W br hd' E') {v i : Int} (hv : 0 ≤ v ∧ v ≤ 30) (hi : In n i) : E v i = E' v i := by
  obtain ⟨u, hu, h1⟩ := h v hv.1 hv.2
  obtain ⟨u', hu', h2⟩ := h' v hv.1 hv.2
  have eh : ∀ i, In n i → hvv n hd v i = hvv n hd' v i := fun i hi => by
    unfold hvv
    rw [e i hi]
  have huv := hu.uniq (hu'.congr (fun i hi => (eh i hi).symm))
  rw [h1 i hi, h2 i hi, eh i hi, Lp_congr huv i hi]
theorem hvv_rng {n : Nat} (hn : n ≤ 5) {hd : Int → Int} (hh : ∀ i, In n i → 0 ≤ hd i ∧ hd i ≤ 99) {v : Int} (hv : 0 ≤ v ∧ v ≤ 31) : (∀ i, In n i → 0 ≤ hvv n hd v i) ∧ sm n (hvv n hd v) ≤ 600 := by
  have h1 : ∀ i, In n i → 0 ≤ hvv n hd v i ∧ hvv n hd v i ≤ 99 := fun i hi => by
    unfold hvv
    have := hh i hi
    split <;> omega
  refine ⟨fun i hi => (h1 i hi).1, ?_⟩
  have h2 := sm_le (n := n) (f := hvv n hd v) (g := fun _ => 99) (fun i hi => (h1 i hi).2)
  have h3 : sm n (fun _ => (99 : Int)) ≤ 500 := by
    have hn2 : n = 0 ∨ n = 1 ∨ n = 2 ∨ n = 3 ∨ n = 4 ∨ n = 5 := by omega
    rcases hn2 with rfl | rfl | rfl | rfl | rfl | rfl <;> decide
  omega
/-- the sights as they must be -/
def SgW (n : Nat) (c : Int) (P I U : Int → Int) : Prop := (0 ≤ c ∧ c ≤ 30) ∧ ∀ i, 0 ≤ i → i < c → In n (P i) ∧ (I i = 0 ∨ I i = 1) ∧ -1 ≤ U i
section Sight
variable {l : Launch} {G : GT} {d : Nat} {m : MM} {b : Nat} {n : Nat} {D : Int → Int} {W : Int → Int → Int} {br hd : Int → Int}
theorem c_agrees (hn : n ≤ 5) (S : SgW n (m 55 10) (m 56) (m 58) (m 60)) {v k : Int} (hv : 0 ≤ v ∧ v ≤ 30) : CI l G Y_Sights_agrees d [.inr (.inr 55), .inl v, .inl k] m (fun z m' => z = (if ftk (fun v p => m 61 (v * 5 + p)) (m 56) (m 57) (m 58) (m 59) (m 60) k v (m 55 10).toNat = true then 1 else 0) ∧ m = m') := by
  obtain ⟨hc, S⟩ := S
  generalize hC : (m 55 10).toNat = C
  have hC2 : m 55 10 = (C : Int) := by omega
  refine e_Sights_agrees v k (fun _ _ _ => ?_)
  have loop : ∀ (t j : Nat), j + t = C → ftk (fun v p => m 61 (v * 5 + p)) (m 56) (m 57) (m 58) (m 59) (m 60) k v j = true → Wq l G false Y_Sights_agrees d (QI fun z m' => z = (if ftk (fun v p => m 61 (v * 5 + p)) (m 56) (m 57) (m 58) (m 59) (m 60) k v C = true then 1 else 0) ∧ m = m') 2 [(0, .inr (.inr 55)), (1, .inl v), (2, .inl k), (3, .inl (j : Int))] [] m := by
    intro t
    induction t with
    | zero =>
      intro j hj hr
      have e : j = C := by omega
      rw [e] at hr
      exact s_Sights_agrees_2 _ _ _ (fun _ _ _ _ => ⟨fun _ => ⟨by rw [if_pos hr], rfl⟩, fun c => absurd (show (j : Int) ≥ m 55 10 by omega) c⟩)
    | succ t ih =>
      intro j hj hr
      obtain ⟨s1, s2, s3⟩ := S j (by omega) (by omega)
      have nx : ftk (fun v p => m 61 (v * 5 + p)) (m 56) (m 57) (m 58) (m 59) (m 60) k v (j + 1) = sgB (fun v p => m 61 (v * 5 + p)) (m 56) (m 57) (m 58) (m 59) (m 60) k v j := by
        show (ftk _ _ _ _ _ _ k v j && _) = _
        rw [hr, Bool.true_and]
      have no : sgB (fun v p => m 61 (v * 5 + p)) (m 56) (m 57) (m 58) (m 59) (m 60) k v j = false → (0 : Int) = (if ftk (fun v p => m 61 (v * 5 + p)) (m 56) (m 57) (m 58) (m 59) (m 60) k v C = true then 1 else 0) := fun q => by
        have := ftk_no (nx.trans q) (C - (j + 1))
        rw [show j + 1 + (C - (j + 1)) = C by omega] at this
        rw [this, if_neg (by decide)]
      have at45 : ∀ y : Int, (y = 0 ∧ ¬ (m 59 j ≤ k ∧ (m 60 j < 0 ∨ k < m 60 j))) ∨ (y = 1 ∧ (m 59 j ≤ k ∧ (m 60 j < 0 ∨ k < m 60 j))) → Wq l G false Y_Sights_agrees d (QI fun z m' => z = (if ftk (fun v p => m 61 (v * 5 + p)) (m 56) (m 57) (m 58) (m 59) (m 60) k v C = true then 1 else 0) ∧ m = m') 45 [(0, .inr (.inr 55)), (1, .inl v), (2, .inl k), (3, .inl (j : Int))] [.inl y] m := by
        intro y hy
        have yes : sgB (fun v p => m 61 (v * 5 + p)) (m 56) (m 57) (m 58) (m 59) (m 60) k v j = true → (inR ((j : Int) + 1)) ∧ (Wq l G false Y_Sights_agrees d (QI fun z m' => z = (if ftk (fun v p => m 61 (v * 5 + p)) (m 56) (m 57) (m 58) (m 59) (m 60) k v C = true then 1 else 0) ∧ m = m') 2 [(0, .inr (.inr 55)), (1, .inl v), (2, .inl k), (3, .inl ((j : Int) + 1))] [] m) := fun q => ⟨by omega, ih (j + 1) (by omega) (nx.trans q)⟩
        have cnt : y = 0 → sgB (fun v p => m 61 (v * 5 + p)) (m 56) (m 57) (m 58) (m 59) (m 60) k v j = true := fun q => by
          have hh : ¬ (m 59 j ≤ k ∧ (m 60 j < 0 ∨ k < m 60 j)) := by
            rcases hy with hy | hy
            · exact hy.2
            · omega
          unfold sgB
          by_cases q1 : m 59 j ≤ k
          · rw [decide_eq_false (show ¬ m 60 j < 0 by omega), decide_eq_false (show ¬ k < m 60 j by omega), Bool.or_false, Bool.and_false]; rfl
          · rw [decide_eq_false q1]; rfl
        have cyes : ¬ (y = 0) → sgB (fun v p => m 61 (v * 5 + p)) (m 56) (m 57) (m 58) (m 59) (m 60) k v j = decide ((if m 61 (v * 5 + m 56 j) < m 57 j then (0 : Int) else 1) = m 58 j) := fun q => by
          have hh : (m 59 j ≤ k ∧ (m 60 j < 0 ∨ k < m 60 j)) := by
            rcases hy with hy | hy
            · omega
            · exact hy.2
          unfold sgB
          rw [decide_eq_true hh.1]
          have : (decide (m 60 j < 0) || decide (k < m 60 j)) = true := by
            rcases hh.2 with r | r
            · rw [decide_eq_true r, Bool.true_or]
            · rw [decide_eq_true r, Bool.or_true]
          rw [this]
          rfl
        refine s_Sights_agrees_45 _ _ _ _ (fun _ _ _ _ _ => ⟨by omega, by omega, by omega, by omega, by omega, fun c => ⟨fun q => yes (cnt q), fun q => ⟨by omega, fun r => yes ?_, fun r => ⟨no ?_, rfl⟩⟩⟩, fun c => ⟨fun q => yes (cnt q), fun q => ⟨by omega, fun r => yes ?_, fun r => ⟨no ?_, rfl⟩⟩⟩⟩)
        · rw [cyes q, if_pos c]; exact decide_eq_true r
        · rw [cyes q, if_pos c]; exact decide_eq_false r
        · rw [cyes q, if_neg c]; exact decide_eq_true r
        · rw [cyes q, if_neg c]; exact decide_eq_false r
      refine s_Sights_agrees_2 _ _ _ (fun _ _ _ _ => ⟨fun c => absurd c (by omega), fun _ => ⟨by omega, fun c => at45 0 (Or.inl ⟨rfl, by omega⟩), fun c => ⟨by omega, fun c2 => at45 1 (Or.inr ⟨rfl, by omega⟩), fun c2 => ⟨by omega, fun c3 => at45 0 (Or.inl ⟨rfl, by omega⟩), fun c3 => at45 1 (Or.inr ⟨rfl, by omega⟩)⟩⟩⟩⟩)
  exact loop C 0 (by omega) rfl
theorem c_prepare (B : BW n D W br) (hb : isB b) (X : BX n D W br b m) (h1 : 1 ≤ n) (hhd : ∀ i, In n i → m (b + 1) i = hd i) (hh : ∀ i, In n i → 0 ≤ hd i ∧ hd i ≤ 99) (hr : m 55 9 ≠ 0 → EnR n W br hd (fun v p => m 61 (v * 5 + p))) : CV l G Y_Sights_prepare (d + 3) [.inr (.inr 55), .inr (.inr b)] m (fun m' => Fro 55 [61, 64, 65, 66] [9] m m' ∧ EnR n W br hd (fun v p => m' 61 (v * 5 + p)) ∧ m' 55 9 ≠ 0) := by
  have hn5 := B.1
  refine e_Sights_prepare b hb (fun _ => ⟨fun c => ?_, fun c => ⟨Fro.rf, hr c, c⟩⟩)
  have hlb : q_lay (b + 1) = .inr (0, 5) := by rcases hb with rfl | rfl <;> rfl
  rw [X.1]
  refine ⟨by omega, d, _, by omega, c_take (a := 64) (Or.inr (Or.inr (Or.inr rfl))) (h := b + 1) (len := 5) hlb (by decide) (by decide) (by rcases hb with rfl | rfl <;> decide) (by rcases hb with rfl | rfl <;> decide), fun m0 h0 _ => ⟨by omega, ?_⟩⟩
  obtain ⟨f0, t1, t2, t3⟩ := h0
  have t1' : ∀ i, In n i → m0 65 i = hd i := fun i hi => ((t1 i hi.1 (by omega)).1).trans (hhd i hi)
  have t4 : ∀ i, In n i → m0 66 i = 0 := fun i hi => (t1 i hi.1 (by omega)).2
  rintro m1 rfl
  -- before the calm of a guess
  have outer : ∀ (j : Nat) (v : Int) (m1 : MM), v + j = 31 → 0 ≤ v → Fr [61, 64, 65, 66] m m1 → (∀ w p, 0 ≤ w → w < v → In n p → ∃ u, Stb n W br (hvv n hd w) u ∧ m1 61 (w * 5 + p) = hvv n hd w p - Lp n W br u p) →
      (∃ u, (∀ w, Stb n W br (m1 65) w → Stb n W br (hvv n hd v) (fun i => u i + w i)) ∧ (∀ i, In n i → m1 65 i = hvv n hd v i - Lp n W br u i)) → (∀ i, In n i → 0 ≤ m1 65 i) → sm n (m1 65) ≤ 600 + v → (∀ i, In n i → 0 ≤ m1 66 i ∧ m1 66 i ≤ 30000 * v) → (0 ≤ m1 64 2 ∧ m1 64 2 ≤ 30000 * v) → (0 ≤ m1 64 3 ∧ m1 64 3 ≤ 30000 * v) →
      Wq l G false Y_Sights_prepare (d + 3) (QV fun m' => Fro 55 [61, 64, 65, 66] [9] m m' ∧ EnR n W br hd (fun v p => m' 61 (v * 5 + p)) ∧ m' 55 9 ≠ 0) 38 [(0, .inr (.inr 55)), (1, .inr (.inr b)), (2, .inl ((n : Int) - 1)), (3, .inl v)] [] m1 := by
    intro j
    induction j with
    | zero =>
      intro v m1 hvj v0 f hE hI hg hN ho ht hdr
      refine s_Sights_prepare_38 _ _ b hb (fun _ _ _ => ⟨fun _ => ?_, fun c => absurd (show v ≥ 31 by omega) c⟩)
      rintro m2 rfl
      refine ⟨Fro_upo ⟨fun c hc _ => f c hc, fun i _ => by rw [f 55 (by decide)]⟩ (by simp), fun w w0 w1 => ?_, by rw [up_at]; decide⟩
      obtain ⟨u, hu, -⟩ := hE w 0 w0 (by omega) (by omega)
      refine ⟨u, hu, fun p hp => ?_⟩
      show up m1 55 9 1 61 (w * 5 + p) = _
      rw [up_ne (by decide)]
      obtain ⟨u', hu', e'⟩ := hE w p w0 (by omega) hp
      rw [e', Lp_congr (hu'.uniq hu) p hp]
    | succ j ih =>
      intro v m1 hvj v0 f hE hI hg hN ho ht hdr
      have X1 : BX n D W br b m1 := X.fr f (by rcases hb with rfl | rfl <;> decide) (by rcases hb with rfl | rfl <;> decide) (by rcases hb with rfl | rfl <;> decide) (by rcases hb with rfl | rfl <;> decide)
      obtain ⟨u, hI1, hI2⟩ := hI
      refine s_Sights_prepare_38 _ _ b hb (fun _ _ _ => ⟨fun c => absurd c (by omega), fun _ => ⟨d + 2, _, by omega, c_calm (a := 64) (Or.inr (Or.inr (Or.inr rfl))) hb B X1 hg hN (by omega) (fun i hi => ?_) (by omega) (by omega), fun m2 h2 _ => ?_⟩⟩)
      · show -100000000 ≤ m1 66 i ∧ m1 66 i ≤ 100000000
        have := ho i hi
        omega
      obtain ⟨w, hw', cf, c1, -, c3, -, c5, c6⟩ := h2
      have hw : Stb n W br (m1 65) w := hw'
      have c1' : ∀ i, In n i → m2 65 i = m1 65 i - Lp n W br w i := c1
      have c3' : ∀ i, In n i → m2 66 i = m1 66 i + w i := c3
      have hw2 : Stb n W br (hvv n hd v) (fun i => u i + w i) := hI1 w hw
      have hcur : ∀ i, In n i → m2 65 i = hvv n hd v i - Lp n W br (fun i => u i + w i) i := fun i hi => by
        rw [c1' i hi, hI2 i hi, Lp_add]; omega
      have hnn : ∀ i, In n i → 0 ≤ m2 65 i := fun i hi => by rw [c1' i hi]; exact hw.nonneg B hg i hi
      have hdw := hw.drain B hg
      have hsw := (hw.way B hg).sum B hg hN
      have hw0 := sm_nonneg hw.1
      have hN2 : sm n (m2 65) ≤ 600 + v := by
        rw [sm_congr c1', sm_sub, Lp_sum B]
        omega
      have f2 : Fr [61, 64, 65, 66] m m2 := f.tr (cf.mono (by simp))
      have inner : ∀ (t : Nat) (x : Int) (m3 : MM), x + t = 5 → 0 ≤ x → Fr [61] m2 m3 → (∀ k, m3 61 k = if v * 5 ≤ k ∧ k < v * 5 + x then m2 65 (k - v * 5) else m2 61 k) →
          Wq l G false Y_Sights_prepare (d + 3) (QV fun m' => Fro 55 [61, 64, 65, 66] [9] m m' ∧ EnR n W br hd (fun v p => m' 61 (v * 5 + p)) ∧ m' 55 9 ≠ 0) 55 [(0, .inr (.inr 55)), (1, .inr (.inr b)), (2, .inl ((n : Int) - 1)), (3, .inl v), (4, .inl x)] [] m3 := by
        intro t
        induction t with
        | zero =>
          intro x m3 hxt x0 f3 hv3
          have e65 : m3 65 = m2 65 := f3 65 (by decide)
          have hin1 : In n ((n : Int) - 1) := by omega
          have hsm := sm_term hnn _ hin1
          have P1 : CV l G Y_Sand_put d [.inr (.inr 64), .inl ((n : Int) - 1), .inl 1] m3 (fun m' => m' = up m3 65 ((n : Int) - 1) (m3 65 ((n : Int) - 1) + 1)) := c_put (a := 64) (Or.inr (Or.inr (Or.inr rfl))) (by omega) (by show inR (m3 65 ((n : Int) - 1) + 1); rw [e65]; have := hnn _ hin1; constructor <;> omega)
          refine s_Sights_prepare_55 _ _ _ b hb (fun _ _ _ _ => ⟨fun _ => ⟨d, _, by omega, P1, fun m4 h4 _ => ⟨by omega, ?_⟩⟩, fun c => absurd (show x ≥ 5 by omega) c⟩)
          have v4 : ∀ i, m4 65 i = m2 65 i + (if i = (n : Int) - 1 then 1 else 0) := fun i => by
            rw [h4, up_row, e65]
            by_cases e : i = (n : Int) - 1
            · rw [if_pos e, if_pos e, e]
            · rw [if_neg e, if_neg e]; omega
          have f4 : Fr [61, 65] m2 m4 := by rw [h4]; exact Fr_up (f3.mono (by simp)) (by simp)
          have e61 : m4 61 = m3 61 := by rw [h4]; exact up_ne (by decide)
          have hplus : ∀ i, hvv n hd v i + (if i = (n : Int) - 1 then 1 else 0) = hvv n hd (v + 1) i := fun i => by
            unfold hvv
            by_cases e : i = (n : Int) - 1
            · rw [if_pos e, if_pos e, if_pos e]
            · rw [if_neg e, if_neg e, if_neg e]; omega
          refine ih (v + 1) m4 (by omega) (by omega) (f2.tr (f4.mono (by simp))) (fun w' p w0 w1 hp => ?_) ⟨fun i => u i + w i, fun w' hw' => ?_, fun i hi => ?_⟩ (fun i hi => ?_) ?_ (fun i hi => ?_) ?_ ?_
          · by_cases e : w' = v
            · refine ⟨_, by rw [e]; exact hw2, ?_⟩
              rw [e61, hv3, if_pos (by omega), show w' * 5 + p - v * 5 = p by omega, hcur p hp, e]
            · obtain ⟨u', k1, k2⟩ := hE w' p w0 (by omega) hp
              refine ⟨u', k1, ?_⟩
              rw [e61, hv3, if_neg (by omega), cf 61 (by decide)]
              exact k2
          · have he : ∀ i, In n i → 0 ≤ (if i = (n : Int) - 1 then (1 : Int) else 0) := fun i _ => by split <;> decide
            have hc := Stb.comp he hw2 (w := w') (hw'.congr (fun i hi => by rw [v4 i, hcur i hi]))
            exact hc.congr (fun i _ => hplus i)
          · rw [v4 i, hcur i hi, ← hplus i]; omega
          · rw [v4 i]
            have := hnn i hi
            split <;> omega
          · have : sm n (m4 65) = sm n (m2 65) + sm n (fun i => if i = (n : Int) - 1 then 1 else 0) := by rw [← sm_add]; exact sm_congr (fun i _ => v4 i)
            rw [this, sm_one, if_pos hin1]
            omega
          · rw [f4 66 (by decide), c3' i hi]
            have := ho i hi
            have := hw.1 i hi
            have := sm_term hw.1 i hi
            omega
          · rw [f4 64 (by decide), c5]; omega
          · rw [f4 64 (by decide), c6]; omega
        | succ t iht =>
          intro x m3 hxt x0 f3 hv3
          refine s_Sights_prepare_55 _ _ _ b hb (fun _ _ _ _ => ⟨fun c => absurd c (by omega), fun _ => ⟨by omega, by omega, by omega, by omega, ?_⟩⟩)
          rintro m4 rfl
          refine ⟨by omega, iht (x + 1) _ (by omega) (by omega) (Fr_up f3 (by simp)) (fun k => ?_)⟩
          rw [up_row, hv3 k, f3 65 (by decide)]
          by_cases e : k = v * 5 + x
          · rw [if_pos e, if_pos (by omega), show k - v * 5 = x by omega]
          · rw [if_neg e]
            by_cases e2 : v * 5 ≤ k ∧ k < v * 5 + x
            · rw [if_pos e2, if_pos (by omega)]
            · rw [if_neg e2, if_neg (by omega)]
      exact inner 5 0 m2 (by omega) (by omega) Fr.rf (fun k => by rw [if_neg (by omega)])
  have v1 : ∀ i, In n i → up m0 65 ((n : Int) - 1) 0 65 i = hvv n hd 0 i := fun i hi => by
    rw [up_row]
    unfold hvv
    by_cases e : i = (n : Int) - 1
    · rw [if_pos e, if_pos e]
    · rw [if_neg e, if_neg e]; exact t1' i hi
  have L0 : ∀ i, Lp n W br (fun _ => 0) i = 0 := fun i => by
    unfold Lp
    have : sm n (fun j => W i j * 0) = 0 := (sm_congr (fun j _ => Int.mul_zero _)).trans (sm_zero n)
    rw [this]; simp
  have hr0 := hvv_rng hn5 hh (v := 0) (by decide)
  refine outer 31 0 _ (by omega) (by omega) (Fr_up (f0.mono (by simp)) (by simp)) (fun w p w0 w1 _ => by omega) ⟨fun _ => 0, fun w hw => ?_, fun i hi => by rw [v1 i hi, L0]; omega⟩ (fun i hi => by rw [v1 i hi]; exact hr0.1 i hi) (by rw [sm_congr v1]; omega) (fun i hi => by rw [up_ne (by decide), t4 i hi]; decide) (by rw [up_ne (by decide), t2]; decide) (by rw [up_ne (by decide), t3]; decide)
  exact (hw.congr v1).congr' (fun i _ => by show w i = 0 + w i; omega)
/-- how many of the first guesses fit -/
def cntF (F : Int → Bool) (k : Nat) : Int := sm k (fun v => if F v = true then 1 else 0)
/-- the least and the greatest of the first guesses that fit -/
def LgR (F : Int → Bool) (k : Nat) (lo hi : Int) : Prop := (0 ≤ lo ∧ lo < (k : Int) ∧ F lo = true ∧ ∀ v, 0 ≤ v → v < lo → F v = false) ∧ (0 ≤ hi ∧ hi < (k : Int) ∧ F hi = true ∧ ∀ v, hi < v → v < (k : Int) → F v = false)
theorem cntF_zero {F : Int → Bool} {k : Nat} (h : cntF F k = 0) : ∀ v, 0 ≤ v → v < (k : Int) → F v = false := by
  intro v v0 v1
  have h1 := sm_term (n := k) (f := fun v => if F v = true then (1 : Int) else 0) (fun i _ => by split <;> decide) v ⟨v0, v1⟩
  have h2 : (if F v = true then (1 : Int) else 0) ≤ 0 := Int.le_trans h1 (Int.le_of_eq h)
  cases hF : F v with
  | false => rfl
  | true => rw [hF, if_pos rfl] at h2; omega
theorem c_weigh (B : BW n D W br) (hb : isB b) (X : BX n D W br b m) (hhd : ∀ i, In n i → m (b + 1) i = hd i) (hh : ∀ i, In n i → 0 ≤ hd i ∧ hd i ≤ 99) (hr : m 55 9 ≠ 0 → EnR n W br hd (fun v p => m 61 (v * 5 + p))) (S : SgW n (m 55 10) (m 56) (m 58) (m 60)) {k : Int} : CI l G Y_Sights_weigh (d + 4) [.inr (.inr 55), .inr (.inr b), .inl k] m (fun z m' => (n = 0 → z = 0 ∧ m = m') ∧ (1 ≤ n → ∃ F : Int → Bool, F = (fun v => ftk (fun v p => m' 61 (v * 5 + p)) (m 56) (m 57) (m 58) (m 59) (m 60) k v (m 55 10).toNat) ∧ Fro 55 [61, 62, 64, 65, 66] [9, 12, 13] m m' ∧ (EnR n W br hd (fun v p => m' 61 (v * 5 + p)) ∧ m' 55 9 ≠ 0) ∧ z = cntF F 31 ∧ (∀ v, 0 ≤ v → v < 31 → m' 62 v = if F v = true then 1 else 0) ∧ (z ≠ 0 → LgR F 31 (m' 55 12) (m' 55 13)))) := by
  have hn5 := B.1
  refine e_Sights_weigh k b hb (fun _ _ => ⟨fun c => ⟨d + 3, _, by omega, c_prepare B hb X (by rw [X.1] at c; omega) hhd hh hr, fun m1 h1 _ => ?_⟩, fun c => ⟨fun _ => ⟨rfl, rfl⟩, fun q => absurd (Classical.not_not.mp c) (by rw [X.1]; omega)⟩⟩)
  obtain ⟨f1, hE, h9⟩ := h1
  have e56 : m1 56 = m 56 := f1.1 56 (by decide) (by decide)
  have e57 : m1 57 = m 57 := f1.1 57 (by decide) (by decide)
  have e58 : m1 58 = m 58 := f1.1 58 (by decide) (by decide)
  have e59 : m1 59 = m 59 := f1.1 59 (by decide) (by decide)
  have e60 : m1 60 = m 60 := f1.1 60 (by decide) (by decide)
  have e10 : m1 55 10 = m 55 10 := f1.2 10 (by decide)
  generalize hF : (fun v => ftk (fun v p => m1 61 (v * 5 + p)) (m 56) (m 57) (m 58) (m 59) (m 60) k v (m 55 10).toNat) = F
  have loop : ∀ (j t : Nat) (m2 : MM), t + j = 31 → Fro 55 [62] [12, 13] m1 m2 → (∀ v, 0 ≤ v → v < (t : Int) → m2 62 v = if F v = true then 1 else 0) → (cntF F t ≠ 0 → LgR F t (m2 55 12) (m2 55 13)) → (0 ≤ cntF F t ∧ cntF F t ≤ t) →
      Wq l G false Y_Sights_weigh (d + 4) (QI fun z m' => (n = 0 → z = 0 ∧ m = m') ∧ (1 ≤ n → ∃ F : Int → Bool, F = (fun v => ftk (fun v p => m' 61 (v * 5 + p)) (m 56) (m 57) (m 58) (m 59) (m 60) k v (m 55 10).toNat) ∧ Fro 55 [61, 62, 64, 65, 66] [9, 12, 13] m m' ∧ (EnR n W br hd (fun v p => m' 61 (v * 5 + p)) ∧ m' 55 9 ≠ 0) ∧ z = cntF F 31 ∧ (∀ v, 0 ≤ v → v < 31 → m' 62 v = if F v = true then 1 else 0) ∧ (z ≠ 0 → LgR F 31 (m' 55 12) (m' 55 13)))) 19 [(0, .inr (.inr 55)), (2, .inl k), (3, .inl (cntF F t)), (4, .inl (t : Int))] [] m2 := by
    intro j
    induction j with
    | zero =>
      intro t m2 htj f2 h62 hlg hc
      have e : t = 31 := by omega
      subst e
      refine s_Sights_weigh_19 _ _ _ (fun _ _ _ _ => ⟨fun _ => ⟨fun q => absurd q (by rw [X.1] at c; omega), fun _ => ⟨F, ?_, (f1.mono (by simp) (by simp)).tr (f2.mono (by simp) (by simp)), ?_, rfl, h62, hlg⟩⟩, fun c => absurd (by decide) c⟩)
      · rw [f2.1 61 (by decide) (by decide)]
        exact hF.symm
      · rw [f2.1 61 (by decide) (by decide), f2.2 9 (by decide)]
        exact ⟨hE, h9⟩
    | succ j ih =>
      intro t m2 htj f2 h62 hlg hc
      have g56 : m2 56 = m 56 := (f2.1 56 (by decide) (by decide)).trans e56
      have g57 : m2 57 = m 57 := (f2.1 57 (by decide) (by decide)).trans e57
      have g58 : m2 58 = m 58 := (f2.1 58 (by decide) (by decide)).trans e58
      have g59 : m2 59 = m 59 := (f2.1 59 (by decide) (by decide)).trans e59
      have g60 : m2 60 = m 60 := (f2.1 60 (by decide) (by decide)).trans e60
      have g61 : m2 61 = m1 61 := f2.1 61 (by decide) (by decide)
      have g10 : m2 55 10 = m 55 10 := (f2.2 10 (by decide)).trans e10
      have S2 : SgW n (m2 55 10) (m2 56) (m2 58) (m2 60) := by rw [g10, g56, g58, g60]; exact S
      refine s_Sights_weigh_19 _ _ _ (fun _ _ _ _ => ⟨fun c => absurd c (by omega), fun _ => ⟨d, _, by omega, c_agrees hn5 S2 (by omega), fun z m3 hz _ _ => ?_⟩⟩)
      obtain ⟨hz, rfl⟩ := hz
      rw [g56, g57, g58, g59, g60, g61, g10] at hz
      have hz2 : z = if F (t : Int) = true then 1 else 0 := by rw [hz, ← hF]
      have cn : cntF F (t + 1) = cntF F t + (if F (t : Int) = true then 1 else 0) := rfl
      rw [hz2]
      cases hFt : F (t : Int) with
      | false =>
        rw [hFt, if_neg (by decide), Int.add_zero] at cn
        refine ⟨by omega, Or.inl rfl, ?_⟩
        rintro m3 rfl
        rw [up_at]
        refine ⟨by omega, fun _ => ⟨by omega, ?_⟩, fun c => absurd rfl c⟩
        rw [← cn]
        refine ih (t + 1) _ (by omega) (Fro_up f2 (by simp) (by decide)) (fun v v0 v1 => ?_) (fun q => ?_) (by omega)
        · rw [up_row]
          by_cases e : v = (t : Int)
          · rw [e, if_pos rfl, hFt]
          · rw [if_neg e]; exact h62 v v0 (by omega)
        · rw [cn] at q
          obtain ⟨⟨a1, a2, a3, a4⟩, b1, b2, b3, b4⟩ := hlg q
          rw [up_ne (by decide)]
          refine ⟨⟨a1, by omega, a3, a4⟩, b1, by omega, b3, fun v v0 v1 => ?_⟩
          by_cases e : v = (t : Int)
          · rw [e]; exact hFt
          · exact b4 v v0 (by omega)
      | true =>
        rw [hFt, if_pos rfl] at cn
        refine ⟨by omega, Or.inr rfl, ?_⟩
        rintro m3 rfl
        rw [up_at]
        have h62' : ∀ v, 0 ≤ v → v < ((t + 1 : Nat) : Int) → up m2 62 (t : Int) (if true = true then 1 else 0) 62 v = if F v = true then 1 else 0 := fun v v0 v1 => by
          rw [up_row]
          by_cases e : v = (t : Int)
          · rw [e, hFt, if_pos rfl]
          · rw [if_neg e]; exact h62 v v0 (by omega)
        have f3 : Fro 55 [62] [12, 13] m1 (up m2 62 (t : Int) (if true = true then 1 else 0)) := Fro_up f2 (by simp) (by decide)
        have e12 : up m2 62 (t : Int) (if true = true then 1 else 0) 55 12 = m2 55 12 := by rw [up_ne (by decide)]
        generalize up m2 62 (t : Int) (if true = true then 1 else 0) = m3 at h62' f3 e12
        refine ⟨by omega, fun c => absurd c (by decide), fun _ => ⟨fun c => ?_, fun c => ?_⟩⟩
        · rintro m4 rfl m5 rfl
          refine ⟨by omega, by omega, ?_⟩
          rw [← cn]
          obtain ⟨⟨a1, a2, a3, a4⟩, b1, b2, b3, b4⟩ := hlg c
          refine ih (t + 1) _ (by omega) (Fro_upo (Fro_upo f3 (by simp)) (by simp)) (fun v v0 v1 => by rw [up_ne (by decide), up_ne (by decide)]; exact h62' v v0 v1) (fun q => ?_) (by omega)
          rw [up_off (show (12 : Int) ≠ 13 by decide), up_at, up_at, e12]
          exact ⟨⟨a1, by omega, a3, a4⟩, by omega, by omega, hFt, fun v v0 v1 => by omega⟩
        · rintro m4 rfl m5 rfl
          refine ⟨by omega, by omega, ?_⟩
          have c0 : cntF F t = 0 := Classical.not_not.mp c
          rw [← cn]
          refine ih (t + 1) _ (by omega) (Fro_upo (Fro_upo f3 (by simp)) (by simp)) (fun v v0 v1 => by rw [up_ne (by decide), up_ne (by decide)]; exact h62' v v0 v1) (fun q => ?_) (by omega)
          rw [up_off (show (12 : Int) ≠ 13 by decide), up_at, up_at]
          exact ⟨⟨by omega, by omega, hFt, fun v v0 v1 => cntF_zero c0 v v0 v1⟩, by omega, by omega, hFt, fun v v0 v1 => by omega⟩
  exact loop 31 0 m1 (by omega) Fro.rf (fun v v0 v1 => by omega) (fun q => absurd rfl q) (by constructor <;> exact Int.le_refl 0)
end Sight
