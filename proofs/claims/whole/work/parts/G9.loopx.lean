/-! terms and sums read by the class -/
def StF (C : Prop) (T : Int → Int) (N w : Int) (S : Pile) (p u : Int) (cs : List Int) (p1 u1 : Int) (ns : List Int) : Prop :=
  u < u1 ∧ p ≤ p1 ∧ (ns.length : Int) + 1 + w ≤ 9 * (u1 - u) ∧ (∀ k, 0 ≤ k → k ≤ u → fW ns k (k + 1)) ∧ ((C → rkF (kd T N p1) ≠ 4) → ∀ R, Eo T N false S p1 u1 (cs ++ ns) R → Eo T N true S p u cs R) ∧ (C → rkF (kd T N p1) = 4 → Eo T N true S p u cs (.inl (2, plc T N p1)))
section LoopX
variable {l : Launch} {G : GT} {D : Nat} {b : Nat} {T : Int → Int} {N w : Int}
theorem fW_two {s k : Int} (hs : 10011 ≤ s ∧ s ≤ 10020) (hk : 0 ≤ k) : fW [s] (k + 1 + 1) (k + 1) := by
  unfold fW
  rw [if_neg (by omega), if_neg (by omega)]
  refine ⟨hs.2, by omega, ?_⟩
  show k + 1 + 1 - 1 = k + 1
  omega
theorem StF.comb {C C' : Prop} {S : Pile} {p u p1 u1 p2 u2 x : Int} {cs ns ns2 : List Int} (h : StF C T N w S p u cs p1 u1 ns) (hS : S ≠ []) (hk : rkF (kd T N p1) = x) (hx : x ≠ 4) (hx0 : 0 < x) (ht : ¬ (tpF S ≤ 6 ∧ x ≤ tpF S)) (g : StF C' T N w ((x, sgF (kd T N p1)) :: S) (en T N p1) u1 (cs ++ ns) p2 u2 ns2) (hr : rkF (kd T N p2) ≤ x ∨ (rkF (kd T N p2) = 4 ∧ C')) (h5 : x = 5 ∨ x = 6 ∨ C') (hw : 0 ≤ w) (hp : p1 ≤ en T N p1) (hu : 0 ≤ u) : StF C' T N w S p u cs p2 u2 (ns ++ ns2 ++ [sgF (kd T N p1)]) ∧ ∀ R, Eo T N true ((x, sgF (kd T N p1)) :: S) (en T N p1) u1 (cs ++ ns) R → Eo T N true S p u cs R := by
  obtain ⟨a1, a2, a3, a4, a5, a6⟩ := h
  obtain ⟨b1, b2, b3, b4, b5, b6⟩ := g
  have hsg := (rkF_rng (kd T N p1)).2.2.2 (by rw [hk]; exact hx0)
  have hx6 : x ≤ 6 := by have := (rkF_rng (kd T N p1)).2.1; omega
  have bin := Eo.bin hS hk hx0 (fun q => hx q.1) ht (a5 (fun _ => by rw [hk]; exact hx))
  refine ⟨⟨by omega, by omega, ?_, fun k k0 k1 => ?_, fun hc R hR => ?_, fun c hc => bin _ (b6 c hc)⟩, bin⟩
  · rw [List.length_append, List.length_append]
    show ((ns.length + ns2.length + 1 : Nat) : Int) + 1 + w ≤ 9 * (u2 - u)
    omega
  · exact fW_app (fW_app (a4 k k0 k1) (b4 (k + 1) (by omega) (by omega))) (fW_two hsg k0)
  · refine bin R (b5 hc R (Eo.popx hS hx6 ?_ ?_ ?_))
    · rcases hr with q | q
      · exact q
      · exact absurd q.1 (hc q.2)
    · rcases h5 with q | q | q
      · exact Or.inl q
      · exact Or.inr (Or.inl q)
      · exact Or.inr (Or.inr (hc q))
    · rw [← List.append_assoc, ← List.append_assoc] at hR
      exact hR
theorem c_productX {m : MM} {x : Int} : CI l G Y_Reader_product D [.inl x] m (fun z m' => z = (if rkF x = 6 then sgF x else -1) ∧ m = m') := by
  refine e_Reader_product x (fun _ _ => ⟨fun c => ⟨by rw [c]; decide, rfl⟩, fun c => ⟨by rw [c]; decide, rfl⟩, fun c => ⟨by rw [c]; decide, rfl⟩, fun c1 c2 c3 => ⟨?_, rfl⟩⟩)
  rw [if_neg]
  unfold rkF
  intro h
  split at h
  · omega
  · split at h
    · omega
    · split at h
      · omega
      · split at h
        · omega
        · split at h <;> omega
theorem c_relationX {m : MM} {x : Int} : CI l G Y_Reader_relation D [.inl x] m (fun z m' => z = (if rkF x = 4 then sgF x else -1) ∧ m = m') := by
  refine e_Reader_relation x (fun _ _ => ⟨fun c => ⟨by rw [c]; decide, rfl⟩, fun c => ⟨by rw [c]; decide, rfl⟩, fun c => ⟨by rw [c]; decide, rfl⟩, fun c1 c2 c3 => ⟨?_, rfl⟩⟩)
  rw [if_neg]
  unfold rkF
  intro h
  split at h
  · omega
  · split at h
    · omega
    · split at h
      · omega
      · split at h
        · omega
        · split at h <;> omega
/-- at the head of a loop -/
def LhX (A : Int → Prop) (C : Prop) (T : Int → Int) (N : Int) (b : Nat) (w : Int) (S : Pile) (p u : Int) (cs : List Int) (m : MM) (i : Int) (m1 : MM) : Prop :=
  FrX b m m1 ∧ ((∃ f, Eo T N true S p u cs (.inl f) ∧ FaX b f m1) ∨ ∃ p1 u1 ns, FxS T N b p1 u1 (cs ++ ns) m1 ∧ StF C T N w S p u cs p1 u1 ns ∧ A (rkF (kd T N p1)) ∧ u + 1 + i ≤ u1)
theorem PxF.lh {A : Int → Prop} {C : Prop} {S : Pile} {p u : Int} {cs : List Int} {m m1 : MM} (h : PxF A C T N b w S p u cs m m1) : LhX A C T N b w S p u cs m 0 m1 := by
  obtain ⟨h0, h⟩ := h
  refine ⟨h0, ?_⟩
  rcases h with h | ⟨p', u', ns, h1, h2, h3, h4, h5, h6, h7, h8⟩
  · exact Or.inl h
  · exact Or.inr ⟨p', u', ns, h1, ⟨h2, h3, h4, h5, h7, h8⟩, h6, by omega⟩
theorem LhX.px {A A' : Int → Prop} {C : Prop} {S : Pile} {p u i : Int} {cs : List Int} {m m1 : MM} (h : LhX A C T N b w S p u cs m i m1) (hA : ∀ p1, m1 2 6 = 0 → m1 3 4 = kd T N p1 → A (rkF (kd T N p1)) → A' (rkF (kd T N p1))) : PxF A' C T N b w S p u cs m m1 := by
  obtain ⟨h0, h⟩ := h
  refine ⟨h0, ?_⟩
  rcases h with h | ⟨p', u', ns, h1, ⟨h2, h3, h4, h5, h7, h8⟩, h6, -⟩
  · exact Or.inl h
  · exact Or.inr ⟨p', u', ns, h1, h2, h3, h4, h5, hA p' h1.2.1 h1.1.2.2.2.1 h6, h7, h8⟩
/-- one more part, with its sign -/
theorem LhX.step {A' : Int → Prop} {C C' : Prop} {S : Pile} {p u i x p1 u1 : Int} {cs ns : List Int} {m m1 m2 m3 : MM} (f1 : FrX b m m1) (F1 : FxS T N b p1 u1 (cs ++ ns) m1) (hst : StF C T N w S p u cs p1 u1 ns) (hi : u + 1 + i ≤ u1) (hS : S ≠ []) (hk : rkF (kd T N p1) = x) (hx : x ≠ 4) (hx0 : 0 < x) (ht : ¬ (tpF S ≤ 6 ∧ x ≤ tpF S)) (h5 : x = 5 ∨ x = 6 ∨ C') (hw : 0 ≤ w) (hu : 0 ≤ u) (hA : ∀ r, A' r → 0 ≤ r → r ≤ 6 → r ≠ 3 → (r ≤ x ∨ (r = 4 ∧ C')))
    (f2 : Fro 3 [] [3, 4, 5, 6] m1 m2) (h3 : PxF A' C' T N b w ((x, sgF (kd T N p1)) :: S) (en T N p1) u1 (cs ++ ns) m2 m3) : (∃ f, Eo T N true S p u cs (.inl f) ∧ FaX b f m3 ∧ FrX b m m3) ∨ ∃ p2 u2 ns2, FrX b m m3 ∧ FxS T N b p2 u2 (cs ++ ns ++ ns2) m3 ∧ ((cs ++ ns ++ ns2).length : Int) + 1 ≤ 9 * u2 ∧ ∀ m4, FrX b m3 m4 → FxS T N b p2 u2 (cs ++ ns ++ ns2 ++ [sgF (kd T N p1)]) m4 → LhX A' C' T N b w S p u cs m (i + 1) m4 := by
  have tr := tk_rng (T := T) F1.1.2.1
  have hp : p1 ≤ en T N p1 := by omega
  have hlen1 := F1.2.2.2.2.2.2
  obtain ⟨f3, h3⟩ := h3
  have fr3 : FrX b m m3 := f1.tr ((FrX.next f2).tr f3)
  rcases h3 with ⟨f, he, hf⟩ | ⟨p2, u2, ns2, F3, g1, g2, g3, g4, g5, g6, g7⟩
  · have bin := Eo.bin hS hk hx0 (fun q => hx q.1) ht (hst.2.2.2.2.1 (fun _ => by rw [hk]; exact hx))
    exact Or.inl ⟨f, bin _ he, hf, fr3⟩
  · have hrk := rkF_rng (kd T N p2)
    obtain ⟨c1, c2⟩ := hst.comb hS hk hx hx0 ht ⟨g1, g2, g3, g4, g6, g7⟩ (hA _ g5 hrk.1 hrk.2.1 hrk.2.2.1) h5 hw hp hu
    refine Or.inr ⟨p2, u2, ns2, fr3, F3, ?_, fun m4 f4 F4 => ⟨fr3.tr f4, Or.inr ⟨p2, u2, ns ++ ns2 ++ [sgF (kd T N p1)], ?_, c1, g5, by omega⟩⟩⟩
    · have e : ((cs ++ ns ++ ns2).length : Int) = (cs ++ ns).length + ns2.length := by rw [List.length_append]; omega
      omega
    · have e : cs ++ (ns ++ ns2 ++ [sgF (kd T N p1)]) = cs ++ ns ++ ns2 ++ [sgF (kd T N p1)] := by
        simp only [List.append_assoc]
      rw [e]; exact F4
def rdT (l : Launch) (G : GT) (T : Int → Int) (N : Int) (b : Nat) (w : Int) (D : Nat) : Prop := ∀ (S : Pile) (p u : Int) (cs : List Int) (m : MM), S ≠ [] → wnF S = w → (tpF S ≤ 5 ∨ 7 ≤ tpF S) → (kd T N p = 110 → ¬ (tpF S ≤ 3 ∨ 7 ≤ tpF S)) → FxS T N b p u cs m → CV l G Y_Reader_readTerm D [.inr (.inr 2), .inl w] m (PxF (fun r => r ≠ 6) False T N b w S p u cs m)
def rdS (l : Launch) (G : GT) (T : Int → Int) (N : Int) (b : Nat) (w : Int) (D : Nat) : Prop := ∀ (S : Pile) (p u : Int) (cs : List Int) (m : MM), S ≠ [] → wnF S = w → (tpF S ≤ 4 ∨ 7 ≤ tpF S) → (kd T N p = 110 → ¬ (tpF S ≤ 3 ∨ 7 ≤ tpF S)) → FxS T N b p u cs m → CV l G Y_Reader_readSum D [.inr (.inr 2), .inl w] m (PxF (fun r => r ≠ 6 ∧ r ≠ 5) False T N b w S p u cs m)
theorem term_of {D' : Nat} (hG : GVok G) (hw : 0 ≤ w ∧ w ≤ 7) (hU : rdU l G T N b w D') (hD' : D' < D) (hD : 5 < D) : rdT l G T N b w D := by
  intro S p u cs m hS hwn htop hn h
  have hu0 := h.2.2.2.2.1.2.1
  generalize hQ : PxF (fun r => r ≠ 6) False T N b w S p u cs m = Q
  have loop : ∀ (s : Nat) (i : Int) (m1 : MM), i + s = 30 → 0 ≤ i → LhX (fun _ => True) False T N b w S p u cs m i m1 → Wq l G false Y_Reader_readTerm D (QV Q) 18 [(0, .inr (.inr 2)), (1, .inl w), (2, .inl (if rkF (m1 3 4) = 6 then sgF (m1 3 4) else -1)), (3, .inl i)] [] m1 := by
    intro s
    induction s with
    | zero =>
      intro i m1 hi i0 hL
      have hq : Q m1 := by
        rw [← hQ]
        refine hL.px (fun p1 h6 _ _ => ?_)
        exfalso
        obtain ⟨-, hL⟩ := hL
        rcases hL with ⟨f, -, hf⟩ | ⟨p1, u1, ns, F1, -, -, hi1⟩
        · exact hf.2.2.1 (by rw [← hf.1]; exact h6)
        · have := F1.2.2.2.2.1.2.2; omega
      exact s_Reader_readTerm_18 _ _ _ (fun _ _ _ _ => ⟨fun _ => hq, fun c => absurd (show i ≥ 30 by omega) c⟩)
    | succ s ih =>
      intro i m1 hi i0 hL
      have hL0 := hL
      obtain ⟨f1, hL⟩ := hL
      rcases hL with ⟨f, he, hf⟩ | ⟨p1, u1, ns, F1, hst, -, hi1⟩
      · have hq : Q m1 := by rw [← hQ]; exact ⟨f1, Or.inl ⟨f, he, hf⟩⟩
        exact s_Reader_readTerm_18 _ _ _ (fun _ _ _ _ => ⟨fun _ => hq, fun _ => ⟨fun _ => hq, fun c => absurd (by rw [hf.1]; exact hf.2.2.1) c⟩⟩)
      · have k4 := F1.1.2.2.2.1
        rw [k4]
        refine s_Reader_readTerm_18 _ _ _ (fun _ _ _ _ => ⟨fun c => by omega, fun _ => ⟨fun c => absurd F1.2.1 c, fun _ => ⟨fun c => ?_, fun c => ?_⟩⟩⟩)
        · rw [← hQ]
          refine hL0.px (fun p2 _ e2 _ => ?_)
          rw [← e2, k4]
          intro r6
          rw [if_pos r6] at c
          have := (rkF_rng (kd T N p1)).2.2.2 (by omega)
          omega
        · have r6 : rkF (kd T N p1) = 6 := Classical.not_not.mp (fun q => c (if_neg q))
          rw [if_pos r6]
          refine ⟨4, _, by omega, c_nextX2 (d := 0) hG F1.1, fun m2 h2 _ => ?_⟩
          have F2 := F1.next h2.1 h2.2
          have hsub := hU ((6, sgF (kd T N p1)) :: S) (en T N p1) u1 (cs ++ ns) m2 (by simp) (by rw [wn_push (by decide) (by decide)]; exact hwn) (fun _ q => by
            have q' : (6 : Int) ≤ 3 ∨ (7 : Int) ≤ 6 := q
            omega) F2
          refine ⟨D', _, hD', hsub, fun m3 h3 _ => ?_⟩
          rcases LhX.step (i := i) f1 F1 hst hi1 hS r6 (by decide) (by decide) (by omega) (Or.inr (Or.inl rfl)) hw.1 hu0 (fun r _ _ h6 _ => Or.inl h6) h2.1 h3 with ⟨f, he, hf, fr3⟩ | ⟨p2, u2, ns2, fr3, F3, hl3, nxt⟩
          · refine ⟨b, hf.2.2.2.1.1, hf.2.2.2.1.2, 4, _, by omega, c_addFX hf, fun m4 h4 _ => ?_⟩
            refine ⟨4, _, by omega, c_productX, fun z m5 hz _ _ => ?_⟩
            obtain ⟨rfl, rfl⟩ := hz
            exact ⟨by unfold inR; omega, ih (i + 1) m4 (by omega) (by omega) ⟨fr3.tr h4.1, Or.inl ⟨f, he, h4.2⟩⟩⟩
          · refine ⟨b, F3.2.2.2.1.1, F3.2.2.2.1.2, 4, _, by omega, c_addX F3 hl3, fun m4 h4 _ => ?_⟩
            refine ⟨4, _, by omega, c_productX, fun z m5 hz _ _ => ?_⟩
            obtain ⟨rfl, rfl⟩ := hz
            exact ⟨by unfold inR; omega, ih (i + 1) m4 (by omega) (by omega) (nxt m4 h4.1 h4.2)⟩
  refine e_Reader_readTerm w (fun _ _ => ⟨D', _, hD', hU S p u cs m hS hwn hn h, fun m1 h1 _ => ?_⟩)
  refine ⟨4, _, by omega, c_productX, fun z m2 hz _ _ => ?_⟩
  obtain ⟨rfl, rfl⟩ := hz
  exact loop 30 0 m1 (by omega) (Int.le_refl 0) h1.lh
theorem sum_of {D' : Nat} (hG : GVok G) (hw : 0 ≤ w ∧ w ≤ 7) (hU : rdT l G T N b w D') (hD' : D' < D) (hD : 5 < D) : rdS l G T N b w D := by
  intro S p u cs m hS hwn htop hn h
  have hu0 := h.2.2.2.2.1.2.1
  generalize hQ : PxF (fun r => r ≠ 6 ∧ r ≠ 5) False T N b w S p u cs m = Q
  have loop : ∀ (s : Nat) (i : Int) (m1 : MM), i + s = 30 → 0 ≤ i → LhX (fun r => r ≠ 6) False T N b w S p u cs m i m1 → Wq l G false Y_Reader_readSum D (QV Q) 7 [(0, .inr (.inr 2)), (1, .inl w), (2, .inl i)] [] m1 := by
    intro s
    induction s with
    | zero =>
      intro i m1 hi i0 hL
      have hq : Q m1 := by
        rw [← hQ]
        refine hL.px (fun p1 h6 _ _ => ?_)
        exfalso
        obtain ⟨-, hL⟩ := hL
        rcases hL with ⟨f, -, hf⟩ | ⟨p1, u1, ns, F1, -, -, hi1⟩
        · exact hf.2.2.1 (by rw [← hf.1]; exact h6)
        · have := F1.2.2.2.2.1.2.2; omega
      exact s_Reader_readSum_7 _ _ (fun _ _ _ => ⟨fun _ => hq, fun c => absurd (show i ≥ 30 by omega) c⟩)
    | succ s ih =>
      intro i m1 hi i0 hL
      have hL0 := hL
      obtain ⟨f1, hL⟩ := hL
      rcases hL with ⟨f, he, hf⟩ | ⟨p1, u1, ns, F1, hst, hA1, hi1⟩
      · have hq : Q m1 := by rw [← hQ]; exact ⟨f1, Or.inl ⟨f, he, hf⟩⟩
        exact s_Reader_readSum_7 _ _ (fun _ _ _ => ⟨fun _ => hq, fun _ => ⟨fun _ => hq, fun c => absurd (by rw [hf.1]; exact hf.2.2.1) c⟩⟩)
      · have k4 := F1.1.2.2.2.1
        have fin : kd T N p1 ≠ 43 → kd T N p1 ≠ 45 → Q m1 := fun n1 n2 => by
          rw [← hQ]
          refine hL0.px (fun p2 _ e2 h6 => ⟨h6, ?_⟩)
          rw [← e2, k4]
          intro r5
          have := (cOf_sg (Or.inr (Or.inl r5))).1
          unfold rkF at r5
          split at r5
          · omega
          · split at r5
            · omega
            · split at r5
              · omega
              · rw [if_neg (by omega)] at r5
                split at r5 <;> omega
        have go : ∀ sg : Int, rkF (kd T N p1) = 5 → sg = sgF (kd T N p1) → ∃ (e21 : Nat) (P22 : MM → Prop), e21 < D ∧ CV l G Y_Tokens_next e21 [.inr (.inr 3)] m1 P22 ∧ (∀ m28, P22 m28 → wfM m28 → (∃ (e32 : Nat) (P33 : MM → Prop), e32 < D ∧ CV l G Y_Reader_readTerm e32 [.inr (.inr 2), .inl w] m28 P33 ∧ (∀ m39, P33 m39 → wfM m39 → (∃ b43 : Nat, m39 2 2 = b43 ∧ isB b43 ∧ (∃ (e47 : Nat) (P48 : MM → Prop), e47 < D ∧ CV l G Y_Formula_add e47 [.inr (.inr (b43 + 6)), .inl sg] m39 P48 ∧ (∀ m54, P48 m54 → wfM m54 → ((inR (i + 1)) ∧ (Wq l G false Y_Reader_readSum D (QV Q) 7 [(0, .inr (.inr 2)), (1, .inl w), (2, .inl (i + 1))] [] m54)))))))) := by
          intro sg r5 hsg
          subst hsg
          refine ⟨4, _, by omega, c_nextX2 (d := 0) hG F1.1, fun m2 h2 _ => ?_⟩
          have F2 := F1.next h2.1 h2.2
          have hsub := hU ((5, sgF (kd T N p1)) :: S) (en T N p1) u1 (cs ++ ns) m2 (by simp) (by rw [wn_push (by decide) (by decide)]; exact hwn) (Or.inl (by show (5 : Int) ≤ 5; decide)) (fun _ q => by
            have q' : (5 : Int) ≤ 3 ∨ (7 : Int) ≤ 5 := q
            omega) F2
          refine ⟨D', _, hD', hsub, fun m3 h3 _ => ?_⟩
          rcases LhX.step (i := i) f1 F1 hst hi1 hS r5 (by decide) (by decide) (by omega) (Or.inl rfl) hw.1 hu0 (fun r h6 _ h66 _ => Or.inl (by omega)) h2.1 h3 with ⟨f, he, hf, fr3⟩ | ⟨p2, u2, ns2, fr3, F3, hl3, nxt⟩
          · refine ⟨b, hf.2.2.2.1.1, hf.2.2.2.1.2, 4, _, by omega, c_addFX hf, fun m4 h4 _ => ?_⟩
            exact ⟨by unfold inR; omega, ih (i + 1) m4 (by omega) (by omega) ⟨fr3.tr h4.1, Or.inl ⟨f, he, h4.2⟩⟩⟩
          · refine ⟨b, F3.2.2.2.1.1, F3.2.2.2.1.2, 4, _, by omega, c_addX F3 hl3, fun m4 h4 _ => ?_⟩
            exact ⟨by unfold inR; omega, ih (i + 1) m4 (by omega) (by omega) (nxt m4 h4.1 h4.2)⟩
        refine s_Reader_readSum_7 _ _ (fun _ _ _ => ?_)
        rw [k4]
        refine ⟨fun c => by omega, fun _ => ⟨fun c => absurd F1.2.1 c, fun _ => ⟨fun c43 => ⟨fun c => absurd c43 c, fun _ => go 10016 (by rw [c43]; decide) (by rw [c43]; decide)⟩, fun c43 => ⟨fun c45 => fin c43 c45, fun c45 => ⟨fun _ => go 10017 (by rw [Classical.not_not.mp c45]; decide) (by rw [Classical.not_not.mp c45]; decide), fun c => absurd c43 c⟩⟩⟩⟩⟩
  refine e_Reader_readSum w (fun _ _ => ⟨D', _, hD', hU S p u cs m hS hwn (by omega) hn h, fun m1 h1 _ => ?_⟩)
  exact loop 30 0 m1 (by omega) (Int.le_refl 0) h1.lh
end LoopX
