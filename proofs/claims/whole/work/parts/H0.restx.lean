/-! the rest of a formula read by the class -/
section RestX
variable {l : Launch} {G : GT} {D : Nat} {b : Nat} {T : Int → Int} {N w : Int}
theorem cmpd_top {S : Pile} (h : tpF S ≤ 3 ∨ 7 ≤ tpF S) : ¬ cmpd S := by
  match S with
  | [] => exact fun q => q
  | e :: S =>
    have h : e.1 ≤ 3 ∨ 7 ≤ e.1 := h
    intro q
    rcases q with q | q
    · have := q.1; omega
    · omega
def rdO (l : Launch) (G : GT) (T : Int → Int) (N : Int) (b : Nat) (w : Int) (D : Nat) : Prop := ∀ (S : Pile) (p u : Int) (cs : List Int) (m : MM), S ≠ [] → wnF S = w → (tpF S ≤ 3 ∨ 7 ≤ tpF S) → FxS T N b p u cs m → CV l G Y_Reader_readOne D [.inr (.inr 2), .inl w] m (PxF (fun r => r ≠ 6 ∧ r ≠ 5) True T N b w S p u cs m)
def rdB (l : Launch) (G : GT) (T : Int → Int) (N : Int) (b : Nat) (w : Int) (D : Nat) : Prop := ∀ (S : Pile) (p u : Int) (cs : List Int) (m : MM), S ≠ [] → wnF S = w → (tpF S ≤ 1 ∨ 7 ≤ tpF S) → FxS T N b p u cs m → CV l G Y_Reader_readBoth D [.inr (.inr 2), .inl w] m (PxF (fun r => r ≠ 6 ∧ r ≠ 5 ∧ r ≠ 2) True T N b w S p u cs m)
theorem one_of {D' D'' : Nat} (hG : GVok G) (hw : 0 ≤ w ∧ w ≤ 7) (hU : rdS l G T N b w D') (hD' : D' < D) (hO : w < 7 → rdO l G T N b (w + 1) D'') (hD'' : D'' + 1 < D) (hD : 5 < D) : rdO l G T N b w D := by
  intro S p u cs m hS hwn htop h
  have hu0 := h.2.2.2.2.1.2.1
  have k4 := h.1.2.2.2.1
  have k5 := h.1.2.2.2.2.1
  have tr := tk_rng (T := T) h.1.2.1
  generalize hQ : PxF (fun r => r ≠ 6 ∧ r ≠ 5) True T N b w S p u cs m = Q
  have ft : ∀ {f : Int × Int} {m1 : MM}, Eo T N true S p u cs (.inl f) → FaX b f m1 → FrX b m m1 → Q m1 := fun he hf hr => by
    rw [← hQ]
    exact ⟨hr, Or.inl ⟨_, he, hf⟩⟩
  refine e_Reader_readOne w (fun _ _ => ?_)
  rw [k4]
  refine ⟨fun c110 => ⟨D', _, hD', hU S p u cs m hS hwn (by omega) (fun q => absurd q c110) h, fun m1 h1 _ => ⟨4, _, by omega, c_relationX, fun z m2 hz _ _ => ?_⟩⟩, fun c110 => ⟨D - 1, Q, by omega, e_Reader_readNot w (fun _ _ => ?_), fun m1 h1 _ => h1⟩⟩
  · obtain ⟨rfl, rfl⟩ := hz
    obtain ⟨f1, h1⟩ := h1
    rcases h1 with ⟨f, he, hf⟩ | ⟨p1, u1, ns, F1, a1, a2, a3, a4, a5, a6, a7⟩
    · exact ⟨fun _ => ft he hf f1, fun c => absurd (by rw [hf.1]; exact hf.2.2.1) c⟩
    · have j4 := F1.1.2.2.2.1
      rw [j4]
      have im := a6 (fun c => c.elim)
      refine ⟨fun c => absurd F1.2.1 c, fun _ => ⟨fun c => ?_, fun c => ?_⟩⟩
      · have r4 : rkF (kd T N p1) ≠ 4 := fun q => by
          rw [if_pos q] at c
          have := (rkF_rng (kd T N p1)).2.2.2 (by omega)
          omega
        rw [← hQ]
        exact ⟨f1, Or.inr ⟨p1, u1, ns, F1, a1, a2, a3, a4, a5, fun _ => im, fun _ q => absurd q r4⟩⟩
      · have r4 : rkF (kd T N p1) = 4 := Classical.not_not.mp (fun q => c (if_neg q))
        rw [if_pos r4]
        have hsg := (rkF_rng (kd T N p1)).2.2.2 (by omega)
        have tr1 := tk_rng (T := T) F1.1.2.1
        have bin : ∀ R, Eo T N true ((4, sgF (kd T N p1)) :: S) (en T N p1) u1 (cs ++ ns) R → Eo T N true S p u cs R := Eo.bin hS r4 (by decide) (fun q => cmpd_top htop q.2) (by omega) im
        refine ⟨4, _, by omega, c_nextX2 (d := 0) hG F1.1, fun m2 h2 _ => ?_⟩
        have F2 := F1.next h2.1 h2.2
        have hsub := hU ((4, sgF (kd T N p1)) :: S) (en T N p1) u1 (cs ++ ns) m2 (by simp) (by rw [wn_push (by decide) (by decide)]; exact hwn) (Or.inl (by show (4 : Int) ≤ 4; decide)) (fun _ q => by
          have q' : (4 : Int) ≤ 3 ∨ (7 : Int) ≤ 4 := q
          omega) F2
        refine ⟨D', _, hD', hsub, fun m3 h3 _ => ?_⟩
        obtain ⟨f3, h3⟩ := h3
        have fr3 : FrX b m m3 := f1.tr ((FrX.next h2.1).tr f3)
        rcases h3 with ⟨f, he, hf⟩ | ⟨p2, u2, ns2, F3, g1, g2, g3, g4, g5, g6, g7⟩
        · refine ⟨b, hf.2.2.2.1.1, hf.2.2.2.1.2, 4, _, by omega, c_addFX hf, fun m4 h4 _ => ft (bin _ he) h4.2 (fr3.tr h4.1)⟩
        · have hl1 := F1.2.2.2.2.2.2
          have hl3 : ((cs ++ ns ++ ns2).length : Int) + 1 ≤ 9 * u2 := by
            have e : ((cs ++ ns ++ ns2).length : Int) = (cs ++ ns).length + ns2.length := by rw [List.length_append]; omega
            omega
          have hr2 := rkF_rng (kd T N p2)
          refine ⟨b, F3.2.2.2.1.1, F3.2.2.2.1.2, 4, _, by omega, c_addX F3 hl3, fun m4 h4 _ => ?_⟩
          have e : cs ++ (ns ++ ns2 ++ [sgF (kd T N p1)]) = cs ++ ns ++ ns2 ++ [sgF (kd T N p1)] := by simp only [List.append_assoc]
          rw [← hQ]
          refine ⟨fr3.tr h4.1, Or.inr ⟨p2, u2, ns ++ ns2 ++ [sgF (kd T N p1)], by rw [e]; exact h4.2, by omega, by omega, ?_, fun k k0 k1 => fW_app (fW_app (a4 k k0 k1) (g4 (k + 1) (by omega) (by omega))) (fW_two hsg k0), g5, fun hc R hR => ?_, fun _ q4 => ?_⟩⟩
          · rw [List.length_append, List.length_append]
            show ((ns.length + ns2.length + 1 : Nat) : Int) + 1 + w ≤ 9 * (u2 - u)
            omega
          · have n4 := hc trivial
            rw [e] at hR
            exact bin R (g6 (fun c => c.elim) R (Eo.popx hS (by decide) (by omega) (Or.inr (Or.inr n4)) hR))
          · exact bin _ (g6 (fun c => c.elim) _ (Eo.twice q4 (Or.inr rfl)))
  rw [k5]
  refine ⟨fun c6 => ?_, fun c6 => ⟨4, _, by omega, c_tellX h.2.1, fun m1 e1 _ => ?_⟩⟩
  · -- a not
    have k110 : kd T N p = 110 := Classical.not_not.mp c110
    have nt : ∀ R, Eo T N true ((3, 10010) :: S) (en T N p) u cs R → Eo T N true S p u cs R := fun R hR => Eo.not k110 htop (by omega) hR
    refine ⟨4, _, by omega, c_nextX2 (d := 0) hG h.1, fun m2 h2 _ => ⟨by unfold inR; omega, ?_⟩⟩
    have F2 := h.next h2.1 h2.2
    have hwn1 : wnF ((3, 10010) :: S) = w + 1 := by
      show (if (3 : Int) = 3 ∨ (3 : Int) = 7 then 1 else 0) + wnF S = w + 1
      rw [if_pos (Or.inl rfl)]; omega
    refine ⟨D'', _, by omega, hO (by omega) ((3, 10010) :: S) (en T N p) u cs m2 (by simp) hwn1 (Or.inl (by show (3 : Int) ≤ 3; decide)) F2, fun m3 h3 _ => ?_⟩
    obtain ⟨f3, h3⟩ := h3
    have fr3 : FrX b m m3 := (FrX.next h2.1).tr f3
    rcases h3 with ⟨f, he, hf⟩ | ⟨p2, u2, ns2, F3, g1, g2, g3, g4, g5, g6, g7⟩
    · exact ⟨b, hf.2.2.2.1.1, hf.2.2.2.1.2, 4, _, by omega, c_addFX hf, fun m4 h4 _ => ft (nt _ he) h4.2 (fr3.tr h4.1)⟩
    · have hl1 := h.2.2.2.2.2.2
      have hl3 : ((cs ++ ns2).length : Int) + 1 ≤ 9 * u2 := by
        have e : ((cs ++ ns2).length : Int) = cs.length + ns2.length := by rw [List.length_append]; omega
        omega
      have hr2 := rkF_rng (kd T N p2)
      refine ⟨b, F3.2.2.2.1.1, F3.2.2.2.1.2, 4, _, by omega, c_addX F3 hl3, fun m4 h4 _ => ?_⟩
      have e : cs ++ (ns2 ++ [10010]) = cs ++ ns2 ++ [10010] := by simp only [List.append_assoc]
      rw [← hQ]
      refine ⟨fr3.tr h4.1, Or.inr ⟨p2, u2, ns2 ++ [10010], by rw [e]; exact h4.2, g1, by omega, ?_, fun k k0 k1 => fW_app (g4 k k0 k1) ?_, g5, fun hc R hR => ?_, fun _ q4 => nt _ (g7 trivial q4)⟩⟩
      · rw [List.length_append]
        show ((ns2.length + 1 : Nat) : Int) + 1 + w ≤ 9 * (u2 - u)
        omega
      · unfold fW
        rw [if_neg (by decide), if_pos rfl]
        exact ⟨by omega, rfl⟩
      · have n4 := hc trivial
        rw [e] at hR
        exact nt R (g6 (fun _ => n4) R (Eo.popx hS (by decide) (by omega) (Or.inr (Or.inr n4)) hR))
  · have k110 : kd T N p = 110 := Classical.not_not.mp c110
    obtain ⟨g1, g2⟩ := h.fault e1 (by decide)
    exact ft (Eo.not_deep k110 htop (by omega)) g1 g2
theorem both_of {D' : Nat} (hG : GVok G) (hw : 0 ≤ w ∧ w ≤ 7) (hU : rdO l G T N b w D') (hD' : D' < D) (hD : 5 < D) : rdB l G T N b w D := by
  intro S p u cs m hS hwn htop h
  have hu0 := h.2.2.2.2.1.2.1
  generalize hQ : PxF (fun r => r ≠ 6 ∧ r ≠ 5 ∧ r ≠ 2) True T N b w S p u cs m = Q
  have loop : ∀ (s : Nat) (i : Int) (m1 : MM), i + s = 30 → 0 ≤ i → LhX (fun r => r ≠ 6 ∧ r ≠ 5) True T N b w S p u cs m i m1 → Wq l G false Y_Reader_readBoth D (QV Q) 7 [(0, .inr (.inr 2)), (1, .inl w), (2, .inl i)] [] m1 := by
    intro s
    induction s with
    | zero =>
      intro i m1 hi i0 hL
      have hq : Q m1 := by
        rw [← hQ]
        refine hL.px (fun p1 h6 _ _ => ?_)
        exfalso
        obtain ⟨-, hL⟩ := hL
        rcases hL with ⟨f, -, hf⟩ | ⟨p1, u1, ns, F1, -, -, hi1⟩
        · exact hf.2.2.1 (by rw [← hf.1]; exact h6)
        · have := F1.2.2.2.2.1.2.2; omega
      exact s_Reader_readBoth_7 _ _ (fun _ _ _ => ⟨fun _ => hq, fun c => absurd (show i ≥ 30 by omega) c⟩)
    | succ s ih =>
      intro i m1 hi i0 hL
      have hL0 := hL
      obtain ⟨f1, hL⟩ := hL
      rcases hL with ⟨f, he, hf⟩ | ⟨p1, u1, ns, F1, hst, hA1, hi1⟩
      · have hq : Q m1 := by rw [← hQ]; exact ⟨f1, Or.inl ⟨f, he, hf⟩⟩
        exact s_Reader_readBoth_7 _ _ (fun _ _ _ => ⟨fun _ => hq, fun _ => ⟨fun _ => hq, fun c => absurd (by rw [hf.1]; exact hf.2.2.1) c⟩⟩)
      · have k4 := F1.1.2.2.2.1
        refine s_Reader_readBoth_7 _ _ (fun _ _ _ => ?_)
        rw [k4]
        refine ⟨fun c => by omega, fun _ => ⟨fun c => absurd F1.2.1 c, fun _ => ⟨fun c => ?_, fun c => ?_⟩⟩⟩
        · rw [← hQ]
          refine hL0.px (fun p2 _ e2 h6 => ⟨h6.1, h6.2, ?_⟩)
          rw [← e2, k4]
          exact fun r2 => c (rkF_and.1 r2)
        · have k109 : kd T N p1 = 109 := Classical.not_not.mp c
          have r2 : rkF (kd T N p1) = 2 := by rw [k109]; decide
          have hsg : sgF (kd T N p1) = 10011 := by rw [k109]; decide
          refine ⟨4, _, by omega, c_nextX2 (d := 0) hG F1.1, fun m2 h2 _ => ?_⟩
          have F2 := F1.next h2.1 h2.2
          have hsub := hU ((2, sgF (kd T N p1)) :: S) (en T N p1) u1 (cs ++ ns) m2 (by simp) (by rw [wn_push (by decide) (by decide)]; exact hwn) (Or.inl (by show (2 : Int) ≤ 3; decide)) F2
          refine ⟨D', _, hD', hsub, fun m3 h3 _ => ?_⟩
          rcases LhX.step (i := i) f1 F1 hst hi1 hS r2 (by decide) (by decide) (by omega) (Or.inr (Or.inr trivial)) hw.1 hu0 (fun r h6 r0 h66 r3 => by
            by_cases q : r = 4
            · exact Or.inr ⟨q, trivial⟩
            · exact Or.inl (by omega)) h2.1 h3 with ⟨f, he, hf, fr3⟩ | ⟨p2, u2, ns2, fr3, F3, hl3, nxt⟩
          · refine ⟨b, hf.2.2.2.1.1, hf.2.2.2.1.2, 4, _, by omega, c_addFX hf, fun m4 h4 _ => ?_⟩
            exact ⟨by unfold inR; omega, ih (i + 1) m4 (by omega) (by omega) ⟨fr3.tr h4.1, Or.inl ⟨f, he, h4.2⟩⟩⟩
          · rw [hsg] at nxt
            refine ⟨b, F3.2.2.2.1.1, F3.2.2.2.1.2, 4, _, by omega, c_addX F3 hl3, fun m4 h4 _ => ?_⟩
            exact ⟨by unfold inR; omega, ih (i + 1) m4 (by omega) (by omega) (nxt m4 h4.1 h4.2)⟩
  refine e_Reader_readBoth w (fun _ _ => ⟨D', _, hD', hU S p u cs m hS hwn (by omega) h, fun m1 h1 _ => ?_⟩)
  exact loop 30 0 m1 (by omega) (Int.le_refl 0) h1.lh
theorem either_of {D' : Nat} (hG : GVok G) (hw : 0 ≤ w ∧ w ≤ 7) (hU : rdB l G T N b w D') (hD' : D' < D) (hD : 5 < D) : rdE l G T N b w D := by
  intro S p u cs m hwn htop h
  have hS : S ≠ [] := fun q => by
    rw [q] at htop
    exact absurd htop (by decide)
  have hu0 := h.2.2.2.2.1.2.1
  generalize hQ : PxF (fun r => r = 0 ∨ r = 4) True T N b w S p u cs m = Q
  have loop : ∀ (s : Nat) (i : Int) (m1 : MM), i + s = 30 → 0 ≤ i → LhX (fun r => r ≠ 6 ∧ r ≠ 5 ∧ r ≠ 2) True T N b w S p u cs m i m1 → Wq l G false Y_Reader_readEither D (QV Q) 7 [(0, .inr (.inr 2)), (1, .inl w), (2, .inl i)] [] m1 := by
    intro s
    induction s with
    | zero =>
      intro i m1 hi i0 hL
      have hq : Q m1 := by
        rw [← hQ]
        refine hL.px (fun p1 h6 _ _ => ?_)
        exfalso
        obtain ⟨-, hL⟩ := hL
        rcases hL with ⟨f, -, hf⟩ | ⟨p1, u1, ns, F1, -, -, hi1⟩
        · exact hf.2.2.1 (by rw [← hf.1]; exact h6)
        · have := F1.2.2.2.2.1.2.2; omega
      exact s_Reader_readEither_7 _ _ (fun _ _ _ => ⟨fun _ => hq, fun c => absurd (show i ≥ 30 by omega) c⟩)
    | succ s ih =>
      intro i m1 hi i0 hL
      have hL0 := hL
      obtain ⟨f1, hL⟩ := hL
      rcases hL with ⟨f, he, hf⟩ | ⟨p1, u1, ns, F1, hst, hA1, hi1⟩
      · have hq : Q m1 := by rw [← hQ]; exact ⟨f1, Or.inl ⟨f, he, hf⟩⟩
        exact s_Reader_readEither_7 _ _ (fun _ _ _ => ⟨fun _ => hq, fun _ => ⟨fun _ => hq, fun c => absurd (by rw [hf.1]; exact hf.2.2.1) c⟩⟩)
      · have k4 := F1.1.2.2.2.1
        refine s_Reader_readEither_7 _ _ (fun _ _ _ => ?_)
        rw [k4]
        refine ⟨fun c => by omega, fun _ => ⟨fun c => absurd F1.2.1 c, fun _ => ⟨fun c => ?_, fun c => ?_⟩⟩⟩
        · rw [← hQ]
          refine hL0.px (fun p2 _ e2 h6 => ?_)
          have hr := rkF_rng (kd T N p2)
          have n1 : rkF (kd T N p2) ≠ 1 := by
            rw [← e2, k4]
            exact fun r2 => c (rkF_and.2 r2)
          omega
        · have k108 : kd T N p1 = 108 := Classical.not_not.mp c
          have r2 : rkF (kd T N p1) = 1 := by rw [k108]; decide
          have hsg : sgF (kd T N p1) = 10012 := by rw [k108]; decide
          refine ⟨4, _, by omega, c_nextX2 (d := 0) hG F1.1, fun m2 h2 _ => ?_⟩
          have F2 := F1.next h2.1 h2.2
          have hsub := hU ((1, sgF (kd T N p1)) :: S) (en T N p1) u1 (cs ++ ns) m2 (by simp) (by rw [wn_push (by decide) (by decide)]; exact hwn) (Or.inl (by show (1 : Int) ≤ 1; decide)) F2
          refine ⟨D', _, hD', hsub, fun m3 h3 _ => ?_⟩
          rcases LhX.step (i := i) f1 F1 hst hi1 hS r2 (by decide) (by decide) (by omega) (Or.inr (Or.inr trivial)) hw.1 hu0 (fun r h6 r0 h66 r3 => by
            by_cases q : r = 4
            · exact Or.inr ⟨q, trivial⟩
            · exact Or.inl (by omega)) h2.1 h3 with ⟨f, he, hf, fr3⟩ | ⟨p2, u2, ns2, fr3, F3, hl3, nxt⟩
          · refine ⟨b, hf.2.2.2.1.1, hf.2.2.2.1.2, 4, _, by omega, c_addFX hf, fun m4 h4 _ => ?_⟩
            exact ⟨by unfold inR; omega, ih (i + 1) m4 (by omega) (by omega) ⟨fr3.tr h4.1, Or.inl ⟨f, he, h4.2⟩⟩⟩
          · rw [hsg] at nxt
            refine ⟨b, F3.2.2.2.1.1, F3.2.2.2.1.2, 4, _, by omega, c_addX F3 hl3, fun m4 h4 _ => ?_⟩
            exact ⟨by unfold inR; omega, ih (i + 1) m4 (by omega) (by omega) (nxt m4 h4.1 h4.2)⟩
  refine e_Reader_readEither w (fun _ _ => ⟨D', _, hD', hU S p u cs m hS hwn (by omega) h, fun m1 h1 _ => ?_⟩)
  exact loop 30 0 m1 (by omega) (Int.le_refl 0) h1.lh
/-- a formula -/
theorem c_eitherX (hG : GVok G) : rdE l G T N b 0 54 := by
  have all : ∀ j : Nat, j ≤ 7 → rdE l G T N b (7 - j) (6 * j + 12) ∧ rdO l G T N b (7 - j) (6 * j + 10) := by
    intro j
    induction j with
    | zero =>
      intro _
      have hw : (0 : Int) ≤ 7 - ((0 : Nat) : Int) ∧ 7 - ((0 : Nat) : Int) ≤ 7 := by omega
      have u := unit_of (D := 7) (D' := 0) (l := l) (T := T) (N := N) (b := b) hG hw (by omega) (fun q => by omega) (by omega)
      have t := term_of (D := 8) hG hw u (by omega) (by omega)
      have s := sum_of (D := 9) hG hw t (by omega) (by omega)
      have o := one_of (D := 10) (D'' := 0) hG hw s (by omega) (fun q => by omega) (by omega) (by omega)
      have bb := both_of (D := 11) hG hw o (by omega) (by omega)
      exact ⟨either_of (D := 12) hG hw bb (by omega) (by omega), o⟩
    | succ j ih =>
      intro hj
      obtain ⟨e, o⟩ := ih (by omega)
      have hw : (0 : Int) ≤ 7 - ((j + 1 : Nat) : Int) ∧ 7 - ((j + 1 : Nat) : Int) ≤ 7 := by omega
      have eq : (7 : Int) - ((j + 1 : Nat) : Int) + 1 = 7 - (j : Int) := by omega
      have u := unit_of (D := 6 * j + 13) (D' := 6 * j + 12) (l := l) (T := T) (N := N) (b := b) hG hw (by omega) (fun _ => by rw [eq]; exact e) (by omega)
      have t := term_of (D := 6 * j + 14) hG hw u (by omega) (by omega)
      have s := sum_of (D := 6 * j + 15) hG hw t (by omega) (by omega)
      have o2 := one_of (D := 6 * j + 16) (D'' := 6 * j + 10) hG hw s (by omega) (fun _ => by rw [eq]; exact o) (by omega) (by omega)
      have bb := both_of (D := 6 * j + 17) hG hw o2 (by omega) (by omega)
      exact ⟨either_of (D := 6 * j + 18) hG hw bb (by omega) (by omega), o2⟩
  exact (all 7 (Nat.le_refl 7)).1
end RestX
