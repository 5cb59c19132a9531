/-! units and terms read by the class -/
section UnitX
variable {l : Launch} {G : GT} {D : Nat} {b : Nat} {T : Int → Int} {N w : Int}
theorem Eo.bin {S : Pile} {p u p1 u1 x : Int} {cs c1 : List Int} (hS : S ≠ []) (hk : rkF (kd T N p1) = x) (hx : 0 < x) (h4 : ¬ (x = 4 ∧ cmpd S)) (ht : ¬ (tpF S ≤ 6 ∧ x ≤ tpF S)) (h0 : ∀ R, Eo T N false S p1 u1 c1 R → Eo T N true S p u cs R) : ∀ R, Eo T N true ((x, sgF (kd T N p1)) :: S) (en T N p1) u1 c1 R → Eo T N true S p u cs R := fun R h => by
  subst hk
  exact h0 R (Eo.push hS h4 ht hx h)
theorem Eo.popx {S : Pile} {p u x sg : Int} {c : List Int} {R : Rs} (hS : S ≠ []) (hx : x ≤ 6) (hr : rkF (kd T N p) ≤ x) (h45 : x = 5 ∨ x = 6 ∨ rkF (kd T N p) ≠ 4) (h : Eo T N false S p u (c ++ [sg]) R) : Eo T N false ((x, sg) :: S) p u c R := by
  by_cases q : rkF (kd T N p) = 4 ∧ cmpd ((x, sg) :: S)
  · have hc : cmpd S := by
      rcases q.2 with g | g
      · exact g.2
      · have g' : x = 4 := g
        exfalso
        have := q.1
        omega
    obtain ⟨k, hk⟩ := h
    match S, hS, hc, k, hk with
    | e :: S, _, hc, 0, hk => exact hk.elim
    | e :: S, _, hc, k + 1, hk =>
      rw [hk.beh.1 q.1 hc]
      exact Eo.twice q.1 q.2
  · exact Eo.pop q ⟨hx, hr⟩ h
def rdU (l : Launch) (G : GT) (T : Int → Int) (N : Int) (b : Nat) (w : Int) (D : Nat) : Prop := ∀ (S : Pile) (p u : Int) (cs : List Int) (m : MM), S ≠ [] → wnF S = w → (kd T N p = 110 → ¬ (tpF S ≤ 3 ∨ 7 ≤ tpF S)) → FxS T N b p u cs m → CV l G Y_Reader_readUnit D [.inr (.inr 2), .inl w] m (PxF (fun _ => True) False T N b w S p u cs m)
def rdE (l : Launch) (G : GT) (T : Int → Int) (N : Int) (b : Nat) (w : Int) (D : Nat) : Prop := ∀ (S : Pile) (p u : Int) (cs : List Int) (m : MM), wnF S = w → 7 ≤ tpF S → FxS T N b p u cs m → CV l G Y_Reader_readEither D [.inr (.inr 2), .inl w] m (PxF (fun r => r = 0 ∨ r = 4) True T N b w S p u cs m)
theorem fW_one {s k : Int} (hs : 0 ≤ s ∧ s ≤ 10003) (hk : k < 40) : fW [s] k (k + 1) := by
  unfold fW
  rw [if_pos (by omega)]
  exact ⟨hs, hk, rfl⟩
theorem FxS.unit {p u : Int} {cs : List Int} {m m' : MM} (h : FxS T N b p u cs m) (hu : ¬ u ≥ 30) (e : m' = up m b 4 (u + 1)) : FxS T N b p (u + 1) cs m' ∧ FrX b m m' := by
  obtain ⟨h1, h2, h3, h4, h5, h6, h7⟩ := h
  have nb := isB_ne h4.2
  have kk : ∀ a, a ≠ b → m' a = m a := fun a ha => by rw [e, up_ne ha]
  refine ⟨⟨h1.fx h4.2 (fun a ha => kk a (by omega)), by rw [kk 2 (by omega)]; exact h2, by rw [kk 2 (by omega)]; exact h3, by rw [kk 2 (by omega)]; exact h4, ⟨by rw [e, up_at], by omega, by omega⟩, ?_, by omega⟩, FrX.pt e (Or.inr (Or.inr (Or.inl ⟨rfl, rfl⟩)))⟩
  unfold CF
  rw [kk (b + 6) (by omega), kk (b + 6 + 1) (by omega)]
  exact h6
theorem unit_of {D' : Nat} (hG : GVok G) (hw : 0 ≤ w ∧ w ≤ 7) (hD : 5 < D) (hE : w < 7 → rdE l G T N b (w + 1) D') (hD' : D' < D) : rdU l G T N b w D := by
  intro S p u cs m hS hwn hn h
  have h4 := h.1.2.2.2.1
  have h5 := h.1.2.2.2.2.1
  have hu := h.2.2.2.2.1.1
  have hu0 := h.2.2.2.2.1.2
  have hb := h.2.2.2.1
  have hp := h.1.2.1
  generalize hQ : PxF (fun _ => True) False T N b w S p u cs m = Q
  -- faults
  have ft : ∀ {f : Int × Int} {m1 : MM}, Eo T N true S p u cs (.inl f) → FaX b f m1 → FrX b m m1 → Q m1 := fun he hf hr => by
    rw [← hQ]
    exact ⟨hr, Or.inl ⟨_, he, hf⟩⟩
  have full : ∀ m1, m1 = up (up m 2 6 2) 2 7 (plc T N p) → Eo T N true S p u cs (.inl (2, plc T N p)) → Q m1 := fun m1 e1 he => by
    obtain ⟨g1, g2⟩ := h.fault e1 (by decide)
    exact ft he g1 g2
  -- going on
  have body : ∀ y : Int, (y = 0 ∧ kd T N p ≠ 40 ∧ usF T N p ≠ -1) ∨ (y = 1 ∧ kd T N p = 40 ∧ w ≤ 6) → ¬ u ≥ 30 → Wq l G false Y_Reader_readUnit D (QV Q) 80 [(0, .inr (.inr 2)), (1, .inl w), (2, .inl y), (3, .inl (usF T N p))] [] m := by
    intro y hy hu30
    refine s_Reader_readUnit_80 _ _ _ (fun _ _ _ _ => ⟨b, hb.1, hb.2, ?_⟩)
    rw [hu]
    refine ⟨by unfold inR; omega, fun m1 e1 => ?_⟩
    obtain ⟨F1, f1⟩ := h.unit hu30 e1
    refine ⟨4, _, by omega, c_nextX2 (d := 0) hG F1.1, fun m2 h2 _ => ?_⟩
    have F2 := F1.next h2.1 h2.2
    have f2 : FrX b m m2 := f1.tr (FrX.next h2.1)
    have tr := tk_rng (T := T) hp
    rcases hy with ⟨rfl, k40, kus⟩ | ⟨rfl, k40, w6⟩
    · refine ⟨fun _ => ⟨b, F2.2.2.2.1.1, hb.2, 4, _, by omega, c_addX F2 (by have := h.2.2.2.2.2.2; omega), fun m3 h3 _ => ?_⟩, fun c => absurd rfl c⟩
      have hk := usF_ne hp (usF_kd kus)
      rw [← hQ]
      refine ⟨f2.tr h3.1, Or.inr ⟨en T N p, u + 1, [usF T N p], h3.2, by omega, by omega, ?_, fun k k0 k1 => fW_one ⟨hk.2.1, hk.2.2⟩ (by omega), trivial, fun _ R hR => Eo.unit kus hu30 hR, fun c => c.elim⟩⟩
      show ((1 : Nat) : Int) + 1 + w ≤ 9 * (u + 1 - u)
      omega
    · refine ⟨fun c => absurd c (by decide), fun _ => ⟨by unfold inR; omega, D', _, hD', hE (by omega) ((7, 10010) :: S) (en T N p) (u + 1) cs m2 ?_ (by show (7 : Int) ≤ 7; decide) F2, fun m3 h3 _ => ?_⟩⟩
      · show (if (7 : Int) = 3 ∨ (7 : Int) = 7 then 1 else 0) + wnF S = w + 1
        rw [if_pos (Or.inr rfl)]; omega
      · obtain ⟨f3, h3⟩ := h3
        have par : ∀ R, Eo T N true ((7, 10010) :: S) (en T N p) (u + 1) cs R → Eo T N true S p u cs R := fun R hR => Eo.par k40 (by omega) hR
        rcases h3 with ⟨f, he, hf⟩ | ⟨p', u', ns, F3, hu', hp', hl, hfw, hA, hI, hC⟩
        · refine ⟨4, _, by omega, c_expectFX hf, fun m4 e4 _ => ?_⟩
          subst e4
          exact ft (par _ he) hf (f2.tr f3)
        · refine ⟨5, _, by omega, c_expectX (d := 0) hG F3, fun m4 h4' _ => ?_⟩
          obtain ⟨g1, g2, g3⟩ := h4'
          have fr4 : FrX b m m4 := f2.tr (f3.tr g1)
          have tr' := tk_rng (T := T) F3.1.2.1
          rcases hA with hA | hA
          · by_cases k41 : kd T N p' = 41
            · rw [← hQ]
              refine ⟨fr4, Or.inr ⟨en T N p', u', ns, g2 k41, by omega, by omega, by omega, fun k k0 k1 => hfw k k0 (by omega), trivial, fun _ R hR => par R (hI (fun _ => by omega) R (Eo.close rfl k41 hR)), fun c => c.elim⟩⟩
            · exact ft (par _ (hI (fun _ => by omega) _ (Eo.unclosed rfl k41 hA))) (g3 k41) fr4
          · have k41 : kd T N p' ≠ 41 := fun e => by rw [e] at hA; exact absurd hA (by decide)
            have k1 : kd T N p' ≠ 1 := fun e => by rw [e] at hA; exact absurd hA (by decide)
            have hf := g3 k41
            rw [bdF_ne.2 k1] at hf
            exact ft (par _ (hC trivial hA)) hf fr4
  refine e_Reader_readUnit w (fun _ _ => ⟨fun _ => ?_, fun c => absurd h.2.1 c⟩)
  rw [h4]
  refine ⟨fun c40 => ?_, fun c40 => ?_⟩
  · refine s_Reader_readUnit_25 _ _ (fun _ _ _ => ⟨4, _, by omega, c_unitSignX h.1, fun z m1 hz _ _ => ?_⟩)
    obtain ⟨rfl, rfl⟩ := hz
    refine ⟨fun c => absurd rfl c, fun _ => ⟨fun cz => ⟨b, hb.1, hb.2, ?_⟩, fun cz => ⟨4, _, by omega, c_refuseX (d := 3) h, fun m1 h1 _ => ?_⟩⟩⟩
    · rw [hu, h5]
      refine ⟨fun c => ⟨4, _, by omega, c_tellX h.2.1, fun m1 e1 _ => full m1 e1 (Eo.full cz c)⟩, fun c => ⟨fun _ => body 0 (Or.inl ⟨rfl, c40, cz⟩) c, fun q => absurd rfl q⟩⟩
    · have us : usF T N p = -1 := Classical.not_not.mp cz
      by_cases k110 : kd T N p = 110
      · have hb' : bdF T N p = (2, plc T N p) := bdF_ne.2 (by omega)
        have := h1.1
        rw [hb'] at this
        exact ft (Eo.not_bad k110 (hn k110)) this h1.2
      · exact ft (Eo.none k110 c40 us) h1.1 h1.2
  · have k40 : kd T N p = 40 := Classical.not_not.mp c40
    refine s_Reader_readUnit_25 _ _ (fun _ _ _ => ⟨4, _, by omega, c_unitSignX h.1, fun z m1 hz _ _ => ?_⟩)
    obtain ⟨rfl, rfl⟩ := hz
    refine ⟨fun _ => ⟨b, hb.1, hb.2, ?_⟩, fun q => absurd (by decide) q⟩
    rw [hu, h5]
    refine ⟨fun c => ⟨4, _, by omega, c_tellX h.2.1, fun m1 e1 _ => full m1 e1 (Eo.par_bad k40 (Or.inr c))⟩, fun c => ⟨fun q => absurd q (by decide), fun _ => ⟨fun c6 => body 1 (Or.inr ⟨rfl, k40, c6⟩) c, fun c6 => ⟨4, _, by omega, c_tellX h.2.1, fun m1 e1 _ => full m1 e1 (Eo.par_bad k40 (Or.inl (by omega)))⟩⟩⟩⟩
end UnitX
