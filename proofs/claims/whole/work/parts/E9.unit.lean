/-! a unit read by the reference -/
section UnitM2
variable {l : Launch} {G : GT} {d : Nat} {m : MM} {T : Int → Int} {N p r u : Int} {cs : List Int} {S : Pile} {R : Rs} {k : Nat}
theorem FmS.top {w : Bool} (h : FmS T N r w S p u cs m) (hS : S ≠ []) : m 87 (m 70 32 - 1) = tpF S ∧ 1 ≤ m 70 32 ∧ m 70 32 ≤ 56 := by
  obtain ⟨h1, h2, h3⟩ := h
  have hl := h3.len.1
  match S, hS with
  | e :: S, _ =>
    have e1 := h2.1
    rw [List.length_cons] at e1 hl
    rw [e1]
    refine ⟨?_, by omega, by omega⟩
    rw [show (((S.length + 1 : Nat) : Int) - 1) = S.length by omega]
    exact h2.2.1.1
set_option maxHeartbeats 4000000 in
theorem c_unit (h : FmS T N r true S p u cs m) (hS : S ≠ []) (hE : En T N (k + 1) true S p u cs R) : CI l G Y_M_unit (d + 3) [.inr (.inr 70)] m (NxM T N r k R m) := by
  have htop := h.top hS
  obtain ⟨hC, hP, hI⟩ := h
  have hT := hC.1
  have h4 := hC.2.1
  obtain ⟨hr, hr0, hr1⟩ := hC.2.2.1
  obtain ⟨hu, hu33⟩ := hC.2.2.2.1
  have hwn := hP.2.2
  have hIl := hI.len
  obtain ⟨hst, hw7, u0, u30, hPhi⟩ := hI
  have hPhi : (cs.length : Int) + opn S ≤ 9 * u + (1 + wnF S) := hPhi
  obtain ⟨En1, En2, En3, En4⟩ := hE.units
  have hwn0 := wnF_nonneg S
  have hpr : 0 ≤ p ∧ p ≤ N := ⟨hT.2.2.2.1, hT.2.2.2.2.1⟩
  have us1 : usF T N p ≠ -1 → kd T N p = 3 ∨ (111 ≤ kd T N p ∧ kd T N p ≤ 114) := usF_kd
  have us2 : kd T N p = 3 ∨ (111 ≤ kd T N p ∧ kd T N p ≤ 114) → usF T N p ≠ -1 := fun q => (usF_ne hpr q).1
  generalize hQ : NxM T N r k R m = Q
  have body : ∀ y : Int, (y = 0 ∨ y = 1) → (y = 1 ↔ kd T N p = 110 ∧ (tpF S ≤ 3 ∨ 7 ≤ tpF S)) → Wq l G false Y_M_unit (d + 3) (QI Q) 56 [(0, .inr (.inr 70))] [.inl y] m := by
    intro y hy hyk
    refine s_M_unit_56 _ (fun _ _ => ⟨d + 1, _, by omega, c_signIs hT (by decide), fun z m1 hz _ _ => ?_⟩)
    obtain ⟨hz, rfl⟩ := hz
    refine ⟨d + 1, _, by omega, c_wordHere hT, fun c m1 hc _ _ => ?_⟩
    obtain ⟨c1, c2, c3, c4, c5, rfl⟩ := hc
    have h84 := hT.num.1
    -- what is good
    have good : ¬ ((y = 0 ∧ ((c = 0 ∧ m 70 8 ≠ 4 ∧ z = 0) ∨ u = 30)) ∨ ((y ≠ 0 ∨ z ≠ 0) ∧ wnF S = 7)) → Wq l G false Y_M_unit (d + 3) (QI Q) 147 [(0, .inr (.inr 70)), (2, .inl y), (3, .inl z), (4, .inl c)] [] m := by
      intro hgood
      refine s_M_unit_147 _ _ _ (fun _ _ _ _ => ⟨d, _, by omega, c_isGoodM2, fun z2 m2 hz2 _ _ => ?_⟩)
      obtain ⟨hz2, rfl⟩ := hz2
      refine ⟨fun _ => ?_, fun q => absurd h4 (hz2.mp (Classical.not_not.mp q))⟩
      rw [hr]
      refine ⟨⟨hr0, by omega⟩, ?_⟩
      rcases hy with hy | hy
      · -- a unit or a bracket
        subst hy
        refine ⟨fun _ => ⟨by rw [hu]; unfold inR; omega, ⟨hr0, by omega⟩, fun m26 e26 => ?_⟩, fun q => absurd rfl q⟩
        have k33 : m26 70 33 = u := by rw [e26, up_ne (by decide)]; exact hu33
        rw [hu] at e26
        refine ⟨fun _ => ⟨by rw [k33]; unfold inR; omega, fun m38 e38 => ?_⟩, fun q => absurd rfl q⟩
        rw [k33] at e38
        obtain ⟨C2, P2, F2⟩ := CoM.unit (S := S) hC e26 e38
        have P2 := P2 hP
        -- go on
        have rest : ∀ v : Int, (c = 0 → v = m38 70 9) → (Wq l G false Y_M_unit (d + 3) (QI Q) 208 [(0, .inr (.inr 70)), (2, .inl 0), (3, .inl z), (4, .inl c)] [.inl v] m38) := by
          intro v hv
          refine s_M_unit_208 _ _ _ _ (fun _ _ _ _ _ => ⟨d + 1, _, by omega, c_goOnM2 C2.1.ts, fun m8 h8 _ => ?_⟩)
          have g8 : GoP N m38 m8 := h8
          have C3 := C2.go g8
          have P3 := P2.go g8
          have F3 : FrM r m m8 := F2.tr g8.frm
          refine ⟨fun q => absurd rfl q, fun _ => ⟨fun cz => ?_, fun cz => ?_⟩⟩
          · -- emitted
            have k40 : kd T N p ≠ 40 := hz.mp cz
            have hk : kd T N p = 3 ∨ (111 ≤ kd T N p ∧ kd T N p ≤ 114) := by
              by_cases q : 111 ≤ kd T N p ∧ kd T N p ≤ 114
              · exact Or.inr q
              · have c0 := c5 q
                refine Or.inl (h84.mp ?_)
                omega
            have hus := usF_ne hpr hk
            have hu29 : ¬ 30 ≤ u := by omega
            have hE3 := En3 hus.1 hu29
            have cd0 : 0 ≤ m8 70 30 ∧ m8 70 30 < 1120 := by
              have := C3.2.2.2.2.1
              omega
            have fin : ∀ x y m9, EmM x y m8 m9 → x = cOf (usF T N p) → (usF T N p < 10000 → y = usF T N p) → Q 0 m9 := by
              intro x y m9 e9 hx hyy
              rw [← hQ]
              refine ⟨F3.tr (e9.frm C3 (by omega)), Or.inr ⟨k, false, S, en T N p, u + 1, cs ++ [usF T N p], Nat.le_refl k, rfl, (fun q => absurd q (by decide)), hE3, C3.emit e9 hx hyy, P3.emit e9, hst, hw7, by omega, by omega, ?_⟩⟩
              rw [List.length_append]
              show (((cs.length + 1 : Nat) : Int)) + opn S ≤ 9 * (u + 1) + 0
              omega
            have hv9 : m38 70 9 = m 70 9 := by rw [e38, up_off (by decide), e26, up_ne (by decide)]
            refine ⟨fun cc => ⟨d, _, by omega, c_emit cd0, fun m9 e9 _ => fin _ _ m9 e9 ?_ ?_⟩, fun cc => ⟨d, _, by omega, c_emit cd0, fun m9 e9 _ => fin _ _ m9 e9 ?_ ?_⟩⟩
            · have h4 : kd T N p = 111 ∨ kd T N p = 112 ∨ kd T N p = 113 ∨ kd T N p = 114 := by
                rcases hk with q | q
                · exact absurd (c5 (by omega)) cc
                · omega
              unfold usF
              rcases h4 with g | g | g | g
              · rw [c1 g, g]; rfl
              · rw [c2 g, g]; rfl
              · rw [c3 g, g]; rfl
              · rw [c4 g, g]; rfl
            · intro q
              exfalso
              have h4 : kd T N p = 111 ∨ kd T N p = 112 ∨ kd T N p = 113 ∨ kd T N p = 114 := by
                rcases hk with q | q
                · exact absurd (c5 (by omega)) cc
                · omega
              unfold usF at q
              rcases h4 with g | g | g | g
              · rw [g] at q
                have q' : (10000 : Int) < 10000 := q
                exact absurd q' (by decide)
              · rw [g] at q
                have q' : (10001 : Int) < 10000 := q
                exact absurd q' (by decide)
              · rw [g] at q
                have q' : (10002 : Int) < 10000 := q
                exact absurd q' (by decide)
              · rw [g] at q
                have q' : (10003 : Int) < 10000 := q
                exact absurd q' (by decide)
            · have c0 := Classical.not_not.mp cc
              have k3 : kd T N p = 3 := by
                rcases hk with q | q
                · exact q
                · have h4 : kd T N p = 111 ∨ kd T N p = 112 ∨ kd T N p = 113 ∨ kd T N p = 114 := by omega
                  rcases h4 with g | g | g | g
                  · have := c1 g; omega
                  · have := c2 g; omega
                  · have := c3 g; omega
                  · have := c4 g; omega
              have hv := vl_num hpr k3
              unfold usF cOf
              rw [if_pos k3, if_pos (by omega)]
            · intro _
              have c0 := Classical.not_not.mp cc
              have k3 : kd T N p = 3 := by
                rcases hk with q | q
                · exact q
                · have h4 : kd T N p = 111 ∨ kd T N p = 112 ∨ kd T N p = 113 ∨ kd T N p = 114 := by omega
                  rcases h4 with g | g | g | g
                  · have := c1 g; omega
                  · have := c2 g; omega
                  · have := c3 g; omega
                  · have := c4 g; omega
              rw [hv c0, hv9, hT.num.2 k3]
              unfold usF
              rw [if_pos k3]
          · -- a bracket
            have k40 : kd T N p = 40 := Classical.not_not.mp (fun q => cz (hz.mpr q))
            have hwn6 : wnF S ≠ 7 := by omega
            have hE2 := En2 k40 (by omega)
            have pl0 : 0 ≤ m8 70 32 ∧ m8 70 32 < 90 := by
              have := P3.1
              omega
            refine ⟨fun _ => ⟨d, _, by omega, c_pushE pl0, fun m9 e9 _ => ?_⟩, fun q => absurd rfl q⟩
            obtain ⟨P4, P5, P6⟩ := P3.2.1.push (e := (7, 10010)) P3.1 e9 rfl (fun q => absurd q (by decide))
            have k31 : m9 70 31 = wnF S := by rw [P6]; exact P3.2.2
            refine ⟨by rw [k31]; unfold inR; omega, fun m10 e10 => ?_⟩
            rw [← hQ]
            refine ⟨F3.tr (e9.frm.tr (by rw [e10]; exact FrM.put (by decide))), Or.inr ⟨k, true, (7, 10010) :: S, en T N p, u + 1, cs, Nat.le_refl k, rfl, (fun _ => by simp), hE2, ?_, ⟨?_, ?_, ?_⟩, ⟨⟨by decide, by decide⟩, fun q => absurd q (by decide), Or.inr (Or.inl rfl), ⟨fun q => absurd q (by decide), fun q => absurd q hS⟩, hst⟩, ?_, by omega, by omega, ?_⟩⟩
            · rw [e10]; exact (C3.push e9).put (Or.inl rfl)
            · rw [e10, up_off (by decide)]; exact P5
            · rw [e10]; exact P4.congr (fun i _ _ => ⟨by rw [up_ne (by decide)], by rw [up_ne (by decide)]⟩)
            · rw [e10, up_at, k31]
              show wnF S + 1 = (if (7 : Int) = 3 ∨ (7 : Int) = 7 then 1 else 0) + wnF S
              rw [if_pos (Or.inr rfl)]; omega
            · show (if (7 : Int) = 3 ∨ (7 : Int) = 7 then 1 else 0) + wnF S ≤ 7
              rw [if_pos (Or.inr rfl)]; omega
            · show (cs.length : Int) + ((if (7 : Int) ≤ 6 then 1 else 0) + opn S) ≤ 9 * (u + 1) + (1 + ((if (7 : Int) = 3 ∨ (7 : Int) = 7 then 1 else 0) + wnF S))
              rw [if_neg (by decide), if_pos (Or.inr rfl)]
              omega
        exact ⟨fun cc => rest 0 (fun q => absurd q cc), fun cc => rest _ (fun _ => rfl)⟩
      · -- a not
        subst hy
        obtain ⟨k110, hbeg⟩ := hyk.mp rfl
        have hz0 : z = 0 := hz.mpr (by omega)
        have hc0 : c = 0 := c5 (by omega)
        have hwn6 : wnF S ≠ 7 := by omega
        have hE1 := En1 k110 hbeg hwn6
        refine ⟨fun q => absurd q (by decide), fun _ => ⟨by rw [hu]; unfold inR; omega, ⟨hr0, by omega⟩, fun m26 e26 => ?_⟩⟩
        have e26' : m26 = m := by rw [e26, hu]; exact up_same (by rw [hu]; omega)
        subst e26'
        refine ⟨fun q => absurd q (by decide), fun _ => ⟨by rw [hu33]; unfold inR; omega, fun m38 e38 => ?_⟩⟩
        have e38' : m38 = m26 := by rw [e38, hu33]; exact up_same (by rw [hu33]; omega)
        subst e38'
        have rest : ∀ v : Int, (Wq l G false Y_M_unit (d + 3) (QI Q) 208 [(0, .inr (.inr 70)), (2, .inl 1), (3, .inl z), (4, .inl c)] [.inl v] m38) := by
          intro v
          refine s_M_unit_208 _ _ _ _ (fun _ _ _ _ _ => ⟨d + 1, _, by omega, c_goOnM2 hC.1.ts, fun m8 h8 _ => ?_⟩)
          have g8 : GoP N m38 m8 := h8
          have C3 := hC.go g8
          have P3 := hP.go g8
          have F3 : FrM r m38 m8 := g8.frm
          refine ⟨fun _ => ⟨fun q => absurd q (by decide), fun _ => ?_⟩, fun q => absurd (by decide) q⟩
          have pl0 : 0 ≤ m8 70 32 ∧ m8 70 32 < 90 := by
            have := P3.1
            omega
          refine ⟨d, _, by omega, c_pushE pl0, fun m9 e9 _ => ?_⟩
          obtain ⟨P4, P5, P6⟩ := P3.2.1.push (e := (3, 10010)) P3.1 e9 rfl (fun q => by decide)
          have k31 : m9 70 31 = wnF S := by rw [P6]; exact P3.2.2
          refine ⟨by rw [k31]; unfold inR; omega, fun m10 e10 => ?_⟩
          rw [← hQ]
          refine ⟨F3.tr (e9.frm.tr (by rw [e10]; exact FrM.put (by decide))), Or.inr ⟨k, true, (3, 10010) :: S, en T N p, u, cs, Nat.le_refl k, rfl, (fun _ => by simp), hE1, ?_, ⟨?_, ?_, ?_⟩, ⟨⟨by decide, by decide⟩, fun q => by decide, Or.inl rfl, ⟨fun q => absurd q (by decide), fun q => absurd q hS⟩, hst⟩, ?_, by omega, by omega, ?_⟩⟩
          · rw [e10]; exact (C3.push e9).put (Or.inl rfl)
          · rw [e10, up_off (by decide)]; exact P5
          · rw [e10]; exact P4.congr (fun i _ _ => ⟨by rw [up_ne (by decide)], by rw [up_ne (by decide)]⟩)
          · rw [e10, up_at, k31]
            show wnF S + 1 = (if (3 : Int) = 3 ∨ (3 : Int) = 7 then 1 else 0) + wnF S
            rw [if_pos (Or.inl rfl)]; omega
          · show (if (3 : Int) = 3 ∨ (3 : Int) = 7 then 1 else 0) + wnF S ≤ 7
            rw [if_pos (Or.inl rfl)]; omega
          · show (cs.length : Int) + ((if (3 : Int) ≤ 6 then 1 else 0) + opn S) ≤ 9 * u + (1 + ((if (3 : Int) = 3 ∨ (3 : Int) = 7 then 1 else 0) + wnF S))
            rw [if_pos (by decide), if_pos (Or.inl rfl)]
            omega
        exact ⟨fun cc => absurd hc0 cc, fun cc => rest _⟩
    -- what is bad
    have bad : ((y = 0 ∧ ((c = 0 ∧ m 70 8 ≠ 4 ∧ z = 0) ∨ u = 30)) ∨ ((y ≠ 0 ∨ z ≠ 0) ∧ wnF S = 7)) → ∃ (e45 : Nat) (P46 : MM → Prop), e45 < d + 3 ∧ CV l G Y_M_misplaced e45 [.inr (.inr 70)] m P46 ∧ (∀ m52, P46 m52 → wfM m52 → (Wq l G false Y_M_unit (d + 3) (QI Q) 147 [(0, .inr (.inr 70)), (2, .inl y), (3, .inl z), (4, .inl c)] [] m52)) := by
      intro hbad
      refine ⟨d + 1, _, by omega, c_misplacedM2, fun m1 h1 _ => ?_⟩
      obtain ⟨g1, g2⟩ := hT.mis h4 h1
      refine s_M_unit_147 _ _ _ (fun _ _ _ _ => ⟨d, _, by omega, c_isGoodM2, fun z2 m2 hz2 _ _ => ?_⟩)
      obtain ⟨hz2, rfl⟩ := hz2
      have hne : m1 70 4 ≠ 0 := by rw [g1.1]; exact g1.2.2
      refine ⟨fun q => absurd (hz2.mpr hne) q, fun _ => ?_⟩
      rw [← hQ]
      refine ⟨FrM.of g2 (by decide), Or.inl ⟨bdF T N p, En4 ?_, g1, (hT.fr g2 (by decide) (by decide)).ts⟩⟩
      by_cases k110 : kd T N p = 110
      · have hz0 : z = 0 := hz.mpr (by omega)
        by_cases hbeg : tpF S ≤ 3 ∨ 7 ≤ tpF S
        · have := hyk.mpr ⟨k110, hbeg⟩
          exact Or.inl ⟨k110, hbeg, by omega⟩
        · exact Or.inr (Or.inl ⟨k110, hbeg⟩)
      · have hy0 : y = 0 := by
          rcases hy with q | q
          · exact q
          · exact absurd (hyk.mp q).1 k110
        by_cases k40 : kd T N p = 40
        · have hz0 : z ≠ 0 := fun q => absurd k40 (hz.mp q)
          exact Or.inr (Or.inr (Or.inl ⟨k40, by omega⟩))
        · have hz0 : z = 0 := hz.mpr k40
          by_cases hus : usF T N p = -1
          · exact Or.inr (Or.inr (Or.inr (Or.inl ⟨k110, k40, hus⟩)))
          · have := us1 hus
            refine Or.inr (Or.inr (Or.inr (Or.inr ⟨hus, ?_⟩)))
            have : c ≠ 0 ∨ m 70 8 = 4 := by
              rcases this with q | q
              · exact Or.inr (h84.mpr q)
              · left
                have h4 : kd T N p = 111 ∨ kd T N p = 112 ∨ kd T N p = 113 ∨ kd T N p = 114 := by omega
                rcases h4 with g | g | g | g
                · rw [c1 g]; decide
                · rw [c2 g]; decide
                · rw [c3 g]; decide
                · rw [c4 g]; decide
            omega
    rw [hr, hu, hu33, hwn]
    refine ⟨⟨hr0, by clear bad; omega⟩, ?_⟩
    clear En1 En2 En3 En4 us1 us2 hE c1 c2 c3 c4 c5 hyk h84 hz hPhi hIl hw7 hwn0 hpr hst hT htop hC hP hr hr0 hr1 hu hu33 hwn h4
    revert good bad
    generalize m 70 8 = t8
    generalize wnF S = wn
    intro good bad
    repeat' (first | exact good (by omega) | exact bad (by omega) | (refine ⟨fun _ => ?_, fun _ => ?_⟩))
  obtain ⟨ht1, ht2, ht3⟩ := htop
  refine e_M_unit (fun _ => ?_)
  rw [ht1]
  refine ⟨by unfold inR; omega, ⟨by omega, by omega⟩, fun c1 => ⟨d, _, by omega, c_wordIs hT (by decide), fun z m1 hz _ _ => ?_⟩, fun c1 => ⟨by unfold inR; omega, ⟨by omega, by omega⟩, fun c2 => body 0 (Or.inl rfl) ⟨fun q => absurd q (by decide), fun q => by have := q.2; omega⟩, fun c2 => ⟨d, _, by omega, c_wordIs hT (by decide), fun z m1 hz _ _ => ?_⟩⟩⟩
  · obtain ⟨hz, rfl⟩ := hz
    have k1 : kwF 7237492 = 110 := by decide
    rw [k1] at hz
    exact ⟨fun q => body 0 (Or.inl rfl) ⟨fun g => absurd g (by decide), fun g => absurd g.1 (hz.mp q)⟩, fun q => body 1 (Or.inr rfl) ⟨fun _ => ⟨Classical.not_not.mp (fun g => q (hz.mpr g)), Or.inl c1⟩, fun _ => rfl⟩⟩
  · obtain ⟨hz, rfl⟩ := hz
    have k1 : kwF 7237492 = 110 := by decide
    rw [k1] at hz
    exact ⟨fun q => body 0 (Or.inl rfl) ⟨fun g => absurd g (by decide), fun g => absurd g.1 (hz.mp q)⟩, fun q => body 1 (Or.inr rfl) ⟨fun _ => ⟨Classical.not_not.mp (fun g => q (hz.mpr g)), Or.inr (by omega)⟩, fun _ => rfl⟩⟩
end UnitM2
