/-! lines read by the reference -/
section LinesM
variable {l : Launch} {G : GT} {d : Nat} {T : Int → Int} {N r q : Int} {m : MM} {Z : Int → Int} {cs : List Int} {R : Rz}
theorem c_isFull (h : HdM T N r q m) (hb : BdM r Z cs m) (hz : ZC Z cs) : CI l G Y_M_isFull (d + 1) [.inr (.inr 70)] m (fun z m' => (kd T N q = 100 → (z = 0 ↔ Z 1 ≠ 5)) ∧ (kd T N q = 102 ∨ kd T N q = 104 → z = 0) ∧ (kd T N q = 105 → (z = 0 ↔ Z 5 = 0)) ∧ (kd T N q = 106 → (z = 0 ↔ Z 6 = 0)) ∧ (kd T N q = 107 → (z = 0 ↔ Z 7 = 0)) ∧ (¬ (kd T N q = 100 ∨ kd T N q = 102 ∨ kd T N q = 104 ∨ kd T N q = 105 ∨ kd T N q = 106 ∨ kd T N q = 107) → z ≠ 0) ∧ m = m') := by
  obtain ⟨hr, hr0, hr1, hr5⟩ := h.2.2
  have hT := h.1
  obtain ⟨b1, b2, b3, b4, b5, b6⟩ := hb.1
  obtain ⟨x5, x6, x7⟩ := hz.2.2.2.1
  obtain ⟨t0, t1, t2, -⟩ := tld x5 x6 x7
  have rg : 0 ≤ r ∧ r < 2 := ⟨hr0, by omega⟩
  clear hz hb
  refine e_M_isFull (fun _ => ⟨d, _, by omega, c_wordIs hT (by decide), fun z1 m1 hz1 _ _ => ?_⟩)
  obtain ⟨hz1, rfl⟩ := hz1
  have k1 : kwF 482854663269 = 100 := by decide
  rw [k1] at hz1
  refine ⟨fun c1 => ⟨d, _, by omega, c_wordIs hT (by decide), fun z2 m2 hz2 _ _ => ?_⟩, fun c1 => ?_⟩
  · have n1 := hz1.mp c1
    obtain ⟨hz2, rfl⟩ := hz2
    have k2 : kwF 426954290277 = 102 := by decide
    rw [k2] at hz2
    refine ⟨fun c2 => ?_, fun c2 => ⟨d, _, by omega, c_wordIs hT (by decide), fun z3 m3 hz3 _ _ => ?_⟩⟩
    · have e : kd T N q = 102 := Classical.not_not.mp (fun g => c2 (hz2.mpr g))
      rw [e]
      exact ⟨fun g => absurd g (by decide), fun _ => rfl, fun g => absurd g (by decide), fun g => absurd g (by decide), fun g => absurd g (by decide), fun g => absurd (by decide) g, rfl⟩
    · have n2 := hz2.mp (Classical.not_not.mp c2)
      obtain ⟨hz3, rfl⟩ := hz3
      have k3 : kwF 431415716206 = 104 := by decide
      rw [k3] at hz3
      refine ⟨fun c3 => ⟨d, _, by omega, c_wordIs hT (by decide), fun z4 m4 hz4 _ _ => ?_⟩, fun c3 => ?_⟩
      · have n3 := hz3.mp c3
        obtain ⟨hz4, rfl⟩ := hz4
        have k4 : kwF 439721159795 = 105 := by decide
        rw [k4] at hz4
        refine ⟨fun c4 => ⟨d, _, by omega, c_wordIs hT (by decide), fun z5 m5 hz5 _ _ => ?_⟩, fun c4 => ?_⟩
        · have n4 := hz4.mp c4
          obtain ⟨hz5, rfl⟩ := hz5
          have k5 : kwF 1819632491 = 106 := by decide
          rw [k5] at hz5
          refine ⟨fun c5 => ⟨d, _, by omega, c_wordIs hT (by decide), fun z6 m6 hz6 _ _ => ?_⟩, fun c5 => ?_⟩
          · have n5 := hz5.mp c5
            obtain ⟨hz6, rfl⟩ := hz6
            have k6 : kwF 1685217655 = 107 := by decide
            rw [k6] at hz6
            refine ⟨fun c6 => ?_, fun c6 => ?_⟩
            · have n6 := hz6.mp c6
              exact ⟨fun g => absurd g n1, fun g => by omega, fun g => absurd g n4, fun g => absurd g n5, fun g => absurd g n6, fun _ g => absurd g (by decide), rfl⟩
            · have e : kd T N q = 107 := Classical.not_not.mp (fun g => c6 (hz6.mpr g))
              rw [hr]
              refine ⟨rg, d, _, by omega, c_bit, fun z7 m7 hz7 _ _ => ?_⟩
              obtain ⟨hz7, rfl⟩ := hz7
              rw [b6, t2] at hz7
              rw [e]
              have fin : ∀ z : Int, (z = 0 ↔ Z 7 = 0) → ((107 : Int) = 100 → (z = 0 ↔ Z 1 ≠ 5)) ∧ ((107 : Int) = 102 ∨ (107 : Int) = 104 → z = 0) ∧ ((107 : Int) = 105 → (z = 0 ↔ Z 5 = 0)) ∧ ((107 : Int) = 106 → (z = 0 ↔ Z 6 = 0)) ∧ ((107 : Int) = 107 → (z = 0 ↔ Z 7 = 0)) ∧ (¬ ((107 : Int) = 100 ∨ (107 : Int) = 102 ∨ (107 : Int) = 104 ∨ (107 : Int) = 105 ∨ (107 : Int) = 106 ∨ (107 : Int) = 107) → z ≠ 0) ∧ m = m := fun z hz => ⟨fun g => absurd g (by decide), fun g => absurd g (by decide), fun g => absurd g (by decide), fun g => absurd g (by decide), fun _ => hz, fun g => absurd (by decide) g, rfl⟩
              refine ⟨fun g => fin 0 ⟨fun _ => ?_, fun _ => rfl⟩, fun g => fin 1 ⟨fun g => absurd g (by decide), fun g2 => ?_⟩⟩
              · rcases x7 with x | x
                · exact x
                · rw [x, if_pos rfl] at hz7; omega
              · rw [g2, if_neg (by decide)] at hz7; omega
          · have e : kd T N q = 106 := Classical.not_not.mp (fun g => c5 (hz5.mpr g))
            rw [hr]
            refine ⟨rg, d, _, by omega, c_bit, fun z7 m7 hz7 _ _ => ?_⟩
            obtain ⟨hz7, rfl⟩ := hz7
            rw [b6, t1] at hz7
            rw [e]
            refine ⟨?_, fun g => absurd g (by decide), fun g => absurd g (by decide), fun g => absurd g (by decide), fun _ => ?_, fun g => absurd g (by decide), fun g => absurd (by decide) g, rfl⟩
            · rw [hz7]; split <;> omega
            · rcases x6 with x | x
              · rw [hz7, x]; decide
              · rw [hz7, x]; decide
        · have e : kd T N q = 105 := Classical.not_not.mp (fun g => c4 (hz4.mpr g))
          rw [hr]
          refine ⟨rg, d, _, by omega, c_bit, fun z7 m7 hz7 _ _ => ?_⟩
          obtain ⟨hz7, rfl⟩ := hz7
          rw [b6, t0] at hz7
          rw [e]
          refine ⟨?_, fun g => absurd g (by decide), fun g => absurd g (by decide), fun _ => ?_, fun g => absurd g (by decide), fun g => absurd g (by decide), fun g => absurd (by decide) g, rfl⟩
          · rw [hz7]; split <;> omega
          · rcases x5 with x | x
            · rw [hz7, x]; decide
            · rw [hz7, x]; decide
      · have e : kd T N q = 104 := Classical.not_not.mp (fun g => c3 (hz3.mpr g))
        rw [e]
        exact ⟨fun g => absurd g (by decide), fun _ => rfl, fun g => absurd g (by decide), fun g => absurd g (by decide), fun g => absurd g (by decide), fun g => absurd (by decide) g, rfl⟩
  · have e : kd T N q = 100 := Classical.not_not.mp (fun g => c1 (hz1.mpr g))
    rw [e, hr, b1]
    refine ⟨rg, fun c => ⟨fun _ => ⟨fun _ => c, fun _ => rfl⟩, fun g => absurd g (by decide), fun g => absurd g (by decide), fun g => absurd g (by decide), fun g => absurd g (by decide), fun g => absurd (by decide) g, rfl⟩, fun c => ⟨fun _ => ⟨fun g => absurd g (by decide), fun g => absurd g c⟩, fun g => absurd g (by decide), fun g => absurd g (by decide), fun g => absurd g (by decide), fun g => absurd g (by decide), fun g => absurd (by decide) g, rfl⟩⟩
/-- the end of a line -/
theorem c_semi {m0 : MM} (h : LpM T N r R m0 m) {P : MM → Prop} (hP : ∀ m', LeM T N r R m0 m' → P m') : ∃ (e11 : Nat) (P12 : Int → MM → Prop), e11 < d + 4 ∧ CI l G Y_M_isSignHere e11 [.inr (.inr 70), .inl 59] m P12 ∧ (∀ z17 m18, P12 z17 m18 → inR z17 → wfM m18 → (∃ (e22 : Nat) (P23 : MM → Prop), e22 < d + 4 ∧ CV l G Y_M_must e22 [.inr (.inr 70), .inl z17] m18 P23 ∧ (∀ m29, P23 m29 → wfM m29 → (P m29)))) := by
  obtain ⟨hf, h⟩ := h
  rcases h with h | ⟨q, Y, c, hs, hH, hB⟩
  · refine ⟨d + 1, _, by omega, c_isSignHereM2 h.ts, fun z m1 hz _ _ => ?_⟩
    obtain ⟨-, rfl⟩ := hz
    refine ⟨d + 2, _, by omega, c_must h.ts, fun m2 h2 _ => hP m2 ?_⟩
    rw [h2.1 h.ne]
    exact ⟨hf, Or.inl h⟩
  · refine ⟨d + 1, _, by omega, c_signIs hH.1 (by decide), fun z m1 hz _ _ => ?_⟩
    obtain ⟨hz, rfl⟩ := hz
    refine ⟨d + 2, _, by omega, c_must hH.1.ts, fun m2 h2 _ => hP m2 ?_⟩
    obtain ⟨a, b⟩ := h2.2 hH.2.1
    rcases hs with ⟨s1, s2⟩ | ⟨s1, s2⟩
    · have g := b (fun e => hz.mp e s1)
      refine ⟨hf.tr (FrR.of g.1 (by decide)), Or.inr ⟨_, _, s2, ?_, (hB.fro g.1 (by decide)).zero⟩⟩
      rw [ud_at]
      exact hH.go g
    · obtain ⟨g1, g2⟩ := hH.mis (a (hz.mpr s1)) s2
      exact ⟨hf.tr (FrR.of g2 (by decide)), Or.inl g1⟩
end LinesM
