/-! signs and words here; a unit read by the reference -/
theorem up_same {m : MM} {a : Nat} {i v : Int} (h : v = m a i) : up m a i v = m := by
  funext b j
  unfold up
  by_cases q : b = a ∧ j = i
  · rw [if_pos q, q.1, q.2]; exact h
  · rw [if_neg q]
theorem kd_lt {T : Int → Int} {N p : Int} (h : kd T N p ≠ 0) : plc T N p < N := by
  rcases Int.lt_or_le (plc T N p) N with q | q
  · exact q
  · unfold kd kdF at h
    rw [if_pos q] at h
    exact absurd rfl h
section UnitM
variable {l : Launch} {G : GT} {d : Nat} {m : MM} {T : Int → Int} {N p r u : Int} {cs : List Int} {S : Pile} {R : Rs}
theorem c_emit {x y : Int} (h : 0 ≤ m 70 30 ∧ m 70 30 < 1120) : CV l G Y_M_emit d [.inr (.inr 70), .inl x, .inl y] m (EmM x y m) := by
  refine e_M_emit x y (fun _ _ _ => ⟨h, fun m1 e1 => ?_⟩)
  have k1 : m1 70 30 = m 70 30 := by rw [e1, up_ne (by decide)]
  refine ⟨by rw [k1]; exact h, fun m2 e2 => ?_⟩
  have k2 : m2 70 30 = m 70 30 := by rw [e2, up_ne (by decide), k1]
  refine ⟨by rw [k2]; unfold inR; omega, fun m3 e3 => ?_⟩
  show m3 = _
  rw [e3, k2, e2, k1, e1]
theorem c_pushE {x y : Int} (h : 0 ≤ m 70 32 ∧ m 70 32 < 90) : CV l G Y_M_pushE d [.inr (.inr 70), .inl x, .inl y] m (PuM x y m) := by
  refine e_M_pushE x y (fun _ _ _ => ⟨h, fun m1 e1 => ?_⟩)
  have k1 : m1 70 32 = m 70 32 := by rw [e1, up_ne (by decide)]
  refine ⟨by rw [k1]; exact h, fun m2 e2 => ?_⟩
  have k2 : m2 70 32 = m 70 32 := by rw [e2, up_ne (by decide), k1]
  refine ⟨by rw [k2]; unfold inR; omega, fun m3 e3 => ?_⟩
  show m3 = _
  rw [e3, k2, e2, k1, e1]
theorem c_wordIs (h : TpM T N p m) {w : Int} (hw : w ∈ KW) : CI l G Y_M_isWord d [.inr (.inr 70), .inr (.inl w)] m (fun z m' => (z = 0 ↔ kd T N p ≠ kwF w) ∧ m = m') :=
  c_isWordM2.imp (fun z m' hz => ⟨⟨fun q g => hz.1.mp q ((h.word hw).mpr g), fun q => hz.1.mpr (fun g => q ((h.word hw).mp g))⟩, hz.2⟩)
theorem c_signIs (h : TpM T N p m) {c : Int} (hc : c ∈ SGN) : CI l G Y_M_isSignHere (d + 1) [.inr (.inr 70), .inl c] m (fun z m' => (z = 0 ↔ kd T N p ≠ c) ∧ m = m') :=
  (c_isSignHereM2 h.ts).imp (fun z m' hz => ⟨⟨fun q g => hz.1.mp q ((h.sign hc).mpr g), fun q => hz.1.mpr (fun g => q ((h.sign hc).mp g))⟩, hz.2⟩)
/-- the letter of a word that is a unit -/
theorem c_wordHere (h : TpM T N p m) : CI l G Y_M_wordHere (d + 1) [.inr (.inr 70)] m (fun z m' => (kd T N p = 111 → z = 103) ∧ (kd T N p = 112 → z = 98) ∧ (kd T N p = 113 → z = 117) ∧ (kd T N p = 114 → z = 100) ∧ (¬ (111 ≤ kd T N p ∧ kd T N p ≤ 114) → z = 0) ∧ m = m') := by
  refine e_M_wordHere (fun _ => ⟨d, _, by omega, c_wordIs h (by decide), fun z1 m1 hz1 _ _ => ?_⟩)
  obtain ⟨hz1, rfl⟩ := hz1
  have k1 : kwF 113740958232179 = 111 := by decide
  rw [k1] at hz1
  refine ⟨fun c1 => ⟨d, _, by omega, c_wordIs h (by decide), fun z2 m2 hz2 _ _ => ?_⟩, fun c1 => ⟨fun _ => rfl, fun q => absurd (hz1.mpr (by omega)) c1, fun q => absurd (hz1.mpr (by omega)) c1, fun q => absurd (hz1.mpr (by omega)) c1, fun q => absurd (hz1.mpr (by omega)) c1, rfl⟩⟩
  obtain ⟨hz2, rfl⟩ := hz2
  have k2 : kwF 1651665261 = 112 := by decide
  rw [k2] at hz2
  have n1 := hz1.mp c1
  refine ⟨fun c2 => ⟨d, _, by omega, c_wordIs h (by decide), fun z3 m3 hz3 _ _ => ?_⟩, fun c2 => ⟨fun q => absurd q n1, fun _ => rfl, fun q => absurd (hz2.mpr (by omega)) c2, fun q => absurd (hz2.mpr (by omega)) c2, fun q => absurd (hz2.mpr (by omega)) c2, rfl⟩⟩
  obtain ⟨hz3, rfl⟩ := hz3
  have k3 : kwF 121450625394034 = 113 := by decide
  rw [k3] at hz3
  have n2 := hz2.mp c2
  refine ⟨fun c3 => ⟨d, _, by omega, c_wordIs h (by decide), fun z4 m4 hz4 _ _ => ?_⟩, fun c3 => ⟨fun q => absurd q n1, fun q => absurd q n2, fun _ => rfl, fun q => absurd (hz3.mpr (by omega)) c3, fun q => absurd (hz3.mpr (by omega)) c3, rfl⟩⟩
  obtain ⟨hz4, rfl⟩ := hz4
  have k4 : kwF 6578553 = 114 := by decide
  rw [k4] at hz4
  have n3 := hz3.mp c3
  exact ⟨fun c4 => ⟨fun q => absurd q n1, fun q => absurd q n2, fun q => absurd q n3, fun q => absurd q (hz4.mp c4), fun _ => rfl, rfl⟩, fun c4 => ⟨fun q => absurd q n1, fun q => absurd q n2, fun q => absurd q n3, fun _ => rfl, fun q => absurd (hz4.mpr (by omega)) c4, rfl⟩⟩
theorem c_rankHere (h : TpM T N p m) : CI l G Y_M_rankHere (d + 2) [.inr (.inr 70)] m (fun z m' => z = rkF (kd T N p) ∧ m = m') := by
  unfold rkF
  refine e_M_rankHere (fun _ => ⟨d, _, by omega, c_wordIs h (by decide), fun z1 m1 hz1 _ _ => ?_⟩)
  obtain ⟨hz1, rfl⟩ := hz1
  have k1 : kwF 6385252 = 109 := by decide
  rw [k1] at hz1
  refine ⟨fun c1 => ⟨d, _, by omega, c_wordIs h (by decide), fun z2 m2 hz2 _ _ => ?_⟩, fun c1 => ⟨?_, rfl⟩⟩
  · obtain ⟨hz2, rfl⟩ := hz2
    have k2 : kwF 28530 = 108 := by decide
    rw [k2] at hz2
    have n1 := hz1.mp c1
    rw [if_neg n1]
    refine ⟨fun c2 => ?_, fun c2 => ⟨?_, rfl⟩⟩
    · have n2 := hz2.mp c2
      rw [if_neg n2]
      refine ⟨d + 1, _, by omega, c_signIs h (by decide), fun z3 m3 hz3 _ _ => ?_⟩
      obtain ⟨hz3, rfl⟩ := hz3
      refine ⟨fun c3 => ⟨?_, rfl⟩, fun c3 => ⟨d + 1, _, by omega, c_signIs h (by decide), fun z4 m4 hz4 _ _ => ?_⟩⟩
      · have : kd T N p = 60 := Classical.not_not.mp (fun q => c3 (hz3.mpr q))
        rw [if_pos (show kd T N p = 60 ∨ kd T N p = 62 ∨ kd T N p = 61 by omega)]
      · obtain ⟨hz4, rfl⟩ := hz4
        have n3 := hz3.mp (Classical.not_not.mp c3)
        refine ⟨fun c4 => ⟨?_, rfl⟩, fun c4 => ⟨d + 1, _, by omega, c_signIs h (by decide), fun z5 m5 hz5 _ _ => ?_⟩⟩
        · have : kd T N p = 62 := Classical.not_not.mp (fun q => c4 (hz4.mpr q))
          rw [if_pos (show kd T N p = 60 ∨ kd T N p = 62 ∨ kd T N p = 61 by omega)]
        · obtain ⟨hz5, rfl⟩ := hz5
          have n4 := hz4.mp (Classical.not_not.mp c4)
          refine ⟨fun c5 => ⟨d + 1, _, by omega, c_signIs h (by decide), fun z6 m6 hz6 _ _ => ?_⟩, fun c5 => ⟨?_, rfl⟩⟩
          · obtain ⟨hz6, rfl⟩ := hz6
            have n5 := hz5.mp c5
            rw [if_neg (show ¬ (kd T N p = 60 ∨ kd T N p = 62 ∨ kd T N p = 61) by omega)]
            refine ⟨fun c6 => ⟨?_, rfl⟩, fun c6 => ⟨d + 1, _, by omega, c_signIs h (by decide), fun z7 m7 hz7 _ _ => ?_⟩⟩
            · have : kd T N p = 43 := Classical.not_not.mp (fun q => c6 (hz6.mpr q))
              rw [if_pos (show kd T N p = 43 ∨ kd T N p = 45 by omega)]
            · obtain ⟨hz7, rfl⟩ := hz7
              have n6 := hz6.mp (Classical.not_not.mp c6)
              refine ⟨fun c7 => ⟨d + 1, _, by omega, c_signIs h (by decide), fun z8 m8 hz8 _ _ => ?_⟩, fun c7 => ⟨?_, rfl⟩⟩
              · obtain ⟨hz8, rfl⟩ := hz8
                have n7 := hz7.mp c7
                rw [if_neg (show ¬ (kd T N p = 43 ∨ kd T N p = 45) by omega)]
                refine ⟨fun c8 => ⟨?_, rfl⟩, fun c8 => ⟨d + 1, _, by omega, c_signIs h (by decide), fun z9 m9 hz9 _ _ => ?_⟩⟩
                · have : kd T N p = 42 := Classical.not_not.mp (fun q => c8 (hz8.mpr q))
                  rw [if_pos (show kd T N p = 42 ∨ kd T N p = 47 ∨ kd T N p = 37 by omega)]
                · obtain ⟨hz9, rfl⟩ := hz9
                  have n8 := hz8.mp (Classical.not_not.mp c8)
                  refine ⟨fun c9 => ⟨?_, rfl⟩, fun c9 => ⟨d + 1, _, by omega, c_signIs h (by decide), fun z10 m10 hz10 _ _ => ?_⟩⟩
                  · have : kd T N p = 47 := Classical.not_not.mp (fun q => c9 (hz9.mpr q))
                    rw [if_pos (show kd T N p = 42 ∨ kd T N p = 47 ∨ kd T N p = 37 by omega)]
                  · obtain ⟨hz10, rfl⟩ := hz10
                    have n9 := hz9.mp (Classical.not_not.mp c9)
                    refine ⟨fun c10 => ⟨?_, rfl⟩, fun c10 => ⟨?_, rfl⟩⟩
                    · have n10 := hz10.mp c10
                      rw [if_neg (show ¬ (kd T N p = 42 ∨ kd T N p = 47 ∨ kd T N p = 37) by omega)]
                    · have : kd T N p = 37 := Classical.not_not.mp (fun q => c10 (hz10.mpr q))
                      rw [if_pos (show kd T N p = 42 ∨ kd T N p = 47 ∨ kd T N p = 37 by omega)]
              · have : kd T N p = 45 := Classical.not_not.mp (fun q => c7 (hz7.mpr q))
                rw [if_pos (show kd T N p = 43 ∨ kd T N p = 45 by omega)]
          · have : kd T N p = 61 := Classical.not_not.mp (fun q => c5 (hz5.mpr q))
            rw [if_pos (show kd T N p = 60 ∨ kd T N p = 62 ∨ kd T N p = 61 by omega)]
    · rw [if_pos (Classical.not_not.mp (fun q => c2 (hz2.mpr q)))]
  · rw [if_pos (Classical.not_not.mp (fun q => c1 (hz1.mpr q)))]
theorem c_isCompared {S : Pile} (hw : stW S) (hp : PlM S m) (hl : S.length ≤ 56) (hS : S ≠ []) : CI l G Y_M_isCompared d [.inr (.inr 70)] m (fun z m' => (z = 0 ↔ ¬ cmpd S) ∧ m = m') := by
  have loop : ∀ (S : Pile), stW S → S ≠ [] → PiM S m → S.length ≤ 56 → Wq l G false Y_M_isCompared d (QI fun z m' => (z = 0 ↔ ¬ cmpd S) ∧ m = m') 7 [(0, .inr (.inr 70)), (1, .inl ((S.length : Int) - 1))] [] m := by
    intro S
    induction S with
    | nil => intro _ h; exact absurd rfl h
    | cons e S ih =>
      intro hw _ hp hl
      obtain ⟨w1, w2, w3, w4, w5⟩ := hw
      obtain ⟨p1, p2, p3⟩ := hp
      have hlc : (((e :: S).length : Nat) : Int) - 1 = S.length := by rw [List.length_cons]; omega
      have hl' : S.length ≤ 55 := by rw [List.length_cons] at hl; omega
      rw [hlc]
      have nx : (e.1 = 5 ∨ e.1 = 6) → Wq l G false Y_M_isCompared d (QI fun z m' => (z = 0 ↔ ¬ cmpd (e :: S)) ∧ m = m') 7 [(0, .inr (.inr 70)), (1, .inl ((S.length : Int) + -1))] [] m := fun q => by
        have hS : S ≠ [] := fun g => by have := w4.mpr g; omega
        have := ih w5 hS p3 (by omega)
        have he : cmpd (e :: S) ↔ cmpd S := ⟨fun g => by
          rcases g with g | g
          · exact g.2
          · omega, fun g => Or.inl ⟨q, g⟩⟩
        rw [show (S.length : Int) + -1 = S.length - 1 by omega]
        have e2 : (QI fun z m' => (z = 0 ↔ ¬ cmpd (e :: S)) ∧ m = m') = (QI fun z m' => (z = 0 ↔ ¬ cmpd S) ∧ m = m') := by
          have : cmpd (e :: S) = cmpd S := propext he
          rw [this]
        rw [e2]
        exact this
      refine s_M_isCompared_7 _ (fun _ _ => ?_)
      rw [p1]
      refine ⟨⟨by omega, by omega⟩, fun c => ⟨by unfold inR; omega, nx (Or.inl c)⟩, fun c => ⟨⟨by omega, by omega⟩, fun c2 => ⟨⟨by omega, by omega⟩, fun c3 => ⟨⟨fun _ g => ?_, fun _ => rfl⟩, rfl⟩, fun c3 => ⟨⟨fun q => absurd q (by decide), fun q => absurd (Or.inr (Classical.not_not.mp c3)) q⟩, rfl⟩⟩, fun c2 => ⟨by unfold inR; omega, nx (Or.inr (Classical.not_not.mp c2))⟩⟩⟩
      rcases g with g | g
      · omega
      · exact c3 g
  refine e_M_isCompared (fun _ => ⟨by rw [hp.1]; unfold inR; omega, ?_⟩)
  rw [hp.1]
  exact loop S hw hS hp.2.1 hl
end UnitM
