/-! steps of the machine, told apart -/
section Apart
variable {T : Int → Int} {N : Int} {S : Pile} {p u : Int} {cs : List Int} {R : Rs} {e : Int × Int} {k : Nat}
theorem usF_kd (h : usF T N p ≠ -1) : kd T N p = 3 ∨ (111 ≤ kd T N p ∧ kd T N p ≤ 114) := by
  unfold usF at h
  by_cases q : kd T N p = 3
  · exact Or.inl q
  · rw [if_neg q] at h
    by_cases q1 : kd T N p = 111
    · omega
    · rw [if_neg q1] at h
      by_cases q2 : kd T N p = 112
      · omega
      · rw [if_neg q2] at h
        by_cases q3 : kd T N p = 113
        · omega
        · rw [if_neg q3] at h
          by_cases q4 : kd T N p = 114
          · omega
          · rw [if_neg q4] at h; exact absurd rfl h
theorem vl_num (hp : 0 ≤ p ∧ p ≤ N) (hk : kd T N p = 3) : 0 ≤ vl T N p ∧ vl T N p ≤ 9999 := by
  obtain ⟨-, h2⟩ := runE_spec (P := fun t => t < N ∧ (T t = 32 ∨ T t = 10)) (N := N) (p := p) (fun t h => h.1) hp.2
  have ha : plc T N p = runE (fun t => t < N ∧ (T t = 32 ∨ T t = 10)) p := rfl
  rw [← ha] at h2
  unfold kd kdF at hk
  unfold vl vlF
  by_cases q : N ≤ plc T N p
  · rw [if_pos q] at hk; omega
  · rw [if_neg q] at hk
    by_cases ql : 97 ≤ T (plc T N p) ∧ T (plc T N p) ≤ 122
    · rw [if_pos ql] at hk
      by_cases q8 : 8 < enW T N (plc T N p) - plc T N p
      · rw [if_pos q8] at hk; omega
      · rw [if_neg q8] at hk
        rcases Classical.em (nmF T (plc T N p) (enW T N (plc T N p) - plc T N p).toNat ∈ KW) with g | g
        · have := kwF_in.1 g; omega
        · have := kwF_in.2 g; omega
    · rw [if_neg ql] at hk ⊢
      by_cases qd : 48 ≤ T (plc T N p) ∧ T (plc T N p) ≤ 57
      · obtain ⟨g1, g2⟩ := runE_spec (P := fun t => t < N ∧ isD (T t)) (N := N) (p := plc T N p) (fun t h => h.1) h2
        have he : enD T N (plc T N p) = runE (fun t => t < N ∧ isD (T t)) (plc T N p) := rfl
        rw [← he] at g1 g2
        have g3 := g1.1
        have := nuF_rng (T := T) (a := plc T N p) (enD T N (plc T N p) - plc T N p).toNat (fun t t0 t1 => (g1.2.1 t t0 (by omega)).2)
        exact ⟨this.2.2.2.2.1, this.2.2.2.2.2⟩
      · rw [if_neg qd] at hk
        by_cases qs : T (plc T N p) ∈ SGN
        · rw [if_pos qs] at hk
          have := sgn_rng qs; omega
        · rw [if_neg qs] at hk; omega
theorem usF_ne (hp : 0 ≤ p ∧ p ≤ N) (h : kd T N p = 3 ∨ (111 ≤ kd T N p ∧ kd T N p ≤ 114)) : usF T N p ≠ -1 ∧ 0 ≤ usF T N p ∧ usF T N p ≤ 10003 := by
  unfold usF
  by_cases q : kd T N p = 3
  · have := vl_num hp q
    rw [if_pos q]; omega
  · rw [if_neg q]
    have h4 : kd T N p = 111 ∨ kd T N p = 112 ∨ kd T N p = 113 ∨ kd T N p = 114 := by omega
    rcases h4 with g | g | g | g <;> rw [g] <;> decide
theorem En.units (h : En T N (k + 1) true S p u cs R) :
    (kd T N p = 110 → (tpF S ≤ 3 ∨ 7 ≤ tpF S) → wnF S ≠ 7 → En T N k true ((3, 10010) :: S) (en T N p) u cs R) ∧
    (kd T N p = 40 → ¬ (wnF S = 7 ∨ 30 ≤ u) → En T N k true ((7, 10010) :: S) (en T N p) (u + 1) cs R) ∧
    (usF T N p ≠ -1 → ¬ 30 ≤ u → En T N k false S (en T N p) (u + 1) (cs ++ [usF T N p]) R) ∧
    (((kd T N p = 110 ∧ (tpF S ≤ 3 ∨ 7 ≤ tpF S) ∧ wnF S = 7) ∨ (kd T N p = 110 ∧ ¬ (tpF S ≤ 3 ∨ 7 ≤ tpF S)) ∨ (kd T N p = 40 ∧ (wnF S = 7 ∨ 30 ≤ u)) ∨ (kd T N p ≠ 110 ∧ kd T N p ≠ 40 ∧ usF T N p = -1) ∨ (usF T N p ≠ -1 ∧ 30 ≤ u)) → R = .inl (bdF T N p)) := by
  have hb : kd T N p ≠ 1 → R = .inl (2, plc T N p) → R = .inl (bdF T N p) := fun q g => by rw [g, bdF_ne.2 q]
  have hu : usF T N p ≠ -1 → kd T N p = 3 ∨ (111 ≤ kd T N p ∧ kd T N p ≤ 114) := usF_kd
  rcases h with ⟨a1, a2, a3, a4⟩ | ⟨a1, a2, a3, a4⟩ | ⟨a1, a2, a4⟩ | ⟨a1, a2, a4⟩ | ⟨a1, a2, a4⟩ | ⟨a1, a2, a3, a4⟩ | ⟨a1, a2, a4⟩ | ⟨a1, a2, a4⟩
  · exact ⟨fun _ _ q => absurd a3 q, fun q => by omega, fun q => by have := hu q; omega, fun _ => hb (by omega) a4⟩
  · exact ⟨fun _ _ _ => a4, fun q => by omega, fun q => by have := hu q; omega, fun q => by
      exfalso
      rcases q with q | q | q | q | q
      · exact a3 q.2.2
      · exact q.2 a2
      · omega
      · omega
      · have := hu q.1; omega⟩
  · exact ⟨fun _ q => absurd q a2, fun q => by omega, fun q => by have := hu q; omega, fun _ => hb (by omega) a4⟩
  · exact ⟨fun q => by omega, fun _ q => absurd a2 q, fun q => by have := hu q; omega, fun _ => hb (by omega) a4⟩
  · exact ⟨fun q => by omega, fun _ _ => a4, fun q => by have := hu q; omega, fun q => by
      exfalso
      rcases q with q | q | q | q | q
      · omega
      · omega
      · exact a2 q.2
      · omega
      · have := hu q.1; omega⟩
  · exact ⟨fun q => by omega, fun q => by omega, fun q => absurd a3 q, fun _ => a4⟩
  · have := hu a1
    exact ⟨fun q => by omega, fun q => by omega, fun _ q => absurd a2 q, fun _ => hb (by omega) a4⟩
  · have := hu a1
    exact ⟨fun q => by omega, fun q => by omega, fun _ _ => a4, fun q => by
      exfalso
      rcases q with q | q | q | q | q
      · omega
      · omega
      · omega
      · exact a1 q.2.2
      · exact a2 q.2⟩
theorem En.beh (h : En T N (k + 1) false (e :: S) p u cs R) :
    (rkF (kd T N p) = 4 → cmpd (e :: S) → R = .inl (2, plc T N p)) ∧
    (¬ (rkF (kd T N p) = 4 ∧ cmpd (e :: S)) → (e.1 ≤ 6 ∧ rkF (kd T N p) ≤ e.1) → En T N k false S p u (cs ++ [e.2]) R) ∧
    (¬ (rkF (kd T N p) = 4 ∧ cmpd (e :: S)) → ¬ (e.1 ≤ 6 ∧ rkF (kd T N p) ≤ e.1) → 0 < rkF (kd T N p) → En T N k true ((rkF (kd T N p), sgF (kd T N p)) :: e :: S) (en T N p) u cs R) ∧
    (¬ e.1 ≤ 6 → rkF (kd T N p) = 0 → e.1 = 7 → (kd T N p = 41 → En T N k false S (en T N p) u cs R) ∧ (kd T N p ≠ 41 → R = .inl (bdF T N p))) ∧
    (¬ e.1 ≤ 6 → rkF (kd T N p) = 0 → e.1 ≠ 7 → En T N k false S p u cs R) := by
  rcases h with ⟨a1, a2, a4⟩ | ⟨a1, a2, a4⟩ | ⟨a1, a2, a3, a4⟩ | ⟨a1, a2, a3, a4, a5⟩ | ⟨a1, a2, a3, a4, a5⟩ | ⟨a1, a2, a3, a4⟩
  · exact ⟨fun _ _ => a4, fun q => absurd ⟨a1, a2⟩ q, fun q => absurd ⟨a1, a2⟩ q, fun _ q => by omega, fun _ q => by omega⟩
  · exact ⟨fun q g => absurd ⟨q, g⟩ a1, fun _ _ => a4, fun _ q => absurd a2 q, fun q => absurd a2.1 q, fun q => absurd a2.1 q⟩
  · exact ⟨fun q g => absurd ⟨q, g⟩ a1, fun _ q => absurd q a2, fun _ _ _ => a4, fun _ q => by omega, fun _ q => by omega⟩
  · exact ⟨fun q => by omega, fun _ q => absurd q.1 a1, fun _ _ q => by omega, fun _ _ _ => ⟨fun _ => a5, fun q => absurd a4 q⟩, fun _ _ q => absurd a3 q⟩
  · exact ⟨fun q => by omega, fun _ q => absurd q.1 a1, fun _ _ q => by omega, fun _ _ _ => ⟨fun q => absurd q a4, fun _ => a5⟩, fun _ _ q => absurd a3 q⟩
  · exact ⟨fun q => by omega, fun _ q => absurd q.1 a1, fun _ _ q => by omega, fun _ _ q => absurd q a3, fun _ _ _ => a4⟩
theorem CoM.unit {r : Int} {m m1 m2 : MM} (h : CoM T N r p u cs m) (e1 : m1 = up m 75 r (u + 1)) (e2 : m2 = up m1 70 33 (u + 1)) : CoM T N r p (u + 1) cs m2 ∧ (PlM S m → PlM S m2) ∧ FrM r m m2 := by
  obtain ⟨h1, h2, h3, h4, h5, h6⟩ := h
  have f : Fro 70 [75] [33] m m2 := ⟨fun b hb h7 => by rw [e2, up_ne h7, e1, up_ne (fun q => hb (by rw [q]; simp))], fun i hi => by rw [e2, up_off (fun q => hi (by rw [q]; simp)), e1, up_ne (by decide)]⟩
  refine ⟨⟨h1.fr f (by decide) (by decide), by rw [f.2 4 (by decide)]; exact h2, by rw [f.2 29 (by decide), f.2 5 (by decide)]; exact h3, ⟨by rw [e2, up_ne (by decide), e1, up_at], by rw [e2, up_at]⟩, by rw [f.2 30 (by decide)]; exact h5, fun j s hs => ?_⟩, fun g => ⟨by rw [f.2 32 (by decide)]; exact g.1, g.2.1.congr (fun i _ _ => ⟨by rw [f.1 87 (by decide) (by decide)], by rw [f.1 88 (by decide) (by decide)]⟩), by rw [f.2 31 (by decide)]; exact g.2.2⟩, f.mono (by simp) (by simp), fun i hi => by rw [e2, up_ne (by decide), e1, up_off hi], fun j _ => ⟨by rw [f.1 85 (by decide) (by decide)], by rw [f.1 86 (by decide) (by decide)]⟩⟩
  rw [f.1 85 (by decide) (by decide), f.1 86 (by decide) (by decide)]
  exact h6 j s hs
/-- behind one step -/
def NxM (T : Int → Int) (N r : Int) (k : Nat) (R : Rs) (m : MM) (z : Int) (m' : MM) : Prop :=
  FrM r m m' ∧ ((∃ f, R = .inl f ∧ FtM f m' ∧ TsM (tx m') N m') ∨ ∃ (k' : Nat) (w : Bool) (S : Pile) (p u : Int) (cs : List Int), k' ≤ k ∧ z = (if w = true then 1 else 0) ∧ (w = true → S ≠ []) ∧ En T N k' w S p u cs R ∧ FmS T N r w S p u cs m')
end Apart
