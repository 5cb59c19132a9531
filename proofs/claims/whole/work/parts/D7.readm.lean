/-! small steps of the reference's reader -/
section ReadM
variable {l : Launch} {G : GT} {d : Nat} {m : MM}
theorem TkM.rng {T : Int → Int} {N p tok a e num nm : Int} (h : TkM T N p tok a e num nm) (hp : 0 ≤ p ∧ p ≤ N) : p ≤ a ∧ a ≤ e ∧ e ≤ N := by
  obtain ⟨h1, h2⟩ := h
  have hpa := h1.1
  have top : ∀ {P : Int → Prop}, a < N → Run (fun t => t < N ∧ P t) a e → a ≤ e ∧ e ≤ N := fun {P} ha hr => by
    refine ⟨hr.1, ?_⟩
    rcases Int.lt_or_le N e with q | q
    · have := (hr.2.1 N (by omega) q).1
      omega
    · exact q
  rcases h2 with ⟨g1, g2, -⟩ | ⟨g1, -, g2, -⟩ | ⟨g1, -, g2, -⟩ | ⟨g1, -, -, g2, -⟩
  · omega
  · have := top g1 g2; omega
  · have := top g1 g2; omega
  · omega
/-- the token that the reference is at -/
def TsM (T : Int → Int) (N : Int) (m : MM) : Prop := m 70 3 = N ∧ N ≤ 1600 ∧ ∃ p, 0 ≤ p ∧ p ≤ N ∧ TkM T N p (m 70 8) (m 70 6) (m 70 7) (m 70 9) (m 70 10)
theorem TsM.at {T : Int → Int} {N : Int} (h : TsM T N m) : 0 ≤ m 70 6 ∧ m 70 6 ≤ m 70 7 ∧ m 70 7 ≤ N := by
  obtain ⟨-, -, p, p0, p1, h⟩ := h
  have := h.rng ⟨p0, p1⟩
  omega
theorem c_isGoodM2 : CI l G Y_M_isGood d [.inr (.inr 70)] m (fun z m' => (z = 0 ↔ m 70 4 ≠ 0) ∧ m = m') :=
  e_M_isGood (fun _ => ⟨fun c => ⟨⟨fun _ => c, fun _ => rfl⟩, rfl⟩, fun c => ⟨⟨fun q => absurd q (by decide), fun q => absurd q c⟩, rfl⟩⟩)
/-- the first fault is kept -/
def FlM (x k : Int) (m m' : MM) : Prop := (m 70 4 ≤ 0 → m' = up (up m 70 4 x) 70 5 k) ∧ (¬ m 70 4 ≤ 0 → m' = m)
theorem c_failsM2 {x k : Int} : CV l G Y_M_fails d [.inr (.inr 70), .inl x, .inl k] m (FlM x k m) :=
  e_M_fails x k (fun _ _ _ => ⟨fun c m1 e1 m2 e2 => ⟨fun _ => by rw [e2, e1], fun q => absurd c q⟩, fun c => ⟨fun q => absurd q c, fun _ => rfl⟩⟩)
theorem c_misplacedM2 : CV l G Y_M_misplaced (d + 1) [.inr (.inr 70)] m (FlM (if m 70 8 = 1 then 1 else 2) (m 70 6) m) := by
  refine e_M_misplaced (fun _ => ⟨fun c => ⟨d, _, by omega, c_failsM2, fun m1 h1 _ => ?_⟩, fun c => ⟨d, _, by omega, c_failsM2, fun m1 h1 _ => ?_⟩⟩)
  · rw [if_neg c]; exact h1
  · rw [if_pos (Classical.not_not.mp c)]; exact h1
theorem c_isWordM2 {w : Int} : CI l G Y_M_isWord d [.inr (.inr 70), .inr (.inl w)] m (fun z m' => (z = 0 ↔ ¬ (m 70 8 = 3 ∧ m 70 10 = w)) ∧ m = m') :=
  e_M_isWord w (fun _ _ => ⟨fun c => ⟨⟨fun _ q => c q.1, fun _ => rfl⟩, rfl⟩, fun c => ⟨fun c2 => ⟨⟨fun _ q => c2 q.2, fun _ => rfl⟩, rfl⟩, fun c2 => ⟨⟨fun q => absurd q (by decide), fun q => absurd ⟨Classical.not_not.mp c, Classical.not_not.mp c2⟩ q⟩, rfl⟩⟩⟩)
theorem c_isSignHereM2 {N c : Int} (h : TsM (tx m) N m) : CI l G Y_M_isSignHere (d + 1) [.inr (.inr 70), .inl c] m (fun z m' => (z = 0 ↔ ¬ (m 70 8 = 5 ∧ tx m (m 70 6) = c)) ∧ m = m') := by
  have ha := h.at
  refine e_M_isSignHere c (fun _ _ => ⟨fun q => ⟨⟨fun _ g => q g.1, fun _ => rfl⟩, rfl⟩, fun q => ⟨d, _, by omega, c_signM2 (N := N) ha.1 ⟨h.1, h.2.1⟩, fun z m1 hz _ _ => ?_⟩⟩)
  obtain ⟨z1, -, rfl⟩ := hz
  have q5 := Classical.not_not.mp q
  have hlt : m 70 6 < N := by
    obtain ⟨-, -, p, p0, p1, -, hk⟩ := h
    rcases hk with ⟨g1, -, g2⟩ | ⟨g1, -⟩ | ⟨g1, -⟩ | ⟨g1, -⟩
    · omega
    · exact g1
    · exact g1
    · exact g1
  rw [z1 hlt]
  exact ⟨fun g => ⟨⟨fun _ r => g r.2, fun _ => rfl⟩, rfl⟩, fun g => ⟨⟨fun r => absurd r (by decide), fun r => absurd ⟨q5, Classical.not_not.mp g⟩ r⟩, rfl⟩⟩
/-- from a token to the next -/
theorem c_goOnM2 {N : Int} (h : TsM (tx m) N m) : CV l G Y_M_goOn (d + 1) [.inr (.inr 70)] m (fun m' => Fro 70 [] [6, 7, 8, 9, 10] m m' ∧ TkM (tx m) N (m 70 7) (m' 70 8) (m' 70 6) (m' 70 7) (m' 70 9) (m' 70 10) ∧ tx m' = tx m ∧ TsM (tx m) N m') := by
  have ha := h.at
  refine (c_goOn (l := l) (G := G) (d := d) ⟨h.1, h.2.1⟩ ⟨rfl, by omega, ha.2.2⟩).imp (fun m' hm => ⟨hm.1, hm.2, ?_, ?_, h.2.1, m 70 7, by omega, ha.2.2, hm.2⟩)
  · funext k
    unfold tx
    rw [hm.1.1 72 (by decide) (by decide)]
  · rw [hm.1.2 3 (by decide)]; exact h.1
end ReadM
