/-- one toppling of one plate -/
def u1 (p : Int) : Int → Int := fun j => if j = p then 1 else 0
section Topple
variable {l : Launch} {G : GT} {d : Nat} {m : MM} {b : Nat} {n : Nat} {D : Int → Int} {W : Int → Int → Int} {br : Int → Int}
theorem Lp_u1 (B : BW n D W br) {p i : Int} (hp : In n p) (hi : In n i) : Lp n W br (u1 p) i = (if i = p then br p * 1 else 0) - W p i * 1 := by
  have := Lp_one (n := n) (W := W) (br := br) p 1 i hp
  rw [show Lp n W br (u1 p) i = Lp n W br (fun j => if j = p then 1 else 0) i from rfl, this, (B.2.2.1 p i hp hi).2.2]
  by_cases e : i = p
  · subst e; rfl
  · rw [if_neg e, if_neg e]
theorem sm_u1 {p : Int} (hp : In n p) : sm n (fun j => D j * u1 p j) = D p := by
  have e : sm n (fun j => D j * u1 p j) = sm n (fun j => if j = p then D p else 0) := sm_congr (fun j _ => by
    unfold u1
    by_cases h : j = p
    · subst h; simp
    · simp [h])
  rw [e, sm_one, if_pos hp]
theorem c_toppleX (B : BW n D W br) (X : CX n D W br b m) (hg : ∀ i, In n i → 0 ≤ m 25 i ∧ m 25 i ≤ 1000000) (hd : 0 ≤ m 25 5 ∧ m 25 5 ≤ 1000000000) (ha : 0 ≤ m 28 1 ∧ m 28 1 ≤ 40) {x : Int} :
    CI l G Y_S_topple (d + 2) [.inr (.inr 0), .inl x] m (fun z m' => (In n x ∧ br x ≤ m 25 x → z = stS n D W br (m 25) (u1 x) x ∧ KX (stS n D W br (m 25) (u1 x)) m m') ∧ (¬ (In n x ∧ br x ≤ m 25 x) → z = -1 ∧ m = m')) := by
  have hn5 := B.1
  refine e_S_topple x (fun _ _ => ⟨b, X.2.1, X.1, d, _, by omega, c_has X.1, fun z m1 hz _ _ => ?_⟩)
  obtain ⟨rfl, rfl⟩ := hz
  rw [X.2.2.1]
  by_cases h : In n x
  · have hD := B.2.1 x h
    rw [if_pos h]
    refine ⟨fun c => absurd c (by decide), fun _ => ⟨by omega, b, X.2.1, X.1, by omega, ?_⟩⟩
    rw [X.2.2.2.2.1 x h]
    refine ⟨fun c => ⟨d, _, by omega, c_take (a := 32) (Or.inl rfl) (h := 25) (len := 8) rfl (by decide) (by decide) (by decide) (by decide), fun m1 h1 _ => ?_⟩, fun c => ⟨fun q => absurd q.2 (by omega), fun _ => ⟨rfl, rfl⟩⟩⟩
    obtain ⟨f1, t1, t2, t3⟩ := h1
    have X1 := X.fr f1 (by decide) (by decide)
    refine ⟨b, X1.2.1, X1.1, d + 1, _, by omega, c_tip (a := 32) (Or.inl rfl) X1.1 B X1.2.2 h (by decide) (fun i hi => ?_) ?_ ?_ ?_, fun m2 h2 _ => ?_⟩
    · have := hg i hi
      rw [(t1 i hi.1 (by omega)).1]; omega
    · rw [(t1 x h.1 (by omega)).2]; decide
    · rw [t2]; decide
    · rw [t3]; decide
    obtain ⟨f2, q1, -, -, -, q5⟩ := h2
    have f12 := f1.tr f2
    have X2 := X.fr f12 (by decide) (by decide)
    have e25 : m2 25 = m 25 := f12 25 (by decide)
    have e3 : m2 32 3 = D x := by rw [q5, t3]; omega
    refine ⟨d, _, by omega, c_layBack hn5 X2 (h := 25) (len := 8) rfl (by decide) (by decide) (Or.inl rfl) (by rw [e25, e3]; constructor <;> omega), fun m3 h3 _ => ?_⟩
    obtain ⟨f3, g3⟩ := h3
    have e : m3 25 = stS n D W br (m 25) (u1 x) := by
      funext i
      rw [g3 i]
      unfold stS
      by_cases ci : In n i
      · rw [if_pos ci, if_pos ci, Lp_u1 B h ci]
        have := q1 i ci
        rw [(t1 i ci.1 (by omega)).1] at this
        rw [show m2 33 i = m2 (32 + 1) i from rfl, this]; omega
      · rw [if_neg ci, if_neg ci, e25, e3, sm_u1 h]
    refine ⟨d + 1, _, by omega, c_keepKX ((f12.mono (fun b hb => List.mem_cons_of_mem _ hb)).tr (f3.mono (fun b hb => by simp only [List.mem_cons, List.not_mem_nil, or_false] at hb; simp [hb]))) ha, fun m4 h4 _ => ⟨by omega, fun _ => ?_, fun q => absurd ⟨h, c⟩ q⟩⟩
    rw [e] at h4
    exact ⟨by rw [h4.2.1], h4⟩
  · rw [if_neg h]
    exact ⟨fun _ => ⟨fun q => absurd q.1 h, fun _ => ⟨rfl, rfl⟩⟩, fun c => absurd rfl c⟩
theorem c_toppleM (B : BW n D W br) (X : BM n D W br m) (hg : ∀ i, In n i → 0 ≤ m 90 i ∧ m 90 i ≤ 1000000) (hd : 0 ≤ m 90 5 ∧ m 90 5 ≤ 1000000000) (ha : 0 ≤ m 70 45 ∧ m 70 45 ≤ 40) (ht : ∀ i, In n i → -1000000000 ≤ m 94 i ∧ m 94 i ≤ 1000000000) {x : Int} :
    CI l G Y_M_topple (d + 2) [.inr (.inr 70), .inl x] m (fun z m' => (In n x ∧ br x ≤ m 90 x → z = stS n D W br (m 90) (u1 x) x ∧ KM (stS n D W br (m 90) (u1 x)) m m' ∧ ∀ i, m' 94 i = m 94 i + (if i = x then 1 else 0)) ∧ (¬ (In n x ∧ br x ≤ m 90 x) → z = -1 ∧ m = m')) := by
  have hn5 := B.1
  refine e_M_topple x (fun _ _ => ⟨d + 1, _, by omega, c_isPlate B.1 X, fun z m1 hz _ _ => ?_⟩)
  obtain ⟨rfl, rfl⟩ := hz
  by_cases h : In n x
  · have hD := B.2.1 x h
    rw [if_pos h, Int.zero_add]
    refine ⟨fun c => absurd c (by decide), fun _ => ⟨by omega, by omega, d, _, by omega, c_brimOf hn5 X h, fun z m1 hz _ _ => ?_⟩⟩
    obtain ⟨rfl, rfl⟩ := hz
    refine ⟨fun c => ⟨d, _, by omega, c_keepAct ha, fun m1 h1 _ => ?_⟩, fun c => ⟨fun q => absurd q.2 (by omega), fun _ => ⟨rfl, rfl⟩⟩⟩
    obtain ⟨f1, k1, k2, k3⟩ := h1
    have X1 : BM n D W br m1 := X.fro f1 (by decide) (by decide) (by decide) (by decide) (by decide)
    have a1 : m1 90 = m 90 := f1.1 90 (by decide) (by decide)
    refine ⟨d + 1, _, by omega, c_layNow hn5 X1, fun m2 h2 _ => ?_⟩
    obtain ⟨f2, g2, -⟩ := h2
    rw [a1] at g2
    have b2 : m2 94 = m 94 := (f2.1 94 (by decide) (by decide)).trans (f1.1 94 (by decide) (by decide))
    rintro m3 rfl
    have f3 : Fro 70 [93] [41] m1 (up m2 70 41 0) := Fro_upo (f2.mono (fun _ q => q) (fun _ q => absurd q (by simp))) (by simp)
    have X3 : BM n D W br (up m2 70 41 0) := X1.fro f3 (by decide) (by decide) (by decide) (by decide) (by decide)
    refine ⟨d + 1, _, by omega, c_toppleIn B X3 h (by decide) (fun i hi => ?_) ?_ ?_, fun m4 h4 _ => ?_⟩
    · have := hg i hi
      rw [up_ne (by decide), g2 i hi]; omega
    · rw [up_ne (by decide), b2]; exact ht x h
    · rw [up_at]; decide
    obtain ⟨f4, q1, -, q3, q5⟩ := h4
    have X4 : BM n D W br m4 := X3.fro f4 (by decide) (by decide) (by decide) (by decide) (by decide)
    have a4 : m4 90 = m 90 := (f4.1 90 (by decide) (by decide)).trans ((f3.1 90 (by decide) (by decide)).trans a1)
    have e4 : m4 70 41 = D x := by rw [q5, up_at]; omega
    refine ⟨d + 1, _, by omega, c_bring hn5 X4 (by rw [a4, e4]; constructor <;> omega), fun m5 h5 _ => ?_⟩
    obtain ⟨f5, g5⟩ := h5
    have e : m5 90 = stS n D W br (m 90) (u1 x) := by
      funext i
      rw [g5 i]
      unfold stS
      by_cases ci : In n i
      · rw [if_pos ci, if_pos ci, Lp_u1 B h ci, q1 i ci, up_ne (by decide), g2 i ci]; omega
      · rw [if_neg ci, if_neg ci, a4, e4, sm_u1 h]
    have e70 : m5 70 = m4 70 := f5 70 (by decide)
    have e96 : m5 96 = m1 96 := (f5 96 (by decide)).trans ((f4.1 96 (by decide) (by decide)).trans (f3.1 96 (by decide) (by decide)))
    refine ⟨by omega, by omega, fun _ => ⟨by rw [e], ⟨⟨fun c hc hc2 => ?_, fun i hi => ?_⟩, e, ?_, ?_, fun k k0 => ?_⟩, fun i => ?_⟩, fun q => absurd ⟨h, c⟩ q⟩
    · simp only [List.mem_cons, List.not_mem_nil, or_false] at hc
      rw [f5 c (by simp only [List.mem_cons, List.not_mem_nil, or_false]; omega), f4.1 c (by simp only [List.mem_cons, List.not_mem_nil, or_false]; omega) hc2, f3.1 c (by simp only [List.mem_cons, List.not_mem_nil, or_false]; omega) hc2, f1.1 c (by simp only [List.mem_cons, List.not_mem_nil, or_false]; omega) hc2]
    · simp only [List.mem_cons, List.not_mem_nil, or_false] at hi
      rw [e70, f4.2 i (by simp only [List.mem_cons, List.not_mem_nil, or_false]; omega), f3.2 i (by simp only [List.mem_cons, List.not_mem_nil, or_false]; omega), f1.2 i (by simp only [List.mem_cons, List.not_mem_nil, or_false]; omega)]
    · rw [e70, f4.2 45 (by decide), f3.2 45 (by decide)]; exact k1
    · rw [e70, f4.2 46 (by decide), f3.2 46 (by decide)]; exact k2
    · rw [e96, k3 k, if_pos k0]
    · rw [f5 94 (by decide), q3 i, up_ne (by decide), b2]
  · rw [if_neg h]
    exact ⟨fun _ => ⟨fun q => absurd q.1 h, fun _ => ⟨rfl, rfl⟩⟩, fun c => absurd rfl c⟩
end Topple
