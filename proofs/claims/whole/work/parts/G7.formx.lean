/-! a formula read by the class: what it holds -/
def rgX (b : Nat) (a : Nat) (i : Int) : Prop := (a = 2 ∧ (i = 6 ∨ i = 7)) ∨ (a = 3 ∧ (i = 3 ∨ i = 4 ∨ i = 5 ∨ i = 6)) ∨ (a = b ∧ i = 4) ∨ (a = b + 6 ∧ i = 2) ∨ a = b + 7
def FrX (b : Nat) (m m' : MM) : Prop := ∀ a i, ¬ rgX b a i → m' a i = m a i
section FormX
variable {l : Launch} {G : GT} {d : Nat} {m m' m1 : MM} {b : Nat} {T : Int → Int} {N p u : Int} {cs : List Int}
theorem FrX.rf : FrX b m m := fun _ _ _ => rfl
theorem FrX.tr (h : FrX b m m1) (g : FrX b m1 m') : FrX b m m' := fun a i hi => (g a i hi).trans (h a i hi)
theorem FrX.pt {a : Nat} {i v : Int} (e : m' = up m a i v) (h : rgX b a i) : FrX b m m' := fun c j hj => by
  rw [e]
  unfold up
  rw [if_neg (fun q => hj (by rw [q.1, q.2]; exact h))]
theorem FrX.next (h : Fro 3 [] [3, 4, 5, 6] m m') : FrX b m m' := fun a i hi => by
  by_cases q : a = 3
  · rw [q]
    exact h.2 i (fun g => hi (Or.inr (Or.inl ⟨q, by simp only [List.mem_cons, List.not_mem_nil, or_false] at g; exact g⟩)))
  · rw [h.1 a (by simp) q]
/-- at a token, without a fault, with these signs -/
def FxS (T : Int → Int) (N : Int) (b : Nat) (p u : Int) (cs : List Int) (m : MM) : Prop := TpX T N p m ∧ m 2 6 = 0 ∧ m 2 7 = -1 ∧ (m 2 2 = b ∧ isB b) ∧ (m b 4 = u ∧ 0 ≤ u ∧ u ≤ 30) ∧ CF cs (b + 6) m ∧ (cs.length : Int) ≤ 9 * u
/-- a fault, told -/
def FaX (b : Nat) (f : Int × Int) (m : MM) : Prop := m 2 6 = f.1 ∧ m 2 7 = f.2 ∧ f.1 ≠ 0 ∧ (m 2 2 = b ∧ isB b) ∧ 0 ≤ m (b + 6) 2 ∧ m (b + 6) 2 ≤ 300
theorem isB_ne (h : isB b) : b ≠ 2 ∧ b ≠ 3 ∧ b ≠ 1 ∧ b ≠ 4 ∧ b ≠ 6 ∧ b + 6 ≠ 2 ∧ b + 6 ≠ 3 ∧ b + 7 ≠ 2 ∧ b + 7 ≠ 3 ∧ b + 6 ≠ 1 ∧ b + 7 ≠ 1 ∧ b + 6 ≠ 4 ∧ b + 7 ≠ 4 ∧ 7 ≤ b := by
  rcases h with rfl | rfl <;> decide
theorem TpX.fx (h : TpX T N p m) (hb : isB b) (e : ∀ a, a = 1 ∨ a = 3 ∨ a = 4 → m' a = m a) : TpX T N p m' := by
  obtain ⟨⟨x1, x2, x3, x4, x5, x6⟩, h2⟩ := h
  have e3 := e 3 (by omega)
  unfold TpX
  rw [e3]
  refine ⟨⟨by rw [e3]; exact x1, by rw [e3]; exact x2, x3, x4, fun t t0 t1 => by rw [e 1 (by omega)]; exact x5 t t0 t1, fun j j0 j1 => by rw [e 4 (by omega)]; exact x6 j j0 j1⟩, h2⟩
theorem FxS.next (h : FxS T N b p u cs m) (f : Fro 3 [] [3, 4, 5, 6] m m') (t : TpX T N (en T N p) m') : FxS T N b (en T N p) u cs m' := by
  obtain ⟨h1, h2, h3, h4, h5, h6, h7⟩ := h
  have nb := isB_ne h4.2
  have k : ∀ a, a ≠ 3 → m' a = m a := fun a ha => f.1 a (by simp) ha
  refine ⟨t, by rw [k 2 (by decide)]; exact h2, by rw [k 2 (by decide)]; exact h3, by rw [k 2 (by decide)]; exact h4, by rw [k b nb.2.1]; exact h5, ?_, h7⟩
  unfold CF
  rw [k (b + 6) nb.2.2.2.2.2.2.1, k (b + 6 + 1) (by omega)]
  exact h6
/-- a fault is told -/
theorem c_tellX {x k : Int} (h0 : m 2 6 = 0) : CV l G Y_Reader_tellFault d [.inr (.inr 2), .inl x, .inl k] m (fun m' => m' = up (up m 2 6 x) 2 7 k) :=
  e_Reader_tellFault x k (fun _ _ _ => ⟨fun c => absurd h0 c, fun _ m1 e1 m2 e2 => by rw [e2, e1]⟩)
theorem FxS.fault {x k : Int} (h : FxS T N b p u cs m) (e : m' = up (up m 2 6 x) 2 7 k) (hx : x ≠ 0) : FaX b (x, k) m' ∧ FrX b m m' := by
  obtain ⟨h1, h2, h3, h4, h5, h6, h7⟩ := h
  have nb := isB_ne h4.2
  have hl := h6.1
  have hl2 := h6.2.1
  refine ⟨⟨by rw [e, up_off (by decide), up_at], by rw [e, up_at], hx, ?_, ?_, ?_⟩, FrX.tr (FrX.pt rfl (Or.inl ⟨rfl, Or.inl rfl⟩)) (FrX.pt e (Or.inl ⟨rfl, Or.inr rfl⟩))⟩
  · rw [e, up_off (by decide), up_off (by decide)]; exact h4
  · rw [e, up_ne (by omega), up_ne (by omega), hl]; omega
  · rw [e, up_ne (by omega), up_ne (by omega), hl]; omega
theorem c_refuseX (h : FxS T N b p u cs m) : CV l G Y_Reader_refuseToken (d + 1) [.inr (.inr 2)] m (fun m' => FaX b (bdF T N p) m' ∧ FrX b m m') := by
  have h4 := h.1.2.2.2.1
  have h5 := h.1.2.2.2.2.1
  refine e_Reader_refuseToken (fun _ => ?_)
  rw [h4, h5]
  refine ⟨fun c => ⟨d, _, by omega, c_tellX h.2.1, fun m1 e1 _ => ?_⟩, fun c => ⟨d, _, by omega, c_tellX h.2.1, fun m1 e1 _ => ?_⟩⟩
  · have := h.fault e1 (by decide)
    rw [bdF_ne.2 c]; exact this
  · have := h.fault e1 (by decide)
    unfold bdF
    rw [if_pos (Classical.not_not.mp c)]; exact this
/-- a sign is added -/
theorem c_addX {s : Int} (h : FxS T N b p u cs m) (hl : (cs.length : Int) + 1 ≤ 9 * u) : CV l G Y_Formula_add d [.inr (.inr (b + 6)), .inl s] m (fun m' => FrX b m m' ∧ FxS T N b p u (cs ++ [s]) m') := by
  obtain ⟨h1, h2, h3, h4, h5, h6, h7⟩ := h
  have nb := isB_ne h4.2
  have hlen := h6.1
  refine e_Formula_add s (b + 6) (isB_f h4.2) (fun _ _ => ?_)
  rw [hlen]
  refine ⟨fun c => by omega, fun _ => ⟨by omega, fun m1 e1 => ?_⟩⟩
  have k2 : m1 (b + 6) 2 = cs.length := by rw [e1, up_ne (by omega)]; exact hlen
  rw [k2]
  refine ⟨by unfold inR; omega, fun m2 e2 => ?_⟩
  have kk : ∀ a, a ≠ b + 6 → a ≠ b + 6 + 1 → m2 a = m a := fun a a1 a2 => by rw [e2, up_ne a1, e1, up_ne a2]
  refine ⟨FrX.tr (FrX.pt e1 (Or.inr (Or.inr (Or.inr (Or.inr (by omega)))))) (FrX.pt e2 (Or.inr (Or.inr (Or.inr (Or.inl ⟨rfl, rfl⟩))))), h1.fx h4.2 (fun a ha => kk a (by omega) (by omega)), by rw [kk 2 (by omega) (by omega)]; exact h2, by rw [kk 2 (by omega) (by omega)]; exact h3, by rw [kk 2 (by omega) (by omega)]; exact h4, by rw [kk b (by omega) (by omega)]; exact h5, ⟨?_, ?_, fun j t ht => ?_⟩, ?_⟩
  · rw [e2, up_at, List.length_append]
    show _ = ((cs.length + 1 : Nat) : Int)
    omega
  · rw [List.length_append]
    show cs.length + 1 ≤ 300
    omega
  · rw [e2, up_ne (by omega), e1]
    by_cases q : j < cs.length
    · rw [List.getElem?_append_left q] at ht
      rw [up_off (by omega)]
      exact h6.2.2 j t ht
    · rw [List.getElem?_append_right (by omega)] at ht
      have hj : j = cs.length := by
        rcases Nat.lt_or_ge (j - cs.length) 1 with g | g
        · omega
        · rw [List.getElem?_eq_none (by simpa using g)] at ht; cases ht
      subst hj
      rw [Nat.sub_self] at ht
      have ht' : s = t := by simpa using ht
      subst ht'
      rw [up_at]
  · rw [List.length_append]
    show ((cs.length + 1 : Nat) : Int) ≤ 9 * u
    omega
/-- behind a fault nothing matters -/
theorem c_addFX {s : Int} {f : Int × Int} (h : FaX b f m) : CV l G Y_Formula_add d [.inr (.inr (b + 6)), .inl s] m (fun m' => FrX b m m' ∧ FaX b f m') := by
  obtain ⟨h1, h2, h3, h4, h5, h6⟩ := h
  have nb := isB_ne h4.2
  refine e_Formula_add s (b + 6) (isB_f h4.2) (fun _ _ => ⟨fun c => ⟨FrX.rf, h1, h2, h3, h4, h5, h6⟩, fun c => ⟨by omega, fun m1 e1 => ?_⟩⟩)
  have k2 : m1 (b + 6) 2 = m (b + 6) 2 := by rw [e1, up_ne (by omega)]
  rw [k2]
  refine ⟨by unfold inR; omega, fun m2 e2 => ?_⟩
  have k : m2 2 = m 2 := by rw [e2, up_ne (by omega), e1, up_ne (by omega)]
  refine ⟨FrX.tr (FrX.pt e1 (Or.inr (Or.inr (Or.inr (Or.inr (by omega)))))) (FrX.pt e2 (Or.inr (Or.inr (Or.inr (Or.inl ⟨rfl, rfl⟩))))), by rw [k]; exact h1, by rw [k]; exact h2, h3, by rw [k]; exact h4, ?_, ?_⟩
  · rw [e2, up_at]; omega
  · rw [e2, up_at]; omega
theorem c_expectX {x : Int} (hG : GVok G) (h : FxS T N b p u cs m) : CV l G Y_Reader_expect (d + 5) [.inr (.inr 2), .inl x] m (fun m' => FrX b m m' ∧ (kd T N p = x → FxS T N b (en T N p) u cs m') ∧ (kd T N p ≠ x → FaX b (bdF T N p) m')) := by
  have h4 := h.1.2.2.2.1
  refine e_Reader_expect x (fun _ _ => ⟨fun _ => ?_, fun c => absurd h.2.1 c⟩)
  rw [h4]
  refine ⟨fun c => ⟨d + 1, _, by omega, c_refuseX h, fun m1 h1 _ => ⟨h1.2, fun q => absurd q c, fun _ => h1.1⟩⟩, fun c => ⟨d + 4, _, by omega, c_nextX2 hG h.1, fun m1 h1 _ => ⟨FrX.next h1.1, fun _ => h.next h1.1 h1.2, fun q => absurd (Classical.not_not.mp c) q⟩⟩⟩
theorem c_expectFX {x : Int} {f : Int × Int} (h : FaX b f m) : CV l G Y_Reader_expect d [.inr (.inr 2), .inl x] m (fun m' => m' = m) :=
  e_Reader_expect x (fun _ _ => ⟨fun c => absurd (by rw [← h.1]; exact c) h.2.2.1, fun _ => rfl⟩)
theorem c_unitSignX (h : TpX T N p m) : CI l G Y_Reader_unitSign d [.inr (.inr 2)] m (fun z m' => z = usF T N p ∧ m = m') := by
  have h4 := h.2.2.2.1
  refine e_Reader_unitSign (fun _ => ?_)
  rw [h4]
  unfold usF
  refine ⟨fun c => ?_, fun c => ⟨?_, rfl⟩, fun c => ⟨?_, rfl⟩, fun c => ⟨?_, rfl⟩, fun c => ⟨?_, rfl⟩, fun c1 c2 c3 c4 c5 => ⟨?_, rfl⟩⟩
  · have hv := vl_num h.2.1 c
    rw [h.2.2.2.2.2.2 c]
    exact ⟨by unfold inR; omega, by rw [if_pos c], rfl⟩
  · rw [if_neg (by omega), if_pos c]
  · rw [if_neg (by omega), if_neg (by omega), if_pos c]
  · rw [if_neg (by omega), if_neg (by omega), if_neg (by omega), if_pos c]
  · rw [if_neg (by omega), if_neg (by omega), if_neg (by omega), if_neg (by omega), if_pos c]
  · rw [if_neg c1, if_neg c2, if_neg c3, if_neg c4, if_neg c5]
theorem fW_app : ∀ {a c : List Int} {k j e : Int}, fW a k j → fW c j e → fW (a ++ c) k e
  | [], c, k, j, e, h, g => by
    have : k = j := h
    rw [this]; exact g
  | s :: r, c, k, j, e, h, g => by
    unfold fW at h
    show fW (s :: (r ++ c)) k e
    unfold fW
    by_cases q : s < 10010
    · rw [if_pos q] at h ⊢
      exact ⟨h.1, h.2.1, fW_app h.2.2 g⟩
    · rw [if_neg q] at h ⊢
      by_cases q2 : s = 10010
      · rw [if_pos q2] at h ⊢
        exact ⟨h.1, fW_app h.2 g⟩
      · rw [if_neg q2] at h ⊢
        exact ⟨h.1, h.2.1, fW_app h.2.2 g⟩
end FormX
/-- behind a part of a formula: A ranks that may follow, C whether a second relation is refused -/
def PxF (A : Int → Prop) (C : Prop) (T : Int → Int) (N : Int) (b : Nat) (w : Int) (S : Pile) (p u : Int) (cs : List Int) (m m' : MM) : Prop :=
  FrX b m m' ∧ ((∃ f, Eo T N true S p u cs (.inl f) ∧ FaX b f m') ∨ ∃ p' u' ns, FxS T N b p' u' (cs ++ ns) m' ∧ u < u' ∧ p ≤ p' ∧ (ns.length : Int) + 1 + w ≤ 9 * (u' - u) ∧ (∀ k, 0 ≤ k → k ≤ u → fW ns k (k + 1)) ∧ A (rkF (kd T N p')) ∧ ((C → rkF (kd T N p') ≠ 4) → ∀ R, Eo T N false S p' u' (cs ++ ns) R → Eo T N true S p u cs R) ∧ (C → rkF (kd T N p') = 4 → Eo T N true S p u cs (.inl (2, plc T N p'))))
