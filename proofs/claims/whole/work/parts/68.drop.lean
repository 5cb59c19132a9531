/-- a state with one place laid anew -/
def upS (s : Int → Int) (x v : Int) : Int → Int := fun i => if i = x then v else s i
/-- an act of the class is kept, and now is s -/
def KX (s : Int → Int) (m m' : MM) : Prop :=
  Fro 28 [25, 29, 32, 33, 34] [1, 2] m m' ∧ m' 25 = s ∧ m' 28 1 = min 40 (m 28 1 + 1) ∧ m' 28 2 = min 40 (m 28 1 + 1) ∧ ∀ k, 0 ≤ k → k < 328 → m' 29 k = kpA (m 28 1) s (m 29) k
/-- an act of the reference is kept, and all is s -/
def KM (s : Int → Int) (m m' : MM) : Prop :=
  Fro 70 [90, 93, 94, 96] [41, 45, 46] m m' ∧ m' 90 = s ∧ m' 70 45 = min 40 (m 70 45 + 1) ∧ m' 70 46 = 0 ∧ ∀ k, 0 ≤ k → m' 96 k = kpB (m 70 45) (m 90) (m 96) k
section Drop
variable {l : Launch} {G : GT} {d : Nat} {m : MM} {b : Nat} {n : Nat} {D : Int → Int} {W : Int → Int → Int} {br : Int → Int}
theorem up_upS {x v : Int} {a : Nat} : up m a x v a = upS (m a) x v := by
  funext i
  rw [up_row]
  rfl
/-- keep, when now was laid anew -/
theorem c_keepKX {m1 : MM} (f : Fr [25, 32, 33, 34] m m1) (ha : 0 ≤ m 28 1 ∧ m 28 1 ≤ 40) : CV l G Y_Acts_keep (d + 1) [.inr (.inr 28), .inr (.inr 25)] m1 (KX (m1 25) m) := by
  have e28 : m1 28 = m 28 := f 28 (by decide)
  have e29 : m1 29 = m 29 := f 29 (by decide)
  refine (c_keepX (m := m1) (h := 25) (len := 8) rfl (by decide) (by decide) (by decide) (by rw [e28]; exact ha)).imp (fun m' h => ?_)
  obtain ⟨f2, k1, k2, k3⟩ := h
  rw [e28] at k1 k2 k3
  rw [e29] at k3
  refine ⟨⟨fun c hc hc2 => ?_, fun i hi => ?_⟩, ?_, k1, k2, k3⟩
  · have h29 : c ∉ [29] := fun q => hc (by simp only [List.mem_cons, List.not_mem_nil, or_false] at q; simp [q])
    have h25 : c ∉ [25, 32, 33, 34] := fun q => hc (by
      simp only [List.mem_cons, List.not_mem_nil, or_false] at q ⊢
      omega)
    rw [f2.1 c h29 hc2, f c h25]
  · rw [f2.2 i hi, e28]
  · exact f2.1 25 (by decide) (by decide)
theorem c_dropX (B : BW n D W br) (X : CX n D W br b m) (hg : ∀ i, In n i → 0 ≤ m 25 i ∧ m 25 i ≤ 1000000) (ha : 0 ≤ m 28 1 ∧ m 28 1 ≤ 40) {x y : Int} :
    CI l G Y_S_drop (d + 2) [.inr (.inr 0), .inl x, .inl y] m (fun z m' => (In n x ∧ 1 ≤ y ∧ y ≤ 20 ∧ m 25 x + y ≤ 999 → z = m 25 x + y ∧ KX (upS (m 25) x (m 25 x + y)) m m') ∧ (¬ (In n x ∧ 1 ≤ y ∧ y ≤ 20 ∧ m 25 x + y ≤ 999) → z = -1 ∧ m = m')) := by
  have hn5 := B.1
  obtain ⟨hb, h5, hX⟩ := X
  refine e_S_drop x y (fun _ _ _ => ⟨b, h5, hb, d, _, by omega, c_has hb, fun z m1 hz _ _ => ?_⟩)
  obtain ⟨rfl, rfl⟩ := hz
  rw [hX.1]
  by_cases h : In n x
  · have hgx := hg x h
    rw [if_pos h]
    refine ⟨fun c => absurd c (by decide), fun _ => ⟨fun c => ⟨fun q => absurd q (by omega), fun _ => ⟨rfl, rfl⟩⟩, fun c => ⟨fun c2 => ⟨fun q => absurd q (by omega), fun _ => ⟨rfl, rfl⟩⟩, fun c2 => ⟨by omega, by omega, fun c3 => ⟨by omega, by omega, by omega, ?_⟩, fun c3 => ⟨fun q => absurd q (by omega), fun _ => ⟨rfl, rfl⟩⟩⟩⟩⟩⟩
    rintro m2 rfl
    refine ⟨d + 1, _, by omega, c_keepKX (m := m) (Fr_up Fr.rf (by simp)) ha, fun m3 h3 _ => ⟨by omega, fun _ => ?_, fun q => absurd ⟨h, by omega, by omega, c3⟩ q⟩⟩
    rw [up_upS] at h3
    refine ⟨?_, h3⟩
    rw [h3.2.1]
    exact if_pos rfl
  · rw [if_neg h]
    exact ⟨fun _ => ⟨fun q => absurd q.1 h, fun _ => ⟨rfl, rfl⟩⟩, fun c => absurd rfl c⟩
theorem c_sweepX (B : BW n D W br) (X : CX n D W br b m) (ha : 0 ≤ m 28 1 ∧ m 28 1 ≤ 40) {x : Int} :
    CI l G Y_S_sweep (d + 2) [.inr (.inr 0), .inl x] m (fun z m' => (In n x ∧ 0 < m 25 x → z = m 25 x ∧ KX (upS (m 25) x 0) m m') ∧ (¬ (In n x ∧ 0 < m 25 x) → z = -1 ∧ m = m')) := by
  have hn5 := B.1
  obtain ⟨hb, h5, hX⟩ := X
  refine e_S_sweep x (fun _ _ => ⟨b, h5, hb, d, _, by omega, c_has hb, fun z m1 hz _ _ => ?_⟩)
  obtain ⟨rfl, rfl⟩ := hz
  rw [hX.1]
  by_cases h : In n x
  · rw [if_pos h]
    refine ⟨fun c => absurd c (by decide), fun _ => ⟨by omega, fun c => ⟨by omega, by omega, ?_⟩, fun c => ⟨fun q => absurd q.2 c, fun _ => ⟨rfl, rfl⟩⟩⟩⟩
    rintro m2 rfl
    refine ⟨d + 1, _, by omega, c_keepKX (m := m) (Fr_up Fr.rf (by simp)) ha, fun m3 h3 _ => ⟨fun _ => ?_, fun q => absurd ⟨h, c⟩ q⟩⟩
    rw [up_upS] at h3
    exact ⟨rfl, h3⟩
  · rw [if_neg h]
    exact ⟨fun _ => ⟨fun q => absurd q.1 h, fun _ => ⟨rfl, rfl⟩⟩, fun c => absurd rfl c⟩
theorem c_dropM (B : BW n D W br) (X : BM n D W br m) (hg : ∀ i, In n i → 0 ≤ m 90 i ∧ m 90 i ≤ 1000000) (ha : 0 ≤ m 70 45 ∧ m 70 45 ≤ 40) {x y : Int} :
    CI l G Y_M_drop (d + 2) [.inr (.inr 70), .inl x, .inl y] m (fun z m' => (In n x ∧ 1 ≤ y ∧ y ≤ 20 ∧ m 90 x + y ≤ 999 → z = m 90 x + y ∧ KM (upS (m 90) x (m 90 x + y)) m m') ∧ (¬ (In n x ∧ 1 ≤ y ∧ y ≤ 20 ∧ m 90 x + y ≤ 999) → z = -1 ∧ m = m')) := by
  have hn5 := B.1
  refine e_M_drop x y (fun _ _ _ => ⟨d + 1, _, by omega, c_isPlate B.1 X, fun z m1 hz _ _ => ?_⟩)
  obtain ⟨rfl, rfl⟩ := hz
  by_cases h : In n x
  · have hgx := hg x h
    rw [if_pos h]
    refine ⟨fun c => absurd c (by decide), fun _ => ⟨d, _, by omega, c_isIn, fun z m1 hz _ _ => ?_⟩⟩
    obtain ⟨rfl, rfl⟩ := hz
    by_cases hy : 1 ≤ y ∧ y ≤ 20
    · rw [if_pos hy, Int.zero_add]
      refine ⟨fun c => absurd c (by decide), fun _ => ⟨by omega, by omega, by omega, fun c => ⟨d, _, by omega, c_keepAct ha, fun m1 h1 _ => ?_⟩, fun c => ⟨fun q => absurd q.2.2.2 c, fun _ => ⟨rfl, rfl⟩⟩⟩⟩
      obtain ⟨f, k1, k2, k3⟩ := h1
      have e90 : m1 90 = m 90 := f.1 90 (by decide) (by decide)
      rw [e90]
      refine ⟨by omega, by omega, by omega, by omega, ?_⟩
      rintro m2 rfl
      refine ⟨by omega, by omega, fun _ => ⟨up_at, ⟨fun c hc hc2 => ?_, fun i hi => ?_⟩, ?_, ?_, ?_, fun k k0 => ?_⟩, fun q => absurd ⟨h, hy.1, hy.2, c⟩ q⟩
      · rw [up_ne (fun e => hc (by rw [e]; simp)), f.1 c (fun q => hc (by simp only [List.mem_cons, List.not_mem_nil, or_false] at q; simp [q])) hc2]
      · rw [up_ne (by decide), f.2 i (fun q => hi (List.mem_cons_of_mem _ q))]
      · rw [up_upS, e90]
      · rw [up_ne (by decide)]; exact k1
      · rw [up_ne (by decide)]; exact k2
      · rw [up_ne (by decide), k3 k, if_pos k0]
    · rw [if_neg hy]
      exact ⟨fun _ => ⟨fun q => absurd ⟨q.2.1, q.2.2.1⟩ hy, fun _ => ⟨rfl, rfl⟩⟩, fun c => absurd rfl c⟩
  · rw [if_neg h]
    exact ⟨fun _ => ⟨fun q => absurd q.1 h, fun _ => ⟨rfl, rfl⟩⟩, fun c => absurd rfl c⟩
theorem c_sweepM (B : BW n D W br) (X : BM n D W br m) (hg : ∀ i, In n i → 0 ≤ m 90 i) (ha : 0 ≤ m 70 45 ∧ m 70 45 ≤ 40) {x : Int} :
    CI l G Y_M_sweep (d + 2) [.inr (.inr 70), .inl x] m (fun z m' => (In n x ∧ 0 < m 90 x → z = m 90 x ∧ KM (upS (m 90) x 0) m m') ∧ (¬ (In n x ∧ 0 < m 90 x) → z = -1 ∧ m = m')) := by
  have hn5 := B.1
  refine e_M_sweep x (fun _ _ => ⟨d + 1, _, by omega, c_isPlate B.1 X, fun z m1 hz _ _ => ?_⟩)
  obtain ⟨rfl, rfl⟩ := hz
  by_cases h : In n x
  · have hgx := hg x h
    rw [if_pos h, Int.zero_add]
    refine ⟨fun c => absurd c (by decide), fun _ => ⟨by omega, by omega, fun c => ⟨d, _, by omega, c_keepAct ha, fun m1 h1 _ => ?_⟩, fun c => ⟨fun q => absurd q.2 (by omega), fun _ => ⟨rfl, rfl⟩⟩⟩⟩
    obtain ⟨f, k1, k2, k3⟩ := h1
    have e90 : m1 90 = m 90 := f.1 90 (by decide) (by decide)
    rw [e90]
    refine ⟨by omega, by omega, by omega, by omega, ?_⟩
    rintro m2 rfl
    refine ⟨fun _ => ⟨rfl, ⟨fun c hc hc2 => ?_, fun i hi => ?_⟩, ?_, ?_, ?_, fun k k0 => ?_⟩, fun q => absurd ⟨h, by omega⟩ q⟩
    · rw [up_ne (fun e => hc (by rw [e]; simp)), f.1 c (fun q => hc (by simp only [List.mem_cons, List.not_mem_nil, or_false] at q; simp [q])) hc2]
    · rw [up_ne (by decide), f.2 i (fun q => hi (List.mem_cons_of_mem _ q))]
    · rw [up_upS, e90]
    · rw [up_ne (by decide)]; exact k1
    · rw [up_ne (by decide)]; exact k2
    · rw [up_ne (by decide), k3 k, if_pos k0]
  · rw [if_neg h]
    exact ⟨fun _ => ⟨fun q => absurd q.1 h, fun _ => ⟨rfl, rfl⟩⟩, fun c => absurd rfl c⟩
end Drop
