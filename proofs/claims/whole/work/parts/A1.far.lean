/-! far of both -/
def rcb (n : Nat) (D : Int → Int) (W : Int → Int → Int) : Nat → Int → Bool
  | 0, _ => false
  | k + 1, i => rcb n D W k i || decide (0 < D i + wT n W i (rcb n D W k))
/-- how far from the drain -/
def FaR (n : Nat) (D : Int → Int) (W : Int → Int → Int) (i z : Int) : Prop := ∃ k : Nat, z = k ∧ 1 ≤ k ∧ k ≤ 5 ∧ rcb n D W k i = true ∧ rcb n D W (k - 1) i = false
theorem rcb_mono {n : Nat} {D : Int → Int} {W : Int → Int → Int} {i : Int} {k : Nat} (h : rcb n D W k i = true) : ∀ t, rcb n D W (k + t) i = true
  | 0 => h
  | t + 1 => by
    show (rcb n D W (k + t) i || _) = true
    rw [rcb_mono h t]; rfl
theorem FaR.uniq {n : Nat} {D : Int → Int} {W : Int → Int → Int} {i z z' : Int} (h : FaR n D W i z) (h' : FaR n D W i z') : z = z' := by
  obtain ⟨k, rfl, k1, k5, kt, kf⟩ := h
  obtain ⟨t, rfl, t1, t5, tt, tf⟩ := h'
  rcases Nat.lt_trichotomy k t with q | q | q
  · have := rcb_mono kt (t - 1 - k)
    rw [show k + (t - 1 - k) = t - 1 by omega, tf] at this; cases this
  · rw [q]
  · have := rcb_mono tt (k - 1 - t)
    rw [show t + (k - 1 - t) = k - 1 by omega, kf] at this; cases this
def mk2 (W : Int → Int → Int) (S : Int → Bool) : Nat → Int → Bool
  | 0 => S
  | k + 1 => fun x => mk2 W S k x || (S k && decide (0 < W k x))
def sB (n : Nat) (W : Int → Int → Int) (p : Int) : Nat → Int → Bool
  | 0 => fun x => decide (x = p)
  | t + 1 => mk2 W (sB n W p t) n
def Pt (n : Nat) (W : Int → Int → Int) : Nat → Int → Int → Prop
  | 0, p, o => p = o
  | k + 1, p, o => Pt n W k p o ∨ ∃ q, In n q ∧ Pt n W k p q ∧ 0 < W q o
theorem mk2_iff {W : Int → Int → Int} {S : Int → Bool} : ∀ (k : Nat) (x : Int), mk2 W S k x = true ↔ (S x = true ∨ ∃ q, In k q ∧ S q = true ∧ 0 < W q x)
  | 0, x => ⟨fun h => Or.inl h, fun h => by
    rcases h with h | ⟨q, hq, -⟩
    · exact h
    · exact absurd hq (by intro r; have := r.1; have := r.2; omega)⟩
  | k + 1, x => by
    have ih := mk2_iff (W := W) (S := S) k x
    show (mk2 W S k x || (S k && decide (0 < W k x))) = true ↔ _
    rw [Bool.or_eq_true, Bool.and_eq_true, decide_eq_true_eq, ih]
    constructor
    · rintro ((h | ⟨q, hq, h1, h2⟩) | ⟨h1, h2⟩)
      · exact Or.inl h
      · exact Or.inr ⟨q, ⟨hq.1, by have := hq.2; omega⟩, h1, h2⟩
      · exact Or.inr ⟨k, ⟨by omega, by omega⟩, h1, h2⟩
    · rintro (h | ⟨q, hq, h1, h2⟩)
      · exact Or.inl (Or.inl h)
      · by_cases e : q = (k : Int)
        · rw [e] at h1 h2
          exact Or.inr ⟨h1, h2⟩
        · exact Or.inl (Or.inr ⟨q, ⟨hq.1, by have := hq.2; omega⟩, h1, h2⟩)
theorem sB_iff {n : Nat} {W : Int → Int → Int} {p : Int} : ∀ (t : Nat) (o : Int), sB n W p t o = true ↔ Pt n W t p o
  | 0, o => by
    show decide (o = p) = true ↔ p = o
    rw [decide_eq_true_eq]
    exact ⟨fun h => h.symm, fun h => h.symm⟩
  | t + 1, o => by
    show mk2 W (sB n W p t) n o = true ↔ (Pt n W t p o ∨ ∃ q, In n q ∧ Pt n W t p q ∧ 0 < W q o)
    rw [mk2_iff, sB_iff t o]
    constructor
    · rintro (h | ⟨q, hq, h1, h2⟩)
      · exact Or.inl h
      · exact Or.inr ⟨q, hq, (sB_iff t q).mp h1, h2⟩
    · rintro (h | ⟨q, hq, h1, h2⟩)
      · exact Or.inl h
      · exact Or.inr ⟨q, hq, (sB_iff t q).mpr h1, h2⟩
theorem Pt_left {n : Nat} {W : Int → Int → Int} : ∀ (k : Nat) {p o : Int}, In n p → In n o → (Pt n W (k + 1) p o ↔ (Pt n W k p o ∨ ∃ q, In n q ∧ 0 < W p q ∧ Pt n W k q o))
  | 0, p, o, hp, ho => by
    show (p = o ∨ ∃ q, In n q ∧ p = q ∧ 0 < W q o) ↔ (p = o ∨ ∃ q, In n q ∧ 0 < W p q ∧ q = o)
    constructor
    · rintro (h | ⟨q, hq, rfl, h⟩)
      · exact Or.inl h
      · exact Or.inr ⟨o, ho, h, rfl⟩
    · rintro (h | ⟨q, hq, h, rfl⟩)
      · exact Or.inl h
      · exact Or.inr ⟨p, hp, rfl, h⟩
  | k + 1, p, o, hp, ho => by
    constructor
    · rintro (h | ⟨q, hq, h1, h2⟩)
      · exact Or.inl h
      · rcases (Pt_left k hp hq).mp h1 with h | ⟨r, hr, h3, h4⟩
        · exact Or.inl (Or.inr ⟨q, hq, h, h2⟩)
        · exact Or.inr ⟨r, hr, h3, Or.inr ⟨q, hq, h4, h2⟩⟩
    · rintro (h | ⟨q, hq, h1, h2⟩)
      · exact Or.inl h
      · rcases h2 with h2 | ⟨r, hr, h3, h4⟩
        · exact Or.inl ((Pt_left k hp ho).mpr (Or.inr ⟨q, hq, h1, h2⟩))
        · exact Or.inr ⟨r, hr, (Pt_left k hp hr).mpr (Or.inr ⟨q, hq, h1, h3⟩), h4⟩
theorem Pt_self {n : Nat} {W : Int → Int → Int} {p : Int} : ∀ k, Pt n W k p p
  | 0 => rfl
  | k + 1 => Or.inl (Pt_self k)
section Far
variable {l : Launch} {G : GT} {d : Nat} {m : MM} {b : Nat} {n : Nat} {D : Int → Int} {W : Int → Int → Int} {br : Int → Int}
theorem wT_pos (B : BW n D W br) {i : Int} (hi : In n i) (p : Int → Bool) : 0 < wT n W i p ↔ ∃ j, In n j ∧ p j = true ∧ 0 < W i j := by
  have hnn : ∀ j, In n j → 0 ≤ (if p j = true then W i j else 0) := fun j hj => by
    have := (B.2.2.1 i j hi hj).1
    split <;> omega
  constructor
  · intro h
    refine Classical.byContradiction (fun hno => ?_)
    have : wT n W i p = sm n (fun _ => 0) := sm_congr (fun j hj => by
      by_cases hp : p j = true
      · rw [if_pos hp]
        have h0 := (B.2.2.1 i j hi hj).1
        have : ¬ 0 < W i j := fun q => hno ⟨j, hj, hp, q⟩
        omega
      · rw [if_neg hp])
    rw [this, sm_zero] at h
    omega
  · rintro ⟨j, hj, hp, h⟩
    have h1 := sm_term hnn j hj
    have h2 : (if p j = true then W i j else 0) = W i j := if_pos hp
    have h3 : (if p j = true then W i j else 0) ≤ wT n W i p := h1
    omega
theorem rcb_iff (B : BW n D W br) : ∀ (t : Nat) {p : Int}, In n p → (rcb n D W (t + 1) p = true ↔ ∃ o, In n o ∧ Pt n W t p o ∧ 0 < D o)
  | 0, p, hp => by
    have e : wT n W p (rcb n D W 0) = 0 := (sm_congr (fun j _ => if_neg (by show ¬ (false = true); decide))).trans (sm_zero n)
    show (false || decide (0 < D p + wT n W p (rcb n D W 0))) = true ↔ _
    rw [Bool.false_or, decide_eq_true_eq, e, Int.add_zero]
    constructor
    · intro h
      exact ⟨p, hp, rfl, h⟩
    · rintro ⟨o, ho, rfl, h⟩
      exact h
  | t + 1, p, hp => by
    show (rcb n D W (t + 1) p || decide (0 < D p + wT n W p (rcb n D W (t + 1)))) = true ↔ _
    rw [Bool.or_eq_true, decide_eq_true_eq, rcb_iff B t hp]
    have hD := (B.2.1 p hp).1
    have hw := (wT_rng B hp (rcb n D W (t + 1)) n (Nat.le_refl _)).1
    have hpos := wT_pos B hp (rcb n D W (t + 1))
    constructor
    · rintro (⟨o, ho, h1, h2⟩ | h)
      · exact ⟨o, ho, Or.inl h1, h2⟩
      · by_cases hD0 : 0 < D p
        · exact ⟨p, hp, Pt_self _, hD0⟩
        · obtain ⟨j, hj, h1, h2⟩ := hpos.mp (by omega)
          obtain ⟨o, ho, h3, h4⟩ := (rcb_iff B t hj).mp h1
          exact ⟨o, ho, (Pt_left t hp ho).mpr (Or.inr ⟨j, hj, h2, h3⟩), h4⟩
    · rintro ⟨o, ho, h1, h2⟩
      rcases (Pt_left t hp ho).mp h1 with h | ⟨q, hq, h3, h4⟩
      · exact Or.inl ⟨o, ho, h, h2⟩
      · have := hpos.mpr ⟨q, hq, (rcb_iff B t hq).mpr ⟨o, ho, h4, h2⟩, h3⟩
        exact Or.inr (by omega)
theorem c_farX (B : BW n D W br) (X : CX n D W br b m) (hF : ∀ i, In n i → FaR n D W i (m (b + 5) i)) {p : Int} : CI l G Y_S_far (d + 1) [.inr (.inr 0), .inl p] m (fun z m' => m = m' ∧ (In n p → FaR n D W p z) ∧ (¬ In n p → z = -1)) := by
  have hn5 := B.1
  refine e_S_far p (fun _ _ => ⟨b, X.2.1, X.1, d, _, by omega, c_has X.1, fun z m1 hz _ _ => ?_⟩)
  obtain ⟨rfl, rfl⟩ := hz
  rw [has_if X.2.2]
  by_cases hp : In n p
  · rw [if_pos hp]
    exact ⟨fun c => absurd c (by decide), fun _ => ⟨b, X.2.1, X.1, by omega, rfl, fun _ => hF p hp, fun q => absurd hp q⟩⟩
  · rw [if_neg hp]
    exact ⟨fun _ => ⟨rfl, fun q => absurd q hp, fun _ => rfl⟩, fun c => absurd rfl c⟩
theorem c_farM (B : BW n D W br) (X : BM n D W br m) {p : Int} (hF : In n p → ∃ z, FaR n D W p z) : CI l G Y_M_far (d + 2) [.inr (.inr 70), .inl p] m (fun z m' => m = m' ∧ (In n p → FaR n D W p z) ∧ (¬ In n p → z = -1)) := by
  have hn5 := B.1
  refine e_M_far p (fun _ _ => ⟨d + 1, _, by omega, c_isPlate hn5 X, fun z m1 hz _ _ => ?_⟩)
  obtain ⟨rfl, rfl⟩ := hz
  by_cases hp : In n p
  · rw [if_pos hp]
    refine ⟨fun _ => ?_, fun c => absurd (by decide) c⟩
    have outer : ∀ (j t : Nat), t + j = 5 → rcb n D W t p = false → Wq l G false Y_M_far (d + 2) (QI fun z m' => m = m' ∧ (In n p → FaR n D W p z) ∧ (¬ In n p → z = -1)) 16 [(0, .inr (.inr 70)), (2, .inl (bs n (sB n W p t))), (3, .inl ((t : Int) + 1))] [] m := by
      intro j
      induction j with
      | zero =>
        intro t htj hr
        exfalso
        obtain ⟨z, k, -, k1, k5, kt, -⟩ := hF hp
        have := rcb_mono kt (5 - k)
        rw [show k + (5 - k) = 5 by omega, show 5 = t by omega, hr] at this
        cases this
      | succ j ih =>
        intro t htj hr
        refine s_M_far_16 _ _ (fun _ _ _ => ⟨fun c => absurd c (by omega), fun _ => ?_⟩)
        have inner : ∀ (s k : Nat), k + s = n → (∀ o, In k o → sB n W p t o = true → D o ≤ 0) → Wq l G false Y_M_far (d + 2) (QI fun z m' => m = m' ∧ (In n p → FaR n D W p z) ∧ (¬ In n p → z = -1)) 27 [(0, .inr (.inr 70)), (2, .inl (bs n (sB n W p t))), (3, .inl ((t : Int) + 1)), (4, .inl (bs n (mk2 W (sB n W p t) k))), (5, .inl (k : Int))] [] m := by
          intro s
          induction s with
          | zero =>
            intro k hk hno
            have e : k = n := by omega
            rw [e] at hno ⊢
            refine s_M_far_27 _ _ _ _ (fun _ _ _ _ _ => ⟨d, _, by omega, c_lots X, fun z m1 hz _ _ => ?_⟩)
            obtain ⟨rfl, rfl⟩ := hz
            refine ⟨fun _ => ⟨by omega, ?_⟩, fun c => absurd (Int.le_refl _) c⟩
            have := ih (t + 1) (by omega) (by
              cases hc : rcb n D W (t + 1) p with
              | false => rfl
              | true =>
                obtain ⟨o, ho, h1, h2⟩ := (rcb_iff B t hp).mp hc
                have := hno o ho ((sB_iff t o).mpr h1)
                omega)
            rw [show (((t + 1 : Nat) : Int) + 1) = (t : Int) + 1 + 1 by omega] at this
            exact this
          | succ s ihs =>
            intro k hk hno
            have hk2 : In n (k : Int) := by omega
            have hbit := (bit_bs hn5 (sB n W p t) hk2).2
            have e0 : sB n W p t k = false → (fun x => mk2 W (sB n W p t) k x || (sB n W p t k && decide (0 < W k x))) = mk2 W (sB n W p t) k := fun q => by
              funext x
              rw [q, Bool.false_and, Bool.or_false]
            refine s_M_far_27 _ _ _ _ (fun _ _ _ _ _ => ⟨d, _, by omega, c_lots X, fun z m1 hz _ _ => ?_⟩)
            obtain ⟨rfl, rfl⟩ := hz
            refine ⟨fun c => absurd c (by omega), fun _ => ⟨d, _, by omega, c_bit, fun z m1 hz _ _ => ?_⟩⟩
            obtain ⟨rfl, rfl⟩ := hz
            cases hS : sB n W p t k with
            | false =>
              have hnb : ¬ bt (bs n (sB n W p t)) k = 1 := fun q => by rw [hbit.mp q] at hS; cases hS
              rw [if_neg hnb]
              refine ⟨fun _ => ⟨d, _, by omega, c_bit, fun z m1 hz _ _ => ?_⟩, fun c => absurd rfl c⟩
              obtain ⟨rfl, rfl⟩ := hz
              rw [if_neg hnb]
              refine ⟨fun _ => ⟨by omega, ?_⟩, fun c => absurd rfl c⟩
              have := ihs (k + 1) (by omega) (fun o ho h => by
                by_cases e : o = (k : Int)
                · rw [e, hS] at h; cases h
                · exact hno o ⟨ho.1, by have := ho.2; omega⟩ h)
              have e1 : mk2 W (sB n W p t) (k + 1) = mk2 W (sB n W p t) k := e0 hS
              rw [e1] at this
              exact this
            | true =>
              have hyb : bt (bs n (sB n W p t)) k = 1 := hbit.mpr hS
              rw [if_pos hyb]
              refine ⟨fun c => absurd c (by decide), fun _ => ⟨d, _, by omega, c_drainOf hn5 X hk2, fun z m1 hz _ _ => ?_⟩⟩
              obtain ⟨rfl, rfl⟩ := hz
              refine ⟨fun c => ⟨d, _, by omega, c_bit, fun z m1 hz _ _ => ?_⟩, fun c => ⟨rfl, fun _ => ?_, fun q => absurd hp q⟩⟩
              · obtain ⟨rfl, rfl⟩ := hz
                rw [if_pos hyb]
                refine ⟨fun c2 => absurd c2 (by decide), fun _ => ⟨d + 1, _, by omega, c_joinedToM B X hk2, fun z m1 hz _ _ => ?_⟩⟩
                obtain ⟨rfl, rfl⟩ := hz
                rw [bs_or2 hn5]
                refine ⟨by omega, ?_⟩
                have := ihs (k + 1) (by omega) (fun o ho h => by
                  by_cases e : o = (k : Int)
                  · rw [e]; exact c
                  · exact hno o ⟨ho.1, by have := ho.2; omega⟩ h)
                have e1 : mk2 W (sB n W p t) (k + 1) = fun x => mk2 W (sB n W p t) k x || decide (0 < W k x) := by
                  funext x
                  show (mk2 W (sB n W p t) k x || (sB n W p t k && decide (0 < W k x))) = _
                  rw [hS, Bool.true_and]
                rw [e1] at this
                exact this
              · refine ⟨t + 1, by omega, by omega, by omega, (rcb_iff B t hp).mpr ⟨k, hk2, (sB_iff t k).mp hS, by omega⟩, ?_⟩
                rw [show t + 1 - 1 = t by omega]
                exact hr
        exact inner n 0 (by omega) (fun o ho => absurd ho (by intro r; have := r.1; have := r.2; omega))
    have e1 : bShl 1 p = bs n (sB n W p 0) := by
      have h := bs_or1 hn5 (fun _ => false) hp
      have hr : 0 ≤ bShl 1 p ∧ bShl 1 p < 32 := by rw [(mb_shl (j := p) ⟨hp.1, by have := hp.2; omega⟩).1]; have := pw_rng (j := p); omega
      refine mb_ext hr (bs5_range hn5 _) (fun i i0 i5 => ?_)
      rw [(mb_shl (j := p) ⟨hp.1, by have := hp.2; omega⟩).2 i i0 i5, mb_bs hn5 _ i0 i5]
      show decide (i = p) = (decide (i < (n : Int)) && decide (i = p))
      by_cases e : i = p
      · rw [decide_eq_true e, decide_eq_true (by rw [e]; exact hp.2)]; rfl
      · rw [decide_eq_false e, Bool.and_false]
    rw [e1]
    exact outer 5 0 (by omega) rfl
  · rw [if_neg hp]
    exact ⟨fun c => absurd rfl c, fun _ => ⟨rfl, fun q => absurd q hp, fun _ => rfl⟩⟩
end Far
