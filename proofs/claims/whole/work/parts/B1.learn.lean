/-! the class learns its minors -/
theorem bit_tab : ∀ x : Fin 32, ∀ i : Fin 5, bAnd (bShr (x.val : Int) (i.val : Int)) 1 = if mb (x.val : Int) (i.val : Int) = true then 1 else 0 := by decide +kernel
theorem bit_mb {x i : Int} (hx : 0 ≤ x ∧ x < 32) (hi : 0 ≤ i ∧ i < 5) : bAnd (bShr x i) 1 = if mb x i = true then 1 else 0 := by
  obtain ⟨a, rfl⟩ := fin_of (k := 32) hx.1 hx.2
  obtain ⟨t, rfl⟩ := fin_of (k := 5) hi.1 hi.2
  exact bit_tab a t
section Learn
variable {l : Launch} {G : GT} {d : Nat} {m : MM} {b : Nat} {n : Nat} {D : Int → Int} {W : Int → Int → Int} {br : Int → Int}
theorem c_expanded (B : BW n D W br) (hb : isB b) (X : BX n D W br b m) {R C : Int} (hR : Sub n R) (hC : Sub n C) (e : cnt R 5 = cnt C 5) (h0 : 0 < cnt R 5) (hm : ∀ j, j < cnt C 5 → m 39 (rmv R 0 * 32 + rmv C j) = MnV W br (rmv R 0) (rmv C j)) : CI l G Y_Group_expanded (d + 2) [.inr (.inr 38), .inr (.inr b), .inl R, .inl C] m (fun z m' => z = MnV W br R C ∧ m = m') := by
  have hn5 := B.1
  have hR32 := hR.rng hn5
  have hC32 := hC.rng hn5
  have hC5 := cnt_le C 5
  have hR0 : R ≠ 0 := fun q => by have := (nt_1 hR32).2.2.1.mp q; omega
  have hl := ((nt_1 hR32).2.1 hR0).1
  have hr := hR.nt hn5 h0
  have hRm := hR.rmv hn5 h0
  have hRmr := hRm.1.rng hn5
  refine e_Group_expanded R C b hb (fun _ _ _ => ⟨d, _, by omega, c_ntz (by omega), fun z m1 hz _ _ => ?_⟩)
  obtain ⟨rfl, rfl⟩ := hz
  rw [hl, MnV_exp hn5 hR hC e h0]
  generalize hf : (fun j => enN W br (nt R 0) (nt C j) * MnV W br (rmv R 0) (rmv C j)) = f
  have hfb : ∀ j, j < cnt C 5 → -2400000 ≤ f j ∧ f j ≤ 2400000 := fun j hj => by
    have hCj := hC.rmv hn5 hj
    have h1 := enN_rng B hr (hC.nt hn5 hj)
    have h2 := MnV_rng B hRm.1 hCj.1 (by omega)
    have h3 := fct_le4 (k := cnt (rmv R 0) 5) (by have := cnt_le R 5; omega)
    have h4 := prod_bound h1 (show -240000 ≤ MnV W br (rmv R 0) (rmv C j) ∧ MnV W br (rmv R 0) (rmv C j) ≤ 240000 by omega) (by decide) (by decide)
    rw [← hf]
    exact h4
  have loop : ∀ (s t : Nat), t + s = 5 → Wq l G false Y_Group_expanded (d + 2) (QI fun z m' => z = sgs (cnt C 5) f ∧ m = m') 15 [(0, .inr (.inr 38)), (1, .inr (.inr b)), (2, .inl R), (3, .inl C), (4, .inl ((nt R 0 : Nat) : Int)), (5, .inl (if cnt C t % 2 = 0 then 1 else -1)), (6, .inl (sgs (cnt C t) f)), (7, .inl (t : Int))] [] m := by
    intro s
    induction s with
    | zero =>
      intro t ht
      have e5 : t = 5 := by omega
      subst e5
      exact s_Group_expanded_15 _ _ _ _ _ _ b hb (fun _ _ _ _ _ _ _ => ⟨fun _ => ⟨rfl, rfl⟩, fun c => absurd (by decide) c⟩)
    | succ s ih =>
      intro t ht
      have hbit := bit_mb hC32 (i := (t : Int)) (by omega)
      refine s_Group_expanded_15 _ _ _ _ _ _ b hb (fun _ _ _ _ _ _ _ => ⟨fun c => absurd c (by omega), fun _ => ?_⟩)
      rw [hbit]
      cases hmb : mb C (t : Int) with
      | false =>
        have ec : cnt C (t + 1) = cnt C t := by
          show cnt C t + (if mb C (t : Int) = true then 1 else 0) = cnt C t
          rw [hmb]; rfl
        have := ih (t + 1) (by omega)
        rw [ec] at this
        exact ⟨fun _ => ⟨by omega, this⟩, fun c => absurd rfl c⟩
      | true =>
        have ec : cnt C (t + 1) = cnt C t + 1 := by
          show cnt C t + (if mb C (t : Int) = true then 1 else 0) = cnt C t + 1
          rw [hmb]; rfl
        obtain ⟨hnt, hlt⟩ := (nt_1 hC32).2.2.2 t (by omega) hmb
        have htn : t < n := by have := hC.nt hn5 hlt; omega
        have hCj := hC.rmv hn5 hlt
        have hCjr := hCj.1.rng hn5
        have erc : bAnd C (bXor (bShl 1 (t : Int)) (-1)) = rmv C (cnt C t) := by unfold rmv; rw [hnt]
        have err : bAnd R (bXor (bShl 1 ((nt R 0 : Nat) : Int)) (-1)) = rmv R 0 := rfl
        have hfj := hfb (cnt C t) hlt
        have hsb := sgs_bound (k := cnt C t) (f := f) (M := 2400000) (by decide) (fun j hj => hfb j (by omega))
        have hct : cnt C t ≤ 4 := by omega
        have fin : ∀ y : Int, y = enN W br (nt R 0) t → Wq l G false Y_Group_expanded (d + 2) (QI fun z m' => z = sgs (cnt C 5) f ∧ m = m') 56 [(0, .inr (.inr 38)), (1, .inr (.inr b)), (2, .inl R), (3, .inl C), (4, .inl ((nt R 0 : Nat) : Int)), (5, .inl (if cnt C t % 2 = 0 then 1 else -1)), (6, .inl (sgs (cnt C t) f)), (7, .inl (t : Int))] [.inl y] m := by
          intro y hy
          have hyr := enN_rng B hr htn
          have efj : f (cnt C t) = y * MnV W br (rmv R 0) (rmv C (cnt C t)) := by
            rw [← hf, hy]
            show enN W br (nt R 0) (nt C (cnt C t)) * _ = _
            rw [hnt]
          have nx := ih (t + 1) (by omega)
          rw [ec] at nx
          have es : sgs (cnt C t + 1) f = sgs (cnt C t) f + (if cnt C t % 2 = 0 then f (cnt C t) else - f (cnt C t)) := rfl
          rw [es] at nx
          have hmv := MnV_rng B hRm.1 hCj.1 (by omega)
          have h3 := fct_le4 (k := cnt (rmv R 0) 5) (by have := cnt_le R 5; omega)
          refine s_Group_expanded_56 _ _ _ _ _ _ _ b hb (fun _ _ _ _ _ _ _ _ => ?_)
          rw [erc, err, hm (cnt C t) hlt]
          by_cases hpar : cnt C t % 2 = 0
          · rw [if_pos hpar] at nx ⊢
            rw [if_neg (show ¬ (cnt C t + 1) % 2 = 0 by omega), efj] at nx
            rw [Int.one_mul]
            rw [efj] at hfj
            exact ⟨by omega, by omega, by omega, by omega, by omega, by omega, by omega, by omega, nx⟩
          · rw [if_neg hpar] at nx ⊢
            rw [if_pos (show (cnt C t + 1) % 2 = 0 by omega), efj] at nx
            rw [show (-1 : Int) * y = -y by omega, Int.neg_mul]
            rw [efj] at hfj
            rw [show -(-1 : Int) = 1 by decide]
            exact ⟨by omega, by omega, by omega, by omega, by omega, by omega, by omega, by omega, nx⟩
        refine ⟨fun c => absurd c (by decide), fun _ => ⟨fun c => ⟨d + 1, _, by omega, c_width hb hn5 X, fun z m1 hz _ _ => ?_⟩, fun c => ⟨by omega, fin _ ?_⟩⟩⟩
        · obtain ⟨rfl, rfl⟩ := hz
          have h1 : In n ((nt R 0 : Nat) : Int) := ⟨by omega, by omega⟩
          have h2 : In n (t : Int) := ⟨by omega, by omega⟩
          rw [if_pos ⟨h1, h2⟩]
          have hw := B.2.2.1 _ _ h1 h2
          refine ⟨by omega, fin _ ?_⟩
          unfold enN
          rw [if_neg (by omega)]
        · have h2 : In n (t : Int) := ⟨by omega, by omega⟩
          have e3 : nt R 0 = t := by have := Classical.not_not.mp c; omega
          rw [X.2.2.1 t h2]
          unfold enN
          rw [if_pos e3, e3]
  exact loop 5 0 (by omega)
/-- the minors that the class knows -/
def MnR (n : Nat) (W : Int → Int → Int) (br : Int → Int) (a : Int) (M : Int → Int) : Prop := a = bs n (fun _ => true) ∧ ∀ R C, Sub n R → Sub n C → cnt R 5 = cnt C 5 → M (R * 32 + C) = MnV W br R C
/-- as much of it as is asked: with no plate there is nothing to ask -/
def MnQ (n : Nat) (W : Int → Int → Int) (br : Int → Int) (a : Int) (M : Int → Int) : Prop := a = bs n (fun _ => true) ∧ (0 < n → ∀ R C, Sub n R → Sub n C → cnt R 5 = cnt C 5 → M (R * 32 + C) = MnV W br R C)
theorem MnR.q {n : Nat} {W : Int → Int → Int} {br : Int → Int} {a : Int} {M : Int → Int} (h : MnR n W br a M) : MnQ n W br a M := ⟨h.1, fun _ => h.2⟩
theorem c_learnMinors (B : BW n D W br) (hb : isB b) (X : BX n D W br b m) {P : MM → Prop}
    (K : ∀ m', Fro 38 [39] [1] m m' → MnR n W br (m' 38 1) (m' 39) → Wq l G false Y_Group_learn (d + 3) (QV P) 21 [(0, .inr (.inr 38)), (1, .inr (.inr b)), (2, .inl (bs n (fun _ => true) + 1))] [] m') : CV l G Y_Group_learn (d + 3) [.inr (.inr 38), .inr (.inr b)] m P := by
  have hn5 := B.1
  have hfull := full_1 hn5
  have hf0 := bs5_range hn5 (fun _ => true)
  refine e_Group_learn b hb (fun _ => ?_)
  rw [X.1, bs_full hn5]
  refine ⟨by omega, ?_⟩
  rintro m1 rfl m2 rfl
  have f2 : Fro 38 [39] [1] m (up (up m 38 1 (bs n (fun _ => true))) 39 0 1) := Fro_up (Fro_upo Fro.rf (by simp)) (by simp) (by decide)
  have ea : up (up m 38 1 (bs n (fun _ => true))) 39 0 1 38 1 = bs n (fun _ => true) := by rw [up_ne (by decide), up_at]
  have e0 : up (up m 38 1 (bs n (fun _ => true))) 39 0 1 39 0 = 1 := up_at
  generalize up (up m 38 1 (bs n (fun _ => true))) 39 0 1 = m2 at f2 ea e0
  have XF : ∀ m1, Fro 38 [39] [1] m m1 → BX n D W br b m1 := fun m1 f => X.fr (S := [38, 39]) (fun c hc => f.1 c (by simp only [List.mem_cons, List.not_mem_nil, or_false] at hc ⊢; omega) (by simp only [List.mem_cons, List.not_mem_nil, or_false] at hc; omega)) (by rcases hb with rfl | rfl <;> decide) (by rcases hb with rfl | rfl <;> decide) (by rcases hb with rfl | rfl <;> decide) (by rcases hb with rfl | rfl <;> decide)
  generalize hA : bs n (fun _ => true) = A at hf0 ea hfull K
  have hSub : ∀ x : Int, Sub n x ↔ 0 ≤ x ∧ x ≤ A := fun x => by unfold Sub; rw [hA]
  have outer : ∀ (s : Nat) (r : Int) (m1 : MM), r + s = A + 1 → 1 ≤ r → Fro 38 [39] [1] m m1 → m1 38 1 = A → (∀ R C, Sub n R → Sub n C → cnt R 5 = cnt C 5 → R < r → m1 39 (R * 32 + C) = MnV W br R C) → Wq l G false Y_Group_learn (d + 3) (QV P) 21 [(0, .inr (.inr 38)), (1, .inr (.inr b)), (2, .inl r)] [] m1 := by
    intro s
    induction s with
    | zero =>
      intro r m1 hrs r1 f e1 hv
      have er : r = A + 1 := by omega
      rw [er]
      exact K m1 f ⟨by rw [e1, hA], fun R C hR hC hc => hv R C hR hC hc (by have := (hSub R).mp hR; omega)⟩
    | succ s ih =>
      intro r m1 hrs r1 f e1 hv
      have hr : Sub n r := (hSub r).mpr (by omega)
      have hr32 := hr.rng hn5
      refine s_Group_learn_21 _ b hb (fun _ _ => ⟨fun c => absurd c (by omega), fun _ => ?_⟩)
      have inner : ∀ (t : Nat) (c : Int) (m2 : MM), c + t = A + 1 → 1 ≤ c → Fro 38 [39] [1] m m2 → m2 38 1 = A → (∀ R C, Sub n R → Sub n C → cnt R 5 = cnt C 5 → (R < r ∨ (R = r ∧ C < c)) → m2 39 (R * 32 + C) = MnV W br R C) → Wq l G false Y_Group_learn (d + 3) (QV P) 31 [(0, .inr (.inr 38)), (1, .inr (.inr b)), (2, .inl r), (3, .inl c)] [] m2 := by
        intro t
        induction t with
        | zero =>
          intro c m2 hct c1 f2 e2 hv2
          refine s_Group_learn_31 _ _ b hb (fun _ _ _ => ⟨fun _ => ⟨by omega, ih (r + 1) m2 (by omega) (by omega) f2 e2 (fun R C hR hC hc hlt => hv2 R C hR hC hc ?_)⟩, fun q => absurd (show c > m2 38 1 by omega) q⟩)
          have := (hSub C).mp hC
          omega
        | succ t iht =>
          intro c m2 hct c1 f2 e2 hv2
          have hc : Sub n c := (hSub c).mpr (by omega)
          have hc32 := hc.rng hn5
          have nr := (nt_1 hr32).1
          have nc := (nt_1 hc32).1
          refine s_Group_learn_31 _ _ b hb (fun _ _ _ => ⟨fun q => absurd q (by omega), fun _ => ⟨d, _, by omega, c_bitCount hr32, fun z m3 hz _ _ => ?_⟩⟩)
          obtain ⟨rfl, rfl⟩ := hz
          refine ⟨d, _, by omega, c_bitCount hc32, fun z m3 hz _ _ => ?_⟩
          obtain ⟨rfl, rfl⟩ := hz
          refine ⟨fun q => ⟨by omega, iht (c + 1) m2 (by omega) (by omega) f2 e2 (fun R C hR hC hcc hlt => ?_)⟩, fun q => ⟨by omega, by omega, ?_⟩⟩
          · by_cases e3 : R = r ∧ C = c
            · exfalso
              rw [e3.1, e3.2] at hcc
              omega
            · exact hv2 R C hR hC hcc (by omega)
          · have ecc : cnt r 5 = cnt c 5 := by have := Classical.not_not.mp q; omega
            have hpos : 0 < cnt r 5 := ((nt_1 hr32).2.1 (by omega)).2
            have hrm := hr.rmv hn5 hpos
            refine ⟨d + 2, _, by omega, c_expanded B hb (XF m2 f2) hr hc ecc hpos (fun j hj => ?_), fun z m3 hz _ _ => ⟨by omega, ?_⟩⟩
            · have hcm := hc.rmv hn5 hj
              exact hv2 _ _ hrm.1 hcm.1 (by omega) (Or.inl hrm.2.1)
            · obtain ⟨rfl, rfl⟩ := hz
              rintro m3 rfl
              refine ⟨by omega, iht (c + 1) _ (by omega) (by omega) (Fro_up f2 (by simp) (by decide)) (by rw [up_ne (by decide)]; exact e2) (fun R C hR hC hcc hlt => ?_)⟩
              have hR32 := hR.rng hn5
              have hC32 := hC.rng hn5
              rw [up_row]
              by_cases e3 : R = r ∧ C = c
              · rw [if_pos (by rw [e3.1, e3.2]), e3.1, e3.2]
              · rw [if_neg (by omega)]
                exact hv2 R C hR hC hcc (by omega)
      refine inner (A.toNat) 1 m1 (by omega) (by omega) f e1 (fun R C hR hC hcc hlt => ?_)
      by_cases e3 : R < r
      · exact hv R C hR hC hcc e3
      · exfalso
        have h1 := (hSub C).mp hC
        have hC0 : C = 0 := by omega
        have hRr : R = r := by omega
        rw [hC0, hRr] at hcc
        have h2 := ((nt_1 hr32).2.1 (by omega)).2
        have h3 := (nt_1 (x := 0) (by decide)).2.2.1.mp rfl
        omega
  refine outer A.toNat 1 m2 (by omega) (by omega) f2 ea (fun R C hR hC hcc hlt => ?_)
  have h1 := (hSub R).mp hR
  have hR0 : R = 0 := by omega
  subst hR0
  have h3 := (nt_1 (x := 0) (by decide)).2.2.1.mp rfl
  have hC0 : C = 0 := (nt_1 (hC.rng hn5)).2.2.1.mpr (by omega)
  subst hC0
  rw [show (0 : Int) * 32 + 0 = 0 by decide, e0]
  unfold MnV
  rw [h3]
  rfl
theorem MnV_full (B : BW n D W br) : MnV W br (bs n (fun _ => true)) (bs n (fun _ => true)) = dtm n (enN W br) := by
  have hf := full_1 B.1
  unfold MnV
  rw [hf.1.2]
  exact dtm_congr (fun i j hi hj => by rw [hf.2.1 i hi, hf.2.1 j hj])
theorem full_sub : Sub n (bs n (fun _ => true)) := ⟨sm_nonneg (fun i _ => by show 0 ≤ (if true = true then pw i else 0); rw [if_pos rfl]; have := pw_rng (j := i); omega), Int.le_refl _⟩
theorem MnV_cof (B : BW n D W br) {p o : Nat} (hp : p < n) (ho : o < n) : MnV W br (rmv (bs n (fun _ => true)) p) (rmv (bs n (fun _ => true)) o) = dtm (n - 1) (mnr (enN W br) p o) := by
  have hn5 := B.1
  have hf := full_1 hn5
  have hs := full_sub (n := n)
  have h1 := nt_2 (hs.rng hn5) (j := p) (by omega) (by omega)
  have h2 := nt_2 (hs.rng hn5) (j := o) (by omega) (by omega)
  unfold MnV
  rw [show cnt (rmv (bs n (fun _ => true)) p) 5 = n - 1 by omega]
  refine dtm_congr (fun i j hi hj => ?_)
  rw [h1.2.2.2 i (by omega) (by omega), h2.2.2.2 j (by omega) (by omega)]
  show enN W br (nt (bs n (fun _ => true)) (skp p i)) (nt (bs n (fun _ => true)) (skp o j)) = enN W br (skp p i) (skp o j)
  rw [hf.2.1 _ (by have := skp_lt (j := p) hi; omega), hf.2.1 _ (by have := skp_lt (j := o) hj; omega)]
theorem cof_rng (B : BW n D W br) {p o : Int} (hp : In n p) (ho : In n o) : -240000 ≤ cof n W br p o ∧ cof n W br p o ≤ 240000 := by
  have hn5 := B.1
  have h := dtm_bound (k := n - 1) (a := mnr (enN W br) p.toNat o.toNat) (fun i j hi hj => by
    have h1 := skp_lt (j := p.toNat) hi
    have h2 := skp_lt (j := o.toNat) hj
    exact enN_rng B (by omega) (by omega))
  have h2 := fct_le4 (k := n - 1) (by omega)
  unfold cof
  split <;> omega
theorem c_cofactor (B : BW n D W br) (M : MnQ n W br (m 38 1) (m 39)) {p o : Int} (hp : In n p) (ho : In n o) : CJ l G Y_Group_cofactor d [.inr (.inr 38), .inl p, .inl o] m (fun z m' => z = cof n W br p o ∧ m = m') := by
  have hn5 := B.1
  have hf := full_1 hn5
  have hs := full_sub (n := n)
  obtain ⟨p', rfl⟩ : ∃ t : Nat, p = (t : Int) := ⟨p.toNat, by have := hp.1; omega⟩
  obtain ⟨o', rfl⟩ : ∃ t : Nat, o = (t : Int) := ⟨o.toNat, by have := ho.1; omega⟩
  have hp' : p' < n := by have := hp.2; omega
  have ho' : o' < n := by have := ho.2; omega
  have h1 := hs.rmv hn5 (j := p') (by omega)
  have h2 := hs.rmv hn5 (j := o') (by omega)
  have r1 := h1.1.rng hn5
  have r2 := h2.1.rng hn5
  have ep : bAnd (m 38 1) (bXor (bShl 1 (p' : Int)) (-1)) = rmv (bs n (fun _ => true)) p' := by unfold rmv; rw [hf.2.1 p' hp', M.1]
  have eo : bAnd (m 38 1) (bXor (bShl 1 (o' : Int)) (-1)) = rmv (bs n (fun _ => true)) o' := by unfold rmv; rw [hf.2.1 o' ho', M.1]
  have hn0 : 0 < n := by omega
  have ev := M.2 hn0 _ _ h1.1 h2.1 (by omega)
  rw [MnV_cof B hp' ho'] at ev
  have hcr := cof_rng B hp ho
  have ecof : cof n W br (p' : Int) (o' : Int) = if ((p' : Int) + o') % 2 = 0 then dtm (n - 1) (mnr (enN W br) p' o') else - dtm (n - 1) (mnr (enN W br) p' o') := by
    unfold cof
    rw [Int.toNat_natCast, Int.toNat_natCast]
  refine e_Group_cofactor _ _ (fun _ _ _ => ?_)
  rw [ep, eo, ev, Int.tmod_eq_emod_of_nonneg (show 0 ≤ (p' : Int) + (o' : Int) by omega)]
  rw [ecof] at hcr ⊢
  by_cases q : ((p' : Int) + o') % 2 = 0
  · rw [if_pos q] at hcr ⊢
    exact ⟨by omega, by omega, by omega, by omega, fun c => absurd q c, fun _ => ⟨rfl, rfl⟩⟩
  · rw [if_neg q] at hcr ⊢
    exact ⟨by omega, by omega, by omega, by omega, fun _ => ⟨by omega, rfl, rfl⟩, fun c => absurd (Classical.not_not.mp c) q⟩
def meV (n : Nat) (W : Int → Int → Int) (br : Int → Int) (p o k : Int) : Int := if In n p ∧ In n o ∧ 0 ≤ k ∧ k ≤ 1 then Int.tdiv (if k = 0 then cof n W br p o else dtm n (enN W br)) (gN (cof n W br p o) (dtm n (enN W br))) else -1
theorem c_meanX (B : BW n D W br) (X : CX n D W br b m) (M : MnQ n W br (m 38 1) (m 39)) (hs : m 38 6 = dtm n (enN W br)) {p o k : Int} : CI l G Y_S_mean (d + 3) [.inr (.inr 0), .inl p, .inl o, .inl k] m (fun z m' => z = meV n W br p o k ∧ m = m') := by
  unfold meV
  refine e_S_mean p o k (fun _ _ _ _ => ⟨b, X.2.1, X.1, d, _, by omega, c_has X.1, fun z m1 hz _ _ => ?_⟩)
  obtain ⟨rfl, rfl⟩ := hz
  rw [has_if X.2.2]
  by_cases hp : In n p
  · rw [if_pos hp]
    refine ⟨fun c => absurd c (by decide), fun _ => ⟨b, X.2.1, X.1, d, _, by omega, c_has X.1, fun z m1 hz _ _ => ?_⟩⟩
    obtain ⟨rfl, rfl⟩ := hz
    rw [has_if X.2.2]
    by_cases ho : In n o
    · rw [if_pos ho]
      refine ⟨fun c => absurd c (by decide), fun _ => ⟨fun c => ⟨by rw [if_neg (fun q => by have := q.2.2.1; omega)], rfl⟩, fun c => ⟨fun c2 => ⟨d, _, by omega, c_cofactor B M hp ho, fun z m1 hz _ _ => ?_⟩, fun c2 => ⟨by rw [if_neg (fun q => by have := q.2.2.2; omega)], rfl⟩⟩⟩⟩
      obtain ⟨rfl, rfl⟩ := hz
      have hcr := cof_rng B hp ho
      have hd := B.det
      have hdl := B.det_le
      rw [hs, if_pos ⟨hp, ho, by omega, c2⟩]
      exact ⟨d + 2, _, by omega, c_part (by omega) (by omega) (by omega), fun z m1 hz _ _ => hz⟩
    · rw [if_neg ho]
      exact ⟨fun _ => ⟨by rw [if_neg (fun q => ho q.2.1)], rfl⟩, fun c => absurd rfl c⟩
  · rw [if_neg hp]
    exact ⟨fun _ => ⟨by rw [if_neg (fun q => hp q.1)], rfl⟩, fun c => absurd rfl c⟩
theorem c_manyX (B : BW n D W br) (hs : m 38 6 = dtm n (enN W br)) : CI l G Y_S_many d [.inr (.inr 0)] m (fun z m' => z = dtm n (enN W br) ∧ m = m') := by
  have hd := B.det
  have hdl := B.det_le
  exact e_S_many (fun _ => ⟨by omega, hs, rfl⟩)
end Learn
