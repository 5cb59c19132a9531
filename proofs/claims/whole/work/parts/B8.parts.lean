/-! what divides all minors of as many rows; the parts -/
theorem dvd_gN {x a b : Int} : x ∣ gN a b ↔ x ∣ a ∧ x ∣ b := by
  unfold gN
  have e : x ∣ ((Nat.gcd a.natAbs b.natAbs : Nat) : Int) ↔ x.natAbs ∣ Nat.gcd a.natAbs b.natAbs := by
    rw [← Int.natAbs_dvd, Int.natCast_dvd_natCast]
  rw [e, Nat.dvd_gcd_iff, Int.natAbs_dvd_natAbs, Int.natAbs_dvd_natAbs]
theorem gN_nonneg {a b : Int} : 0 ≤ gN a b := by unfold gN; omega
def gfo (f : Nat → Int) : Nat → Int
  | 0 => 0
  | t + 1 => gN (gfo f t) (f t)
theorem gfo_nonneg (f : Nat → Int) : ∀ t, 0 ≤ gfo f t
  | 0 => Int.le_refl 0
  | _ + 1 => gN_nonneg
theorem dvd_gfo {x : Int} {f : Nat → Int} : ∀ {t : Nat}, x ∣ gfo f t ↔ ∀ j, j < t → x ∣ f j
  | 0 => ⟨fun _ j hj => by omega, fun _ => Int.dvd_zero x⟩
  | t + 1 => by
    show x ∣ gN (gfo f t) (f t) ↔ _
    rw [dvd_gN, dvd_gfo (t := t)]
    refine ⟨fun h j hj => ?_, fun h => ⟨fun j hj => h j (by omega), h t (by omega)⟩⟩
    by_cases e : j = t
    · rw [e]; exact h.2
    · exact h.1 j (by omega)
theorem dvd_sgs {x : Int} {f : Nat → Int} : ∀ {k : Nat}, (∀ j, j < k → x ∣ f j) → x ∣ sgs k f
  | 0, _ => Int.dvd_zero x
  | k + 1, h => by
    show x ∣ sgs k f + (if k % 2 = 0 then f k else - f k)
    refine Int.dvd_add (dvd_sgs (fun j hj => h j (by omega))) ?_
    have := h k (by omega)
    split
    · exact this
    · exact Int.dvd_neg.mpr this
theorem full_le : ∀ k n : Fin 6, k.val ≤ n.val → bs k.val (fun _ => true) ≤ bs n.val (fun _ => true) := by decide +kernel
theorem LG.down {a : Nat → Nat → Int} {k : Nat} (h : LG (k + 1) a) : LG k a := by
  obtain ⟨h1, h2, ds, h3⟩ := h
  have e : ∀ i, nsm (k + 1) (a i) = nsm k (a i) + a i k := fun i => rfl
  refine ⟨fun i j hi hj => h1 i j (by omega) (by omega), fun i hi => ?_, ds, fun i hi => ?_⟩
  · have := h2 i (by omega)
    have := h1 i k (by omega) (by omega) (by omega)
    have := e i
    omega
  · have g1 := h2 i (by omega)
    have g2 := h1 i k (by omega) (by omega) (by omega)
    have g3 := e i
    rcases h3 i (by omega) with h4 | ⟨j, hj, hji, h5, h6⟩
    · exact Or.inl (by omega)
    · by_cases q : j = k
      · rw [q] at h5
        exact Or.inl (by omega)
      · exact Or.inr ⟨j, by omega, hji, h5, h6⟩
theorem LG.lead {a : Nat → Nat → Int} : ∀ (s : Nat) {k : Nat}, LG (k + s) a → LG k a
  | 0, _, h => h
  | s + 1, _, h => LG.lead s h.down
section Parts
variable {l : Launch} {G : GT} {d : Nat} {m : MM} {b : Nat} {n : Nat} {D : Int → Int} {W : Int → Int → Int} {br : Int → Int}
def DvP (n : Nat) (W : Int → Int → Int) (br : Int → Int) (k : Nat) (S : Int → Int → Prop) (z : Int) : Prop := 0 ≤ z ∧ ∀ x : Int, x ∣ z ↔ ∀ R C, Sub n R → Sub n C → cnt R 5 = k → cnt C 5 = k → S R C → x ∣ MnV W br R C
theorem DvP.cg {k : Nat} {S T : Int → Int → Prop} {z : Int} (h : DvP n W br k S z) (e : ∀ R C, Sub n R → Sub n C → cnt R 5 = k → cnt C 5 = k → (S R C ↔ T R C)) : DvP n W br k T z :=
  ⟨h.1, fun x => (h.2 x).trans ⟨fun g R C h1 h2 h3 h4 h5 => g R C h1 h2 h3 h4 ((e R C h1 h2 h3 h4).mpr h5), fun g R C h1 h2 h3 h4 h5 => g R C h1 h2 h3 h4 ((e R C h1 h2 h3 h4).mp h5)⟩⟩
theorem DvP.nil {k : Nat} {S : Int → Int → Prop} (e : ∀ R C, Sub n R → Sub n C → cnt R 5 = k → cnt C 5 = k → ¬ S R C) : DvP n W br k S 0 :=
  ⟨Int.le_refl 0, fun x => ⟨fun _ R C h1 h2 h3 h4 h5 => absurd h5 (e R C h1 h2 h3 h4), fun _ => Int.dvd_zero x⟩⟩
theorem DvP.add {k : Nat} {S : Int → Int → Prop} {z r c : Int} (h : DvP n W br k S z) (hr : Sub n r) (hc : Sub n c) (kr : cnt r 5 = k) (kc : cnt c 5 = k) : DvP n W br k (fun R C => S R C ∨ (R = r ∧ C = c)) (gN z (MnV W br r c)) := by
  refine ⟨gN_nonneg, fun x => ?_⟩
  rw [dvd_gN, h.2 x]
  refine ⟨fun g R C h1 h2 h3 h4 h5 => ?_, fun g => ⟨fun R C h1 h2 h3 h4 h5 => g R C h1 h2 h3 h4 (Or.inl h5), g r c hr hc kr kc (Or.inr ⟨rfl, rfl⟩)⟩⟩
  rcases h5 with h5 | ⟨rfl, rfl⟩
  · exact g.1 R C h1 h2 h3 h4 h5
  · exact g.2
theorem DvP.uniq {k : Nat} {S : Int → Int → Prop} {z y : Int} (h : DvP n W br k S z) (g : DvP n W br k S y) : z = y :=
  Int.dvd_antisymm h.1 g.1 ((g.2 z).mpr ((h.2 z).mp (Int.dvd_refl z))) ((h.2 y).mpr ((g.2 y).mp (Int.dvd_refl y)))
/-- what divides all minors of k rows -/
def dkF (n : Nat) (W : Int → Int → Int) (br : Int → Int) (k : Nat) : Int :=
  if k = 0 then 1 else gfo (fun t => if (((t / 32 : Nat) : Int) ≤ bs n (fun _ => true) ∧ ((t % 32 : Nat) : Int) ≤ bs n (fun _ => true)) ∧ cnt ((t / 32 : Nat) : Int) 5 = k ∧ cnt ((t % 32 : Nat) : Int) 5 = k then MnV W br ((t / 32 : Nat) : Int) ((t % 32 : Nat) : Int) else 0) 1024
theorem dk_is (hn : n ≤ 5) (k : Nat) : DvP n W br k (fun _ _ => True) (dkF n W br k) := by
  unfold dkF
  by_cases h0 : k = 0
  · rw [if_pos h0]
    subst h0
    refine ⟨by decide, fun x => ⟨fun g R C _ _ h3 _ _ => ?_, fun g => ?_⟩⟩
    · unfold MnV
      rw [h3]
      exact g
    · have hz : Sub n 0 := ⟨Int.le_refl 0, full_sub.1⟩
      have h3 := (nt_1 (x := 0) (by decide)).2.2.1.mp rfl
      have := g 0 0 hz hz h3 h3 trivial
      unfold MnV at this
      rw [h3] at this
      exact this
  · rw [if_neg h0]
    refine ⟨gfo_nonneg _ _, fun x => ?_⟩
    rw [dvd_gfo]
    refine ⟨fun g R C h1 h2 h3 h4 _ => ?_, fun g j hj => ?_⟩
    · have r1 := h1.rng hn
      have r2 := h2.rng hn
      obtain ⟨u, rfl⟩ : ∃ t : Nat, R = (t : Int) := ⟨R.toNat, by omega⟩
      obtain ⟨v, rfl⟩ : ∃ t : Nat, C = (t : Int) := ⟨C.toNat, by omega⟩
      have := g (u * 32 + v) (by omega)
      simp only [show (u * 32 + v) / 32 = u by omega, show (u * 32 + v) % 32 = v by omega] at this
      rw [if_pos ⟨⟨h1.2, h2.2⟩, h3, h4⟩] at this
      exact this
    · show x ∣ (if _ then _ else _)
      split
      · rename_i q
        exact g _ _ ⟨by omega, q.1.1⟩ ⟨by omega, q.1.2⟩ q.2.1 q.2.2 trivial
      · exact Int.dvd_zero x
theorem MnV_lead {k : Nat} (hk : k ≤ 5) : MnV W br (bs k (fun _ => true)) (bs k (fun _ => true)) = dtm k (enN W br) := by
  have hf := full_1 hk
  unfold MnV
  rw [hf.1.2]
  exact dtm_congr (fun i j hi hj => by rw [hf.2.1 i hi, hf.2.1 j hj])
theorem dk_rng (B : BW n D W br) {k : Nat} (hk : k ≤ n) : 0 < dkF n W br k ∧ dkF n W br k ≤ 12000000 := by
  have hn := B.1
  have hd := dk_is (W := W) (br := br) hn k
  have hf := full_1 (n := k) (by omega)
  have hL : LG k (enN W br) := LG.lead (n - k) (by rw [show k + (n - k) = n by omega]; exact B.LG)
  have hp := hL.pos (by omega)
  have hs : Sub n (bs k (fun _ => true)) := ⟨(full_sub (n := k)).1, full_le ⟨k, by omega⟩ ⟨n, by omega⟩ hk⟩
  have hdv := (hd.2 _).mp (Int.dvd_refl _) _ _ hs hs hf.1.2 hf.1.2 trivial
  rw [MnV_lead (by omega)] at hdv
  have hle := Int.le_of_dvd hp hdv
  have hb := dtm_bound (k := k) (a := enN W br) (fun i j hi hj => enN_rng B (by omega) (by omega))
  have h5 := fct_le (k := k) (by omega)
  have h0 := hd.1
  refine ⟨?_, by omega⟩
  rcases Int.lt_or_le 0 (dkF n W br k) with q | q
  · exact q
  · have e : dkF n W br k = 0 := by omega
    rw [e, Int.zero_dvd] at hdv
    omega
theorem dk_dvd (hn : n ≤ 5) (k : Nat) : dkF n W br k ∣ dkF n W br (k + 1) := by
  have h1 := dk_is (W := W) (br := br) hn k
  have h2 := dk_is (W := W) (br := br) hn (k + 1)
  refine (h2.2 _).mpr (fun R C hR hC kR kC _ => ?_)
  rw [MnV_exp hn hR hC (by omega) (by omega)]
  refine dvd_sgs (fun j hj => ?_)
  have r1 := hR.rmv hn (j := 0) (by omega)
  have r2 := hC.rmv hn hj
  have := (h1.2 _).mp (Int.dvd_refl _) _ _ r1.1 r2.1 (by omega) (by omega) trivial
  exact Int.dvd_trans this (Int.dvd_mul_left _ _)
/-- a part -/
def ptF (n : Nat) (W : Int → Int → Int) (br : Int → Int) (k : Nat) : Int := Int.tdiv (dkF n W br (k + 1)) (dkF n W br k)
theorem pt_rng (B : BW n D W br) {k : Nat} (hk : k < n) : 1 ≤ ptF n W br k ∧ ptF n W br k ≤ 12000000 := by
  have h1 := dk_rng B (k := k) (by omega)
  have h2 := dk_rng B (k := k + 1) (by omega)
  have h3 := Int.tdiv_mul_cancel (dk_dvd (W := W) (br := br) B.1 k)
  have h4 := tdiv_rng (x := dkF n W br (k + 1)) (z := dkF n W br k) (M := 12000000) (by omega) h1.1
  refine ⟨?_, h4.2⟩
  unfold ptF
  rcases Int.lt_or_le 0 (Int.tdiv (dkF n W br (k + 1)) (dkF n W br k)) with q | q
  · exact q
  · have := Int.mul_nonpos_of_nonpos_of_nonneg q (Int.le_of_lt h1.1)
    omega
/-- how many of the first k parts are more than 1 -/
def pcF (n : Nat) (W : Int → Int → Int) (br : Int → Int) : Nat → Int
  | 0 => 0
  | k + 1 => if ptF n W br k = 1 then pcF n W br k else pcF n W br k + 1
theorem pc_rng : ∀ k : Nat, 0 ≤ pcF n W br k ∧ pcF n W br k ≤ k
  | 0 => by show (0 : Int) ≤ 0 ∧ (0 : Int) ≤ ((0 : Nat) : Int); decide
  | k + 1 => by
    have := pc_rng k
    show 0 ≤ (if ptF n W br k = 1 then pcF n W br k else pcF n W br k + 1) ∧ (if ptF n W br k = 1 then pcF n W br k else pcF n W br k + 1) ≤ ((k + 1 : Nat) : Int)
    split <;> omega
/-- the part of number i among those that are more than 1 -/
def paF (n : Nat) (W : Int → Int → Int) (br : Int → Int) (i : Int) : Nat → Int
  | 0 => -1
  | k + 1 => if ptF n W br k ≠ 1 ∧ pcF n W br k = i then ptF n W br k else paF n W br i k
theorem pa_none {i : Int} : ∀ k : Nat, (i < 0 ∨ pcF n W br k ≤ i) → paF n W br i k = -1
  | 0, _ => rfl
  | k + 1, h => by
    have h0 := pc_rng (n := n) (W := W) (br := br) k
    have e : pcF n W br (k + 1) = if ptF n W br k = 1 then pcF n W br k else pcF n W br k + 1 := rfl
    show (if ptF n W br k ≠ 1 ∧ pcF n W br k = i then ptF n W br k else paF n W br i k) = -1
    by_cases q : ptF n W br k = 1
    · rw [if_pos q] at e
      rw [if_neg (fun c => c.1 q)]
      exact pa_none k (by omega)
    · rw [if_neg q] at e
      rw [if_neg (fun c => by omega)]
      exact pa_none k (by omega)
theorem pa_keep {i : Int} {k : Nat} : ∀ s : Nat, i < pcF n W br k → paF n W br i (k + s) = paF n W br i k ∧ pcF n W br k ≤ pcF n W br (k + s)
  | 0, _ => ⟨rfl, Int.le_refl _⟩
  | s + 1, h => by
    obtain ⟨h1, h2⟩ := pa_keep s h
    have e : pcF n W br (k + (s + 1)) = if ptF n W br (k + s) = 1 then pcF n W br (k + s) else pcF n W br (k + s) + 1 := rfl
    refine ⟨?_, by rw [e]; split <;> omega⟩
    show (if ptF n W br (k + s) ≠ 1 ∧ pcF n W br (k + s) = i then ptF n W br (k + s) else paF n W br i (k + s)) = _
    rw [if_neg (fun c => by omega)]
    exact h1
end Parts
