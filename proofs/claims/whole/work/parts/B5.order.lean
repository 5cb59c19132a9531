/-! how often till nothing -/
set_option maxRecDepth 100000 in
theorem dtm_tr1 (a : Nat → Nat → Int) : dtm 1 (fun i j => a j i) = dtm 1 a := rfl
set_option maxRecDepth 100000 in
theorem dtm_tr2 (a : Nat → Nat → Int) : dtm 2 (fun i j => a j i) = dtm 2 a := by
  have e1 : dtm 2 a = 0 + a 0 0 * (0 + a 1 1 * (1)) + -(a 0 1 * (0 + a 1 0 * (1))) := rfl
  have e2 : dtm 2 (fun i j => a j i) = 0 + a 0 0 * (0 + a 1 1 * (1)) + -(a 1 0 * (0 + a 0 1 * (1))) := rfl
  rw [e1, e2]
  generalize a 0 0 = x00
  generalize a 0 1 = x01
  generalize a 1 0 = x10
  generalize a 1 1 = x11
  grind
set_option maxRecDepth 100000 in
theorem dtm_tr3 (a : Nat → Nat → Int) : dtm 3 (fun i j => a j i) = dtm 3 a := by
  have e1 : dtm 3 a = 0 + a 0 0 * (0 + a 1 1 * (0 + a 2 2 * (1)) + -(a 1 2 * (0 + a 2 1 * (1)))) + -(a 0 1 * (0 + a 1 0 * (0 + a 2 2 * (1)) + -(a 1 2 * (0 + a 2 0 * (1))))) + a 0 2 * (0 + a 1 0 * (0 + a 2 1 * (1)) + -(a 1 1 * (0 + a 2 0 * (1)))) := rfl
  have e2 : dtm 3 (fun i j => a j i) = 0 + a 0 0 * (0 + a 1 1 * (0 + a 2 2 * (1)) + -(a 2 1 * (0 + a 1 2 * (1)))) + -(a 1 0 * (0 + a 0 1 * (0 + a 2 2 * (1)) + -(a 2 1 * (0 + a 0 2 * (1))))) + a 2 0 * (0 + a 0 1 * (0 + a 1 2 * (1)) + -(a 1 1 * (0 + a 0 2 * (1)))) := rfl
  rw [e1, e2]
  generalize a 0 0 = x00
  generalize a 0 1 = x01
  generalize a 0 2 = x02
  generalize a 1 0 = x10
  generalize a 1 1 = x11
  generalize a 1 2 = x12
  generalize a 2 0 = x20
  generalize a 2 1 = x21
  generalize a 2 2 = x22
  grind
set_option maxRecDepth 100000 in
theorem dtm_tr4 (a : Nat → Nat → Int) : dtm 4 (fun i j => a j i) = dtm 4 a := by
  have e1 : dtm 4 a = 0 + a 0 0 * (0 + a 1 1 * (0 + a 2 2 * (0 + a 3 3 * (1)) + -(a 2 3 * (0 + a 3 2 * (1)))) + -(a 1 2 * (0 + a 2 1 * (0 + a 3 3 * (1)) + -(a 2 3 * (0 + a 3 1 * (1))))) + a 1 3 * (0 + a 2 1 * (0 + a 3 2 * (1)) + -(a 2 2 * (0 + a 3 1 * (1))))) + -(a 0 1 * (0 + a 1 0 * (0 + a 2 2 * (0 + a 3 3 * (1)) + -(a 2 3 * (0 + a 3 2 * (1)))) + -(a 1 2 * (0 + a 2 0 * (0 + a 3 3 * (1)) + -(a 2 3 * (0 + a 3 0 * (1))))) + a 1 3 * (0 + a 2 0 * (0 + a 3 2 * (1)) + -(a 2 2 * (0 + a 3 0 * (1)))))) + a 0 2 * (0 + a 1 0 * (0 + a 2 1 * (0 + a 3 3 * (1)) + -(a 2 3 * (0 + a 3 1 * (1)))) + -(a 1 1 * (0 + a 2 0 * (0 + a 3 3 * (1)) + -(a 2 3 * (0 + a 3 0 * (1))))) + a 1 3 * (0 + a 2 0 * (0 + a 3 1 * (1)) + -(a 2 1 * (0 + a 3 0 * (1))))) + -(a 0 3 * (0 + a 1 0 * (0 + a 2 1 * (0 + a 3 2 * (1)) + -(a 2 2 * (0 + a 3 1 * (1)))) + -(a 1 1 * (0 + a 2 0 * (0 + a 3 2 * (1)) + -(a 2 2 * (0 + a 3 0 * (1))))) + a 1 2 * (0 + a 2 0 * (0 + a 3 1 * (1)) + -(a 2 1 * (0 + a 3 0 * (1)))))) := rfl
  have e2 : dtm 4 (fun i j => a j i) = 0 + a 0 0 * (0 + a 1 1 * (0 + a 2 2 * (0 + a 3 3 * (1)) + -(a 3 2 * (0 + a 2 3 * (1)))) + -(a 2 1 * (0 + a 1 2 * (0 + a 3 3 * (1)) + -(a 3 2 * (0 + a 1 3 * (1))))) + a 3 1 * (0 + a 1 2 * (0 + a 2 3 * (1)) + -(a 2 2 * (0 + a 1 3 * (1))))) + -(a 1 0 * (0 + a 0 1 * (0 + a 2 2 * (0 + a 3 3 * (1)) + -(a 3 2 * (0 + a 2 3 * (1)))) + -(a 2 1 * (0 + a 0 2 * (0 + a 3 3 * (1)) + -(a 3 2 * (0 + a 0 3 * (1))))) + a 3 1 * (0 + a 0 2 * (0 + a 2 3 * (1)) + -(a 2 2 * (0 + a 0 3 * (1)))))) + a 2 0 * (0 + a 0 1 * (0 + a 1 2 * (0 + a 3 3 * (1)) + -(a 3 2 * (0 + a 1 3 * (1)))) + -(a 1 1 * (0 + a 0 2 * (0 + a 3 3 * (1)) + -(a 3 2 * (0 + a 0 3 * (1))))) + a 3 1 * (0 + a 0 2 * (0 + a 1 3 * (1)) + -(a 1 2 * (0 + a 0 3 * (1))))) + -(a 3 0 * (0 + a 0 1 * (0 + a 1 2 * (0 + a 2 3 * (1)) + -(a 2 2 * (0 + a 1 3 * (1)))) + -(a 1 1 * (0 + a 0 2 * (0 + a 2 3 * (1)) + -(a 2 2 * (0 + a 0 3 * (1))))) + a 2 1 * (0 + a 0 2 * (0 + a 1 3 * (1)) + -(a 1 2 * (0 + a 0 3 * (1)))))) := rfl
  rw [e1, e2]
  generalize a 0 0 = x00
  generalize a 0 1 = x01
  generalize a 0 2 = x02
  generalize a 0 3 = x03
  generalize a 1 0 = x10
  generalize a 1 1 = x11
  generalize a 1 2 = x12
  generalize a 1 3 = x13
  generalize a 2 0 = x20
  generalize a 2 1 = x21
  generalize a 2 2 = x22
  generalize a 2 3 = x23
  generalize a 3 0 = x30
  generalize a 3 1 = x31
  generalize a 3 2 = x32
  generalize a 3 3 = x33
  grind
theorem dtm_tr {k : Nat} (hk : k ≤ 4) (a : Nat → Nat → Int) : dtm k (fun i j => a j i) = dtm k a := by
  have : k = 0 ∨ k = 1 ∨ k = 2 ∨ k = 3 ∨ k = 4 := by omega
  rcases this with rfl | rfl | rfl | rfl | rfl
  · rfl
  · exact dtm_tr1 a
  · exact dtm_tr2 a
  · exact dtm_tr3 a
  · exact dtm_tr4 a
section Ord
variable {n : Nat} {D : Int → Int} {W : Int → Int → Int} {br : Int → Int}
theorem cof_sym (B : BW n D W br) {i j : Int} (hi : In n i) (hj : In n j) : cof n W br i j = cof n W br j i := by
  have hn5 := B.1
  have e : dtm (n - 1) (mnr (enN W br) i.toNat j.toNat) = dtm (n - 1) (mnr (enN W br) j.toNat i.toNat) := by
    rw [← dtm_tr (k := n - 1) (by omega) (mnr (enN W br) j.toNat i.toNat)]
    refine dtm_congr (fun s t hs ht => ?_)
    show enN W br (skp i.toNat s) (skp j.toNat t) = enN W br (skp j.toNat t) (skp i.toNat s)
    have h1 := skp_lt (j := i.toNat) hs
    have h2 := skp_lt (j := j.toNat) ht
    have hn1 : n - 1 + 1 = n := by have := hi.1; have := hi.2; omega
    unfold enN
    by_cases q : skp i.toNat s = skp j.toNat t
    · rw [if_pos q, if_pos q.symm, q]
    · rw [if_neg q, if_neg (fun r => q r.symm), (B.2.2.1 _ _ ⟨by omega, by omega⟩ ⟨by omega, by omega⟩ : 0 ≤ W ((skp i.toNat s : Nat) : Int) ((skp j.toNat t : Nat) : Int) ∧ _ ∧ W ((skp i.toNat s : Nat) : Int) ((skp j.toNat t : Nat) : Int) = _).2.2]
  unfold cof
  rw [e, Int.add_comm i j]
/-- one with no grains -/
def Img (n : Nat) (W : Int → Int → Int) (br X : Int → Int) : Prop := ∃ w, ∀ i, In n i → X i = Lp n W br w i
/-- how often a heap must be added till it is one with no grains -/
def OrR (n : Nat) (W : Int → Int → Int) (br X : Int → Int) (z : Int) : Prop := 1 ≤ z ∧ Img n W br (fun i => z * X i) ∧ ∀ t, 1 ≤ t → Img n W br (fun i => t * X i) → z ≤ t
theorem Img.congr {X Y : Int → Int} (h : Img n W br X) (e : ∀ i, In n i → X i = Y i) : Img n W br Y := by
  obtain ⟨w, hw⟩ := h
  exact ⟨w, fun i hi => by rw [← e i hi]; exact hw i hi⟩
theorem OrR.uniq {X Y : Int → Int} {z z' : Int} (e : ∀ i, In n i → X i = Y i) (h : OrR n W br X z) (h' : OrR n W br Y z') : z = z' := by
  have a := h.2.2 z' h'.1 (h'.2.1.congr (fun i hi => by rw [e i hi]))
  have b := h'.2.2 z h.1 (h.2.1.congr (fun i hi => by rw [e i hi]))
  omega
theorem Lp_self (B : BW n D W br) (a w : Int → Int) : sm n (fun j => a j * Lp n W br w j) = sm n (fun j => w j * Lp n W br a j) := by
  have e1 : ∀ a w : Int → Int, sm n (fun j => a j * Lp n W br w j) = sm n (fun j => a j * (br j * w j)) - sm n (fun j => sm n (fun t => a j * (W j t * w t))) := fun a w => by
    rw [← sm_sub]
    refine sm_congr (fun j _ => ?_)
    show a j * (br j * w j - sm n (fun t => W j t * w t)) = _
    rw [Int.mul_sub, ← sm_mul]
  rw [e1 a w, e1 w a, sm_swap n n (fun j t => w j * (W j t * a t))]
  have e2 : sm n (fun j => a j * (br j * w j)) = sm n (fun j => w j * (br j * a j)) := sm_congr (fun j _ => by
    generalize a j = x
    generalize br j = y
    generalize w j = z
    grind)
  have e3 : sm n (fun j => sm n (fun t => a j * (W j t * w t))) = sm n (fun j => sm n (fun i => w i * (W i j * a j))) := sm_congr (fun j hj => sm_congr (fun t ht => by
    rw [(B.2.2.1 t j ht hj).2.2]
    generalize a j = x
    generalize W j t = y
    generalize w t = z
    grind))
  rw [e2, e3]
/-- a heap by the minors of a plate -/
def enX (n : Nat) (W : Int → Int → Int) (br X : Int → Int) (i : Int) : Int := sm n (fun j => cof n W br i j * X j)
theorem enX_Lp (B : BW n D W br) (X : Int → Int) {r : Int} (hr : In n r) : Lp n W br (enX n W br X) r = X r * dtm n (enN W br) := by
  rw [← det_none B X hr]
  exact Lp_congr (fun i hi => by
    unfold enX
    exact sm_congr (fun j hj => by rw [cof_sym B hi hj, Int.mul_comm])) r hr
theorem enX_dvd (B : BW n D W br) {X w : Int → Int} {t : Int} (h : ∀ i, In n i → t * X i = Lp n W br w i) {i : Int} (hi : In n i) : t * enX n W br X i = dtm n (enN W br) * w i := by
  have e := Lp_self B (cof n W br i) w
  have e1 : sm n (fun j => cof n W br i j * Lp n W br w j) = t * enX n W br X i := by
    unfold enX
    rw [← sm_mul]
    exact sm_congr (fun j hj => by
      rw [← h j hj]
      generalize cof n W br i j = x
      generalize X j = y
      grind)
  have e2 : sm n (fun j => w j * Lp n W br (cof n W br i) j) = dtm n (enN W br) * w i := by
    have : sm n (fun j => w j * Lp n W br (cof n W br i) j) = sm n (fun j => if j = i then w i * dtm n (enN W br) else 0) := sm_congr (fun j hj => by
      rw [Lp_cof B hi hj]
      by_cases q : j = i
      · rw [if_pos q, if_pos q, q]
      · rw [if_neg q, if_neg q, Int.mul_zero])
    rw [this, sm_one, if_pos hi, Int.mul_comm]
  rw [← e1, ← e2]
  exact e
/-- what divides all -/
def gdF (g : Int) (e : Int → Int) : Nat → Int
  | 0 => g
  | k + 1 => gN (gdF g e k) (e k)
theorem gN_dvd (a b : Int) : gN a b ∣ a ∧ gN a b ∣ b := ⟨Int.gcd_dvd_left a b, Int.gcd_dvd_right a b⟩
theorem gdF_pos {g : Int} {e : Int → Int} (hg : 0 < g) : ∀ k, 0 < gdF g e k
  | 0 => hg
  | k + 1 => by
    show 0 < gN (gdF g e k) (e k)
    rw [gN_comm]
    exact gN_pos (by have := gdF_pos (e := e) hg k; omega)
theorem gdF_dvd {g : Int} {e : Int → Int} : ∀ k, gdF g e k ∣ g ∧ ∀ j : Nat, j < k → gdF g e k ∣ e j
  | 0 => ⟨Int.dvd_refl g, fun j hj => absurd hj (by omega)⟩
  | k + 1 => by
    have ih := gdF_dvd (g := g) (e := e) k
    have h := gN_dvd (gdF g e k) (e k)
    refine ⟨Int.dvd_trans h.1 ih.1, fun j hj => ?_⟩
    by_cases q : j = k
    · rw [q]; exact h.2
    · exact Int.dvd_trans h.1 (ih.2 j (by omega))
theorem gdF_mul {g t : Int} {e : Int → Int} (ht : 0 ≤ t) : ∀ k, (∀ j : Nat, j < k → g ∣ t * e j) → g ∣ t * gdF g e k
  | 0, _ => ⟨t, Int.mul_comm t g⟩
  | k + 1, h => by
    have ih := gdF_mul ht k (fun j hj => h j (by omega))
    have h2 := h k (by omega)
    have h3 : g ∣ ((Int.gcd (t * gdF g e k) (t * e k) : Nat) : Int) := Int.dvd_coe_gcd ih h2
    rw [Int.gcd_mul_left] at h3
    have e1 : ((t.natAbs * Int.gcd (gdF g e k) (e k) : Nat) : Int) = t * gN (gdF g e k) (e k) := by
      rw [Int.natCast_mul, Int.natAbs_of_nonneg ht]
      rfl
    rw [e1] at h3
    exact h3
/-- the class's answer is the order -/
theorem ord_of (B : BW n D W br) (X : Int → Int) : ∃ q, dtm n (enN W br) = gdF (dtm n (enN W br)) (enX n W br X) n * q ∧ OrR n W br X q := by
  have hd := B.det
  have hG := gdF_pos (e := enX n W br X) hd n
  have hv := gdF_dvd (g := dtm n (enN W br)) (e := enX n W br X) n
  obtain ⟨q, hq⟩ := hv.1
  refine ⟨q, hq, ?_⟩
  have hq1 : 1 ≤ q := by
    rcases Int.lt_or_le 0 q with r | r
    · omega
    · have := Int.mul_nonpos_of_nonneg_of_nonpos (Int.le_of_lt hG) r
      omega
  refine ⟨hq1, ⟨fun i => enX n W br X i / gdF (dtm n (enN W br)) (enX n W br X) n, fun i hi => ?_⟩, fun t ht him => ?_⟩
  · refine Int.eq_of_mul_eq_mul_left (show gdF (dtm n (enN W br)) (enX n W br X) n ≠ 0 by omega) ?_
    rw [← Lp_smul]
    have e1 : Lp n W br (fun j => gdF (dtm n (enN W br)) (enX n W br X) n * (enX n W br X j / gdF (dtm n (enN W br)) (enX n W br X) n)) i = Lp n W br (enX n W br X) i := Lp_congr (fun j hj => by
      obtain ⟨j', rfl⟩ : ∃ s : Nat, j = (s : Int) := ⟨j.toNat, by have := hj.1; omega⟩
      exact Int.mul_ediv_cancel' (hv.2 j' (by have := hj.2; omega))) i hi
    rw [e1, enX_Lp B X hi]
    have e2 : X i * dtm n (enN W br) = X i * (gdF (dtm n (enN W br)) (enX n W br X) n * q) := by rw [← hq]
    rw [e2]
    show gdF (dtm n (enN W br)) (enX n W br X) n * (q * X i) = _
    generalize gdF (dtm n (enN W br)) (enX n W br X) n = g
    generalize X i = x
    grind
  · obtain ⟨w, hw⟩ := him
    have h1 := gdF_mul (g := dtm n (enN W br)) (e := enX n W br X) (t := t) (by omega) n (fun j hj => by
      have := enX_dvd B hw (i := (j : Int)) ⟨by omega, by omega⟩
      exact ⟨w j, this⟩)
    obtain ⟨c, hc⟩ := h1
    -- t * G = G * q * c
    have h2 : t = q * c := by
      refine Int.eq_of_mul_eq_mul_left (show gdF (dtm n (enN W br)) (enX n W br X) n ≠ 0 by omega) ?_
      have e3 : dtm n (enN W br) * c = gdF (dtm n (enN W br)) (enX n W br X) n * q * c := by rw [← hq]
      rw [e3] at hc
      rw [Int.mul_comm, hc, Int.mul_assoc]
    have hc1 : 1 ≤ c := by
      rcases Int.lt_or_le 0 c with r | r
      · omega
      · have := Int.mul_nonpos_of_nonneg_of_nonpos (show 0 ≤ q by omega) r
        omega
    have h3 := Int.mul_le_mul_of_nonneg_left hc1 (show 0 ≤ q by omega)
    omega
end Ord
