/-! mend of the class -/
section MendX
variable {l : Launch} {G : GT} {d : Nat} {m : MM} {b : Nat} {n : Nat} {D : Int → Int} {W : Int → Int → Int} {br : Int → Int}
theorem c_digitOf {x : Int} (hx : 0 ≤ x ∧ x < 5) : CI l G Y_Fire_digitOf d [.inl x] m (fun z m' => z = 4 * (4 - x) ∧ m = m') := e_Fire_digitOf _ (fun _ _ => ⟨by unfold inR; omega, by unfold inR; omega, rfl, rfl⟩)
theorem bShl_dig {x : Int} (hx : 0 ≤ x ∧ x < 5) : bShl 1 (4 * (4 - x)) = plI x := by
  have h : x = 0 ∨ x = 1 ∨ x = 2 ∨ x = 3 ∨ x = 4 := by omega
  rcases h with rfl | rfl | rfl | rfl | rfl <;> decide +kernel
theorem bShr_dig {v : Int} (hv : inR v) {s : Int} (hs : s = 0 ∨ s = 4 ∨ s = 8 ∨ s = 12 ∨ s = 16 ∨ s = 20) : bShr v s = v / 2 ^ s.toNat := by
  unfold bShr
  have h0 : (BitVec.ofInt 32 v).toInt = v := by
    rw [BitVec.toInt_ofInt]
    exact w32_id hv
  rcases hs with rfl | rfl | rfl | rfl | rfl | rfl
  · have h2 : (Int32.ofInt v >>> (Int32.ofInt 0 &&& 31)).toInt = ((BitVec.ofInt 32 v).sshiftRight 0).toInt := rfl
    rw [h2, BitVec.toInt_sshiftRight, h0, Int.shiftRight_eq_div_pow]; rfl
  · have h2 : (Int32.ofInt v >>> (Int32.ofInt 4 &&& 31)).toInt = ((BitVec.ofInt 32 v).sshiftRight 4).toInt := rfl
    rw [h2, BitVec.toInt_sshiftRight, h0, Int.shiftRight_eq_div_pow]; rfl
  · have h2 : (Int32.ofInt v >>> (Int32.ofInt 8 &&& 31)).toInt = ((BitVec.ofInt 32 v).sshiftRight 8).toInt := rfl
    rw [h2, BitVec.toInt_sshiftRight, h0, Int.shiftRight_eq_div_pow]; rfl
  · have h2 : (Int32.ofInt v >>> (Int32.ofInt 12 &&& 31)).toInt = ((BitVec.ofInt 32 v).sshiftRight 12).toInt := rfl
    rw [h2, BitVec.toInt_sshiftRight, h0, Int.shiftRight_eq_div_pow]; rfl
  · have h2 : (Int32.ofInt v >>> (Int32.ofInt 16 &&& 31)).toInt = ((BitVec.ofInt 32 v).sshiftRight 16).toInt := rfl
    rw [h2, BitVec.toInt_sshiftRight, h0, Int.shiftRight_eq_div_pow]; rfl
  · have h2 : (Int32.ofInt v >>> (Int32.ofInt 20 &&& 31)).toInt = ((BitVec.ofInt 32 v).sshiftRight 20).toInt := rfl
    rw [h2, BitVec.toInt_sshiftRight, h0, Int.shiftRight_eq_div_pow]; rfl
theorem bShr_20 {v : Int} (hv : inR v) : bShr v 20 = v / 1048576 := by
  have e : (2 : Int) ^ (20 : Int).toNat = 1048576 := by decide +kernel
  rw [bShr_dig hv (s := 20) (by decide), e]
theorem bAnd_15 (x : Int) : bAnd x 15 = x % 16 := by
  unfold bAnd
  have h2 : (Int32.ofInt x &&& Int32.ofInt 15).toInt = (BitVec.ofInt 32 x &&& 15#32).toInt := rfl
  rw [h2, BitVec.toInt_eq_toNat_cond]
  have h3 : (BitVec.ofInt 32 x &&& 15#32).toNat = (x % 4294967296).toNat % 16 := by
    rw [BitVec.toNat_and, BitVec.toNat_ofInt]
    exact Nat.and_two_pow_sub_one_eq_mod _ 4
  rw [h3, if_pos (by omega)]
  omega
theorem dig_of {v x : Int} (hv : inR v) (hx : 0 ≤ x ∧ x < 5) : bAnd (bShr v (4 * (4 - x))) 15 = v / plI x % 16 := by
  rw [bAnd_15]
  have h : x = 0 ∨ x = 1 ∨ x = 2 ∨ x = 3 ∨ x = 4 := by omega
  rcases h with rfl | rfl | rfl | rfl | rfl
  · have e : (2 : Int) ^ (4 * (4 - (0 : Int))).toNat = plI 0 := by decide +kernel
    rw [bShr_dig hv (s := 4 * (4 - 0)) (by decide), e]
  · have e : (2 : Int) ^ (4 * (4 - (1 : Int))).toNat = plI 1 := by decide +kernel
    rw [bShr_dig hv (s := 4 * (4 - 1)) (by decide), e]
  · have e : (2 : Int) ^ (4 * (4 - (2 : Int))).toNat = plI 2 := by decide +kernel
    rw [bShr_dig hv (s := 4 * (4 - 2)) (by decide), e]
  · have e : (2 : Int) ^ (4 * (4 - (3 : Int))).toNat = plI 3 := by decide +kernel
    rw [bShr_dig hv (s := 4 * (4 - 3)) (by decide), e]
  · have e : (2 : Int) ^ (4 * (4 - (4 : Int))).toNat = plI 4 := by decide +kernel
    rw [bShr_dig hv (s := 4 * (4 - 4)) (by decide), e]
theorem c_priceWith (B : BW n D W br) (hb : isB b) (X : BX n D W br b m) {h len : Nat} (hl : q_lay h = .inr (0, len)) (h5 : 5 ≤ len) (hlt : len < 2147483648) (hS : Stl br n (m h)) (p : Int → Bool) {i : Int} (hi : In n i) (hc : 0 ≤ m 54 (bs n p) ∧ m 54 (bs n p) ≤ 60000000) : CI l G Y_Fire_priceWith (d + 3) [.inr (.inr 45), .inr (.inr b), .inr (.inr h), .inl (bs n p), .inl i] m (fun z m' => m = m' ∧ ((D i + wT n W i p = 0 ∧ z = 2147483647) ∨ (0 < D i + wT n W i p ∧ z = m 54 (bs n p) + lck n D W br (m h) p i * wtI i))) := by
  have hn5 := B.1
  have hr := wT_rng B hi p n (Nat.le_refl _)
  have hD := B.2.1 i hi
  have hbr := B.br hi
  have hb10 := B.br10 hi
  have hh := hS i hi
  have hi2 := hi.2
  have hi1 := hi.1
  have hbs := bs5_range hn5 p
  refine e_Fire_priceWith _ _ b h len hb hl hlt (by omega) (fun _ _ _ => ⟨d + 2, _, by omega, c_widthToBurnt B hb X hi p, fun z m1 hz _ _ => ?_⟩)
  obtain ⟨rfl, rfl⟩ := hz
  rw [X.2.2.1 i hi]
  refine ⟨fun c => ⟨by omega, by omega, by omega, by omega, by omega, d, _, by omega, c_digitOf (x := i) (by omega), fun z m2 hz _ _ => ?_⟩, fun c => ⟨rfl, Or.inl ⟨Classical.not_not.mp c, rfl⟩⟩⟩
  obtain ⟨rfl, rfl⟩ := hz
  have hp := plI_rng i
  rw [bShl_dig (x := i) (by omega)]
  have ew : (1048576 : Int) + plI i = wtI i := rfl
  rw [ew]
  have el : max 0 (br i - (D i + wT n W i p) - m h i) = lck n D W br (m h) p i := rfl
  rw [el]
  have hlk : 0 ≤ lck n D W br (m h) p i ∧ lck n D W br (m h) p i ≤ 10 := by unfold lck; omega
  have hw : 0 ≤ wtI i ∧ wtI i ≤ 1114112 := by unfold wtI; omega
  have q1 := Int.mul_nonneg hlk.1 hw.1
  have q2 := Int.mul_le_mul_of_nonneg_right hlk.2 hw.1
  exact ⟨by omega, by omega, by omega, rfl, Or.inr ⟨by omega, rfl⟩⟩
/-- the last of a set to burn -/
def QL (n : Nat) (D : Int → Int) (W : Int → Int → Int) (br h0 : Int → Int) (p : Int → Bool) (i : Int) (f : Int → Int) : Prop := p i = true ∧ 0 < D i + wT n W i (wob p i) ∧ f i = lck n D W br h0 (wob p i) i ∧ OrA n D W br h0 (wob p i) (fun x => if x = i then 0 else f x)
theorem QL.or {h0 f : Int → Int} {p : Int → Bool} {i : Int} (hi : In n i) (q : QL n D W br h0 p i f) : OrA n D W br h0 p f := by
  obtain ⟨h1, h2, h3, h4⟩ := q
  refine OrA.step hi h1 h4 h2 h3 (fun x hx hp => ?_)
  obtain ⟨L, K, -, -, g⟩ := h4
  have ne : x ≠ i := fun e => by rw [e, h1] at hp; exact absurd hp (by decide)
  have := g x hx (by show (p x && !decide (x = i)) = false; rw [hp]; rfl)
  rw [← if_neg (c := x = i) (t := (0 : Int)) (e := f x) ne]
  exact this
theorem QL.min {h0 : Int → Int} {p : Int → Bool} {i c : Int} (hi : In n i) (hp : p i = true) (hw : 0 < D i + wT n W i (wob p i)) (hc : MinV n (OrA n D W br h0 (wob p i)) c) (hc2 : c < 2147483647) (hlt : c + lck n D W br h0 (wob p i) i * wtI i < 2147483647) : MinV n (QL n D W br h0 p i) (c + lck n D W br h0 (wob p i) i * wtI i) := by
  have price : ∀ f : Int → Int, f i = lck n D W br h0 (wob p i) i → pk n f = pk n (fun x => if x = i then 0 else f x) + lck n D W br h0 (wob p i) i * wtI i := fun f hf => by
    rw [← pk_upd (f := fun x => if x = i then 0 else f x) hi (if_pos rfl)]
    refine pk_congr (fun x _ => ?_)
    show f x = if x = i then _ else (if x = i then 0 else f x)
    by_cases e : x = i
    · rw [if_pos e, e, hf]
    · rw [if_neg e, if_neg e]
  rcases hc with ⟨h1, -⟩ | ⟨h1, ⟨f, h2, h3⟩, h4⟩
  · omega
  · refine Or.inr ⟨hlt, ⟨fun x => if x = i then lck n D W br h0 (wob p i) i else f x, ⟨hp, hw, if_pos rfl, ?_⟩, ?_⟩, fun g hg => ?_⟩
    · have hfi : f i = 0 := by
        obtain ⟨L, K, -, -, g⟩ := h2
        exact g i hi (by show (p i && !decide (i = i)) = false; simp)
      refine h2.congr (fun _ _ => rfl) (fun x _ => ?_)
      show f x = if x = i then 0 else (if x = i then _ else f x)
      by_cases e : x = i
      · rw [if_pos e, e, hfi]
      · rw [if_neg e, if_neg e]
    · have hfi : f i = 0 := by
        obtain ⟨L, K, -, -, g⟩ := h2
        exact g i hi (by show (p i && !decide (i = i)) = false; simp)
      rw [pk_upd hi hfi, h3]
    · have := h4 _ hg.2.2.2
      rw [price g hg.2.2.1]
      omega
theorem wob_bs (hn : n ≤ 5) {x : Int} (hx : Sub n x) {k : Nat} (hk : k < n) : bAnd x (bXor (bShl 1 (k : Int)) (-1)) = bs n (wob (mb x) k) ∧ (bAnd x (bXor (bShl 1 (k : Int)) (-1)) = x ↔ mb x k = false) ∧ (mb x k = true → Sub n (bs n (wob (mb x) k)) ∧ bs n (wob (mb x) k) < x) := by
  have hx32 := hx.rng hn
  have ex : x = bs n (mb x) := bs_mb hn hx32 (fun i i0 i5 h => by
    cases hm : mb x i with
    | false => rfl
    | true =>
      exfalso
      obtain ⟨t, rfl⟩ : ∃ t : Nat, i = (t : Int) := ⟨i.toNat, by omega⟩
      have := (full_1 hn).2.2 x hx.1 hx.2 t (by omega) hm
      omega)
  have hki : In n (k : Int) := ⟨by omega, by omega⟩
  have e1 : bAnd x (bXor (bShl 1 (k : Int)) (-1)) = bs n (wob (mb x) k) := by
    have h := bs_diff1 hn (mb x) (j := (k : Int)) (by omega)
    rw [← ex] at h
    exact h
  refine ⟨e1, ?_, fun hm => ?_⟩
  · rw [e1]
    constructor
    · intro e
      have e' : bs n (wob (mb x) k) = bs n (mb x) := e.trans ex
      have := bs_eq hn e' k hki
      rw [← this]
      show (mb x k && !decide ((k : Int) = (k : Int))) = false
      simp
    · intro hm
      have : bs n (wob (mb x) k) = bs n (mb x) := bs_congr (fun i hi => by
        show (mb x i && !decide (i = (k : Int))) = mb x i
        by_cases q : i = (k : Int)
        · rw [q, hm]; rfl
        · simp [q])
      rw [this]
      exact ex.symm
  · obtain ⟨h1, h2⟩ := (nt_1 hx32).2.2.2 k (by omega) hm
    have h3 := hx.rmv hn h2
    have e2 : rmv x (cnt x k) = bs n (wob (mb x) k) := by
      unfold rmv
      rw [h1]
      exact e1
    rw [e2] at h3
    exact ⟨h3.1, h3.2.1⟩
theorem c_leastToAdd (B : BW n D W br) (hb : isB b) (X : BX n D W br b m) (hS : Stl br n (m 33)) (hc : m 67 1 = 0) : CI l G Y_Fire_leastToAdd (d + 4) [.inr (.inr 45), .inr (.inr b), .inr (.inr 33), .inr (.inr 67)] m (fun z m' => Fr [54, 67, 68] m m' ∧ ∃ f, MdR n D W br (m 33) f ∧ z = sm n f ∧ m' 67 1 = n ∧ ∀ i, In n i → m' 68 i = f i) := by
  have hn5 := B.1
  have hf0 := bs5_range hn5 (fun _ => true)
  have hfull := full_1 hn5
  have XF : ∀ m1, Fr [54, 67, 68] m m1 → BX n D W br b m1 := fun m1 f => X.fr f (by rcases hb with rfl | rfl <;> decide) (by rcases hb with rfl | rfl <;> decide) (by rcases hb with rfl | rfl <;> decide) (by rcases hb with rfl | rfl <;> decide)
  have pkr : ∀ {p : Int → Bool} {c : Int}, MinV n (OrA n D W br (m 33) p) c → c < 2147483647 → 0 ≤ c ∧ c ≤ 60000000 := fun {p c} h hlt => by
    rcases h with ⟨h1, -⟩ | ⟨-, ⟨f, h2, h3⟩, -⟩
    · omega
    · rw [h3]
      exact pk_rng hn5 (fun i hi => ⟨(h2.rng B hS i hi).1, (h2.rng B hS i hi).2.2⟩)
  refine e_Fire_leastToAdd b 33 5 hb rfl (by decide) (fun _ => ?_)
  rw [X.1, bs_full hn5]
  refine ⟨by omega, ?_⟩
  intro m1 e1
  have f1 : Fr [54, 67, 68] m m1 := by rw [e1]; exact Fr_up Fr.rf (by simp)
  have hfs := full_sub (n := n)
  generalize hA : bs n (fun _ => true) = A at hf0 hfull hfs
  have hSub : ∀ x : Int, Sub n x ↔ 0 ≤ x ∧ x ≤ A := fun x => by unfold Sub; rw [hA]
  have endl : ∀ (f : Int → Int), MdR n D W br (m 33) f → ∀ (s k : Nat) (m2 : MM), k + s = n → Fr [54, 67, 68] m m2 → m2 54 A = pk n f → m2 67 1 = k → (∀ i, In k i → m2 68 i = f i) → Wq l G false Y_Fire_leastToAdd (d + 4) (QI fun z m' => Fr [54, 67, 68] m m' ∧ ∃ f, MdR n D W br (m 33) f ∧ z = sm n f ∧ m' 67 1 = n ∧ ∀ i, In n i → m' 68 i = f i) 120 [(0, .inr (.inr 45)), (1, .inr (.inr b)), (3, .inr (.inr 67)), (4, .inl A), (5, .inl (k : Int))] [] m2 := by
    intro f hf
    have fr9 : ∀ i, In n i → 0 ≤ f i ∧ f i ≤ 9 := fun i hi => by
      have := hf.1 i hi
      have := hS i hi
      have := B.br10 hi
      omega
    have dig := pk_dig hn5 fr9
    have hpk := pk_rng hn5 fr9
    intro s
    induction s with
    | zero =>
      intro k m2 hk f2 e54 e67 e68
      have ek : k = n := by omega
      refine s_Fire_leastToAdd_120 _ _ b hb (fun _ _ _ => ⟨fun _ => ⟨by omega, f2, f, hf, ?_, by rw [e67, ek], fun i hi => e68 i (by rw [ek]; exact hi)⟩, fun c => absurd (show (k : Int) ≥ m2 b 0 by rw [(XF m2 f2).1]; omega) c⟩)
      rw [e54, bShr_20 (by unfold inR; omega)]
      exact dig.2
    | succ s ih =>
      intro k m2 hk f2 e54 e67 e68
      have hi : In n (k : Int) := ⟨by omega, by omega⟩
      have hp := plI_rng (k : Int)
      refine s_Fire_leastToAdd_120 _ _ b hb (fun _ _ _ => ⟨fun c => absurd c (by rw [(XF m2 f2).1]; omega), fun _ => ⟨by omega, d, _, by omega, c_digitOf (x := (k : Int)) (by omega), fun z m3 hz _ _ => ?_⟩⟩)
      obtain ⟨rfl, rfl⟩ := hz
      have ed : bAnd (bShr (m2 54 A) (4 * (4 - (k : Int)))) 15 = f k := by
        rw [e54, dig_of (by unfold inR; omega) (by omega)]
        exact dig.1 k hi
      rw [ed]
      refine ⟨d, _, by omega, c_lyingPut (by omega), fun m3 hm3 _ => ⟨by omega, ?_⟩⟩
      have nx := ih (k + 1) m3 (by omega) (by rw [hm3]; exact Fr_up (Fr_up f2 (by simp)) (by simp)) (by rw [hm3, up_ne (by decide), up_ne (by decide)]; exact e54) (by rw [hm3, up_at]; omega) (fun i hi2 => by
        rw [hm3, up_ne (by decide), up_row, e67]
        by_cases q : i = (k : Int)
        · rw [if_pos q, q]
        · rw [if_neg q]
          exact e68 i (hi2.cut q))
      rw [show ((k + 1 : Nat) : Int) = (k : Int) + 1 by omega] at nx
      exact nx
  have outer : ∀ (s : Nat) (x : Int) (m2 : MM), x + s = A + 1 → 1 ≤ x → Fr [54, 67, 68] m m2 → m2 67 = m 67 → (∀ y, Sub n y → y < x → MinV n (OrA n D W br (m 33) (mb y)) (m2 54 y)) → Wq l G false Y_Fire_leastToAdd (d + 4) (QI fun z m' => Fr [54, 67, 68] m m' ∧ ∃ f, MdR n D W br (m 33) f ∧ z = sm n f ∧ m' 67 1 = n ∧ ∀ i, In n i → m' 68 i = f i) 20 [(0, .inr (.inr 45)), (1, .inr (.inr b)), (2, .inr (.inr 33)), (3, .inr (.inr 67)), (4, .inl A), (5, .inl x)] [] m2 := by
    intro s
    induction s with
    | zero =>
      intro x m2 hxs x1 f2 e67 hv
      refine s_Fire_leastToAdd_20 _ _ b 33 5 hb rfl (by decide) (fun _ _ _ => ⟨fun _ => ?_, fun c => absurd (show x > A by omega) c⟩)
      have hmin := hv A hfs (by omega)
      obtain ⟨f, hf, ec⟩ := MinV.mdr B hS (fun i hi => by
        have h := mb_bs hn5 (fun _ => true) hi.1 (show i < 5 by have := hi.2; omega)
        rw [hA] at h
        rw [h]
        have := hi.2
        simp [this]) hmin
      exact endl f hf n 0 m2 (by omega) f2 ec (by rw [e67]; exact hc) (fun i hi => by have := hi.1; have := hi.2; omega)
    | succ s ih =>
      intro x m2 hxs x1 f2 e67 hv
      have hx : Sub n x := (hSub x).mpr (by omega)
      have hx32 := hx.rng hn5
      refine s_Fire_leastToAdd_20 _ _ b 33 5 hb rfl (by decide) (fun _ _ _ => ⟨fun c => absurd c (by omega), fun _ => ⟨by omega, ?_⟩⟩)
      intro m3 e3
      have hpos : 0 < cnt x 5 := ((nt_1 hx32).2.1 (by omega)).2
      have hne : ∃ i, In n i ∧ mb x i = true := by
        have h1 := nt_2 hx32 hpos (by decide)
        have h2 := hx.nt hn5 hpos
        exact ⟨_, ⟨by omega, by omega⟩, h1.1.2⟩
      have inner : ∀ (t k : Nat) (m4 : MM), k + t = n → Fr [54, 67, 68] m m4 → m4 67 = m 67 → (∀ y, Sub n y → y < x → MinV n (OrA n D W br (m 33) (mb y)) (m4 54 y)) → MinV n (fun f => ∃ i, In n i ∧ i < (k : Int) ∧ QL n D W br (m 33) (mb x) i f) (m4 54 x) → Wq l G false Y_Fire_leastToAdd (d + 4) (QI fun z m' => Fr [54, 67, 68] m m' ∧ ∃ f, MdR n D W br (m 33) f ∧ z = sm n f ∧ m' 67 1 = n ∧ ∀ i, In n i → m' 68 i = f i) 39 [(0, .inr (.inr 45)), (1, .inr (.inr b)), (2, .inr (.inr 33)), (3, .inr (.inr 67)), (4, .inl A), (5, .inl x), (6, .inl (k : Int))] [] m4 := by
        intro t
        induction t with
        | zero =>
          intro k m4 hk f4 e674 hv4 hm4
          refine s_Fire_leastToAdd_39 _ _ _ b 33 5 hb rfl (by decide) (by omega) (fun _ _ _ _ => ⟨fun _ => ⟨by omega, ih (x + 1) m4 (by omega) (by omega) f4 e674 (fun y hy hlt => ?_)⟩, fun c => absurd (show (k : Int) ≥ m4 b 0 by rw [(XF m4 f4).1]; omega) c⟩)
          by_cases q : y = x
          · rw [q]
            refine hm4.congr (fun f => ⟨fun h => ?_, fun h => ?_⟩)
            · obtain ⟨i, hi, -, hq⟩ := h
              exact hq.or hi
            · obtain ⟨i, hi, g1, g2, g3, g4⟩ := h.last hne
              exact ⟨i, hi, by have := hi.2; omega, g1, g2, g3, g4⟩
          · exact hv4 y hy (by omega)
        | succ t iht =>
          intro k m4 hk f4 e674 hv4 hm4
          have hk5 : (k : Int) < 5 := by omega
          have hi : In n (k : Int) := ⟨by omega, by omega⟩
          obtain ⟨w1, w2, w3⟩ := wob_bs hn5 hx (k := k) (by omega)
          have X4 := XF m4 f4
          have e33 : m4 33 = m 33 := f4 33 (by decide)
          have nx : ∀ m5, Fr [54, 67, 68] m m5 → m5 67 = m 67 → (∀ y, Sub n y → y < x → MinV n (OrA n D W br (m 33) (mb y)) (m5 54 y)) → MinV n (fun f => (∃ i, In n i ∧ i < (k : Int) ∧ QL n D W br (m 33) (mb x) i f) ∨ QL n D W br (m 33) (mb x) k f) (m5 54 x) → Wq l G false Y_Fire_leastToAdd (d + 4) (QI fun z m' => Fr [54, 67, 68] m m' ∧ ∃ f, MdR n D W br (m 33) f ∧ z = sm n f ∧ m' 67 1 = n ∧ ∀ i, In n i → m' 68 i = f i) 39 [(0, .inr (.inr 45)), (1, .inr (.inr b)), (2, .inr (.inr 33)), (3, .inr (.inr 67)), (4, .inl A), (5, .inl x), (6, .inl ((k : Int) + 1))] [] m5 := fun m5 f5 e675 hv5 hm5 => by
            have := iht (k + 1) m5 (by omega) f5 e675 hv5 (hm5.congr (fun f => ⟨fun h => ?_, fun h => ?_⟩))
            · rw [show ((k + 1 : Nat) : Int) = (k : Int) + 1 by omega] at this
              exact this
            · rcases h with ⟨i, h1, h2, h3⟩ | h
              · exact ⟨i, h1, by omega, h3⟩
              · exact ⟨k, hi, by omega, h⟩
            · obtain ⟨i, h1, h2, h3⟩ := h
              by_cases q : i = (k : Int)
              · rw [q] at h3; exact Or.inr h3
              · exact Or.inl ⟨i, h1, by omega, h3⟩
          have skip : (∀ f, ¬ QL n D W br (m 33) (mb x) k f) → MinV n (fun f => (∃ i, In n i ∧ i < (k : Int) ∧ QL n D W br (m 33) (mb x) i f) ∨ QL n D W br (m 33) (mb x) k f) (m4 54 x) := fun h => hm4.congr (fun f => ⟨Or.inl, fun g => g.elim id (fun g => absurd g (h f))⟩)
          refine s_Fire_leastToAdd_39 _ _ _ b 33 5 hb rfl (by decide) (by omega) (fun _ _ _ _ => ⟨fun c => absurd c (by rw [X4.1]; omega), fun _ => ⟨fun c => ⟨by omega, nx m4 f4 e674 hv4 (skip (fun f q => ?_))⟩, fun c => ?_⟩⟩)
          · have := w2.mp c
            rw [q.1] at this
            exact absurd this (by decide)
          · have hmk : mb x k = true := by
              cases hm : mb x k with
              | true => rfl
              | false => exact absurd (w2.mpr hm) c
            obtain ⟨hsb, hlt⟩ := w3 hmk
            have hs32 := hsb.rng hn5
            rw [w1]
            have hbm := (hv4 _ hsb hlt).congr (Q' := OrA n D W br (m 33) (wob (mb x) k)) (fun f => by
              have e : ∀ i, In n i → mb (bs n (wob (mb x) k)) i = wob (mb x) k i := fun i hi => by
                rw [mb_bs hn5 _ hi.1 (by have := hi.2; omega)]
                have := hi.2
                simp [this]
              exact ⟨fun h => h.congr e (fun _ _ => rfl), fun h => h.congr (fun i hi => (e i hi).symm) (fun _ _ => rfl)⟩)
            refine ⟨by omega, fun c2 => ⟨by omega, nx m4 f4 e674 hv4 (skip (fun f q => ?_))⟩, fun c2 => ⟨by omega, ?_⟩⟩
            · rcases hbm with ⟨-, h2⟩ | ⟨h1, -⟩
              · exact h2 _ q.2.2.2
              · omega
            · have hcr := pkr hbm (by omega)
              refine ⟨d + 3, _, by omega, c_priceWith B hb X4 (h := 33) (len := 5) rfl (by decide) (by decide) (by rw [e33]; exact hS) (wob (mb x) k) hi hcr, fun z m5 hz _ _ => ⟨by omega, ?_⟩⟩
              obtain ⟨rfl, hz⟩ := hz
              intro m6 e6
              refine ⟨by omega, nx m6 (by rw [e6]; exact Fr_up f4 (by simp)) (by rw [e6, up_ne (by decide)]; exact e674) (fun y hy hlt2 => by rw [e6, up_off (by omega)]; exact hv4 y hy hlt2) ?_⟩
              rw [e6, up_at]
              refine hm4.min ?_
              rw [e33] at hz
              rcases hz with ⟨h1, h2⟩ | ⟨h1, h2⟩
              · exact Or.inl ⟨h2, fun f q => by have := q.2.1; omega⟩
              · rw [h2]
                have hp := plI_rng (k : Int)
                have hlk : 0 ≤ lck n D W br (m 33) (wob (mb x) k) k ∧ lck n D W br (m 33) (wob (mb x) k) k ≤ 10 := by
                  have := hS k hi
                  have := B.br10 hi
                  unfold lck; omega
                have hw : 0 ≤ wtI (k : Int) ∧ wtI (k : Int) ≤ 1114112 := by unfold wtI; omega
                have q2 := Int.mul_le_mul_of_nonneg_right hlk.2 hw.1
                exact QL.min hi hmk h1 hbm (by omega) (by omega)
      refine inner n 0 m3 (by omega) (by rw [e3]; exact Fr_up f2 (by simp)) (by rw [e3, up_ne (by decide)]; exact e67) (fun y hy hlt => by rw [e3, up_off (by omega)]; exact hv y hy hlt) ?_
      rw [e3, up_at]
      exact Or.inl ⟨rfl, fun f h => by obtain ⟨i, hi, h1, -⟩ := h; have := hi.1; omega⟩
  refine outer A.toNat 1 m1 (by omega) (by omega) f1 (by rw [e1, up_ne (by decide)]) (fun y hy hlt => ?_)
  have y0 : y = 0 := by have := hy.1; omega
  subst y0
  have e0 : ∀ i, In n i → mb 0 i = false := fun i hi => by
    have := mb_bs hn5 (fun _ => false) hi.1 (show i < 5 by have := hi.2; omega)
    rw [bs_none] at this
    rw [this]
    simp
  rw [e1, up_at]
  have pz : pk n (fun _ => 0) = 0 := by
    unfold pk
    rw [sm_congr (g := fun _ => 0) (fun i _ => Int.zero_mul _), sm_zero]
  refine Or.inr ⟨by decide, ⟨fun _ => 0, OrA.nil e0, pz.symm⟩, fun f hf => ?_⟩
  obtain ⟨L, K, -, -, g⟩ := hf
  rw [pk_congr (g := fun _ => 0) (fun i hi => g i hi (e0 i hi)), pz]
  exact Int.le_refl 0
theorem c_mendX (B : BW n D W br) (X : CX n D W br b m) (hg : ∀ i, In n i → 0 ≤ m 25 i) {N : Int} (hN : sm n (m 25) ≤ N) (hN3 : N ≤ 30000) : CI l G Y_S_mend (d + 5) [.inr (.inr 0)] m (fun z m' => Fr [32, 33, 34, 54, 67, 68] m m' ∧ ∃ (u r f : Int → Int), Stb n W br (m 25) u ∧ (∀ i, In n i → r i = m 25 i - Lp n W br u i) ∧ MdR n D W br r f ∧ z = sm n f ∧ m' 67 1 = n ∧ ∀ i, In n i → m' 68 i = f i) := by
  refine e_S_mend (fun _ => ⟨d + 3, _, by omega, c_settleAhead B X hg hN hN3, fun m1 h1 _ => ?_⟩)
  obtain ⟨f1, u, hu, r1, r2⟩ := h1
  have r1' : ∀ i, In n i → m1 33 i = m 25 i - Lp n W br u i := r1
  refine ⟨d, _, by omega, e_Lying_clear (P := fun m' => m' = up m1 67 1 0) (fun _ _ h => h), fun m2 h2 _ => ?_⟩
  have f2 : Fr [32, 33, 34, 54, 67, 68] m m2 := by rw [h2]; exact Fr_up (f1.mono (by simp)) (by simp)
  have X2 := X.fr f2 (by decide) (by decide)
  have e33 : m2 33 = m1 33 := by rw [h2]; exact up_ne (by decide)
  have e67 : m2 67 1 = 0 := by rw [h2]; exact up_at
  have hS : Stl br n (m2 33) := fun i hi => by
    rw [e33, r1' i hi]
    exact ⟨hu.nonneg B hg i hi, hu.2.1 i hi⟩
  refine ⟨b, X2.2.1, X2.1, d + 4, _, by omega, c_leastToAdd B X2.1 X2.2.2 hS e67, fun z m3 h3 _ _ => ?_⟩
  obtain ⟨f3, f, hM, hz, h67, h68⟩ := h3
  rw [e33] at hM
  exact ⟨f2.tr (f3.mono (by simp)), u, m1 33, f, hu, r1', hM, hz, h67, h68⟩
end MendX
