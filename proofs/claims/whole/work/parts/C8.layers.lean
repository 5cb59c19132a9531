/-! counting by the rows of sets that burn at once -/
section Layer
variable {l : Launch} {G : GT} {d : Nat} {m : MM} {b : Nat} {n : Nat} {D : Int → Int} {W : Int → Int → Int} {br : Int → Int}
def loB (n : Nat) (D : Int → Int) (W : Int → Int → Int) (br : Int → Int) (p : Int → Bool) (i : Int) : Int := br i - (D i + wT n W i p)
def CagF (n : Nat) (D : Int → Int) (W : Int → Int → Int) (br : Int → Int) (p : Int → Bool) (h : Int → Int) : Prop := ∀ B : Int → Bool, (∀ i, In n i → p i = true → B i = true) → (∃ i, In n i ∧ B i = false) → ∃ i, In n i ∧ okB n D W br h B i
def Cont (n : Nat) (D : Int → Int) (W : Int → Int → Int) (br : Int → Int) (p : Int → Bool) (th h : Int → Int) : Prop := (∀ i, In n i → p i = false → h i < th i) ∧ CagF n D W br p h
theorem Cont.eq {p : Int → Bool} {th h h' : Int → Int} (e : ∀ i, In n i → p i = false → h i = h' i) (c : Cont n D W br p th h) : Cont n D W br p th h' := by
  refine ⟨fun i hi hp => by rw [← e i hi hp]; exact c.1 i hi hp, fun B hB hx => ?_⟩
  obtain ⟨i, hi, h1, h2⟩ := c.2 B hB hx
  have hp : p i = false := by
    cases q : p i with
    | false => rfl
    | true => have := hB i hi q; rw [h1] at this; exact absurd this (by decide)
  exact ⟨i, hi, h1, by rw [← e i hi hp]; exact h2⟩
theorem Cont.iff {p : Int → Bool} {th h h' : Int → Int} (e : ∀ i, In n i → p i = false → h i = h' i) : Cont n D W br p th h ↔ Cont n D W br p th h' := ⟨Cont.eq e, Cont.eq (fun i hi hp => (e i hi hp).symm)⟩
theorem loB_mono (B : BW n D W br) {i : Int} (hi : In n i) {p q : Int → Bool} (h : ∀ j, In n j → p j = true → q j = true) : loB n D W br q i ≤ loB n D W br p i := by
  have := wT_mono B hi h
  unfold loB
  omega
theorem loB_rng (B : BW n D W br) {i : Int} (hi : In n i) (p : Int → Bool) : 0 ≤ loB n D W br p i ∧ loB n D W br p i ≤ br i := by
  have h1 := wT_mono B hi (p := p) (q := fun _ => true) (fun _ _ _ => rfl)
  have h2 : wT n W i (fun _ => true) = sm n (W i) := sm_congr (fun j _ => if_pos rfl)
  have h3 := B.2.2.2.2.1 i hi
  have h4 := (wT_rng B hi p n (Nat.le_refl _)).1
  have h5 := (B.2.1 i hi).1
  unfold loB
  omega
def cup (p q : Int → Bool) : Int → Bool := fun i => p i || q i
/-- a set of plates that may burn next, given by its number -/
def Nxt (n : Nat) (p : Int → Bool) (x : Int) : Prop := Sub n x ∧ x ≠ 0 ∧ ∀ i, In n i → mb x i = true → p i = false
def Now (n : Nat) (D : Int → Int) (W : Int → Int → Int) (br : Int → Int) (p : Int → Bool) (th h : Int → Int) (x : Int) : Prop := (∀ i, In n i → mb x i = true → loB n D W br p i ≤ h i ∧ h i < th i) ∧ Cont n D W br (cup p (mb x)) (loB n D W br p) h
theorem cont_split (B : BW n D W br) {p : Int → Bool} {th h : Int → Int} (hth : ∀ i, In n i → p i = false → loB n D W br p i ≤ th i) (hp : ∃ i, In n i ∧ p i = false) : ind (Cont n D W br p th h) = sm 32 (fun x => ind (Nxt n p x ∧ Now n D W br p th h x)) := by
  have hn5 := B.1
  by_cases c : Cont n D W br p th h
  · rw [ind_yes c]
    have hm : ∀ i, In n i → mb (bs n (fun i => !p i && decide (loB n D W br p i ≤ h i))) i = (!p i && decide (loB n D W br p i ≤ h i)) := fun i hi => by
      rw [mb_bs hn5 _ hi.1 (by have := hi.2; omega)]
      have := hi.2
      simp [this]
    have hmo : ∀ i, In n i → (mb (bs n (fun i => !p i && decide (loB n D W br p i ≤ h i))) i = true ↔ p i = false ∧ loB n D W br p i ≤ h i) := fun i hi => by
      rw [hm i hi, Bool.and_eq_true, decide_eq_true_eq, Bool.not_eq_true']
    have hr := bs5_range hn5 (fun i => !p i && decide (loB n D W br p i ≤ h i))
    have hsub : Sub n (bs n (fun i => !p i && decide (loB n D W br p i ≤ h i))) := ⟨hr.1, sm_le (fun i hi => by
      show (if (!p i && decide (loB n D W br p i ≤ h i)) = true then pw i else 0) ≤ (if true = true then pw i else 0)
      have := pw_rng (j := i)
      rw [if_pos rfl]
      split <;> omega)⟩
    have h1 : Nxt n p (bs n (fun i => !p i && decide (loB n D W br p i ≤ h i))) ∧ Now n D W br p th h (bs n (fun i => !p i && decide (loB n D W br p i ≤ h i))) := by
      refine ⟨⟨hsub, fun e => ?_, fun i hi q => ((hmo i hi).mp q).1⟩, fun i hi q => ⟨((hmo i hi).mp q).2, c.1 i hi ((hmo i hi).mp q).1⟩, fun i hi q => ?_, fun S hS hx => c.2 S (fun i hi q => hS i hi (by show (p i || mb _ i) = true; rw [q]; rfl)) hx⟩
      · obtain ⟨i, hi, g1, g2⟩ := c.2 p (fun _ _ q => q) hp
        have g3 := (hmo i hi).mpr ⟨g1, g2⟩
        rw [e] at g3
        have g4 := mb_bs hn5 (fun _ => false) hi.1 (show i < 5 by have := hi.2; omega)
        rw [bs_none, g3] at g4
        simp at g4
      · have q2 : (p i || mb (bs n (fun i => !p i && decide (loB n D W br p i ≤ h i))) i) = false := q
        rw [Bool.or_eq_false_iff] at q2
        rcases Int.lt_or_le (h i) (loB n D W br p i) with g | g
        · exact g
        · have := (hmo i hi).mpr ⟨q2.1, g⟩
          rw [q2.2] at this
          exact absurd this (by decide)
    have h2 : ∀ x, In 32 x → (Nxt n p x ∧ Now n D W br p th h x ↔ x = bs n (fun i => !p i && decide (loB n D W br p i ≤ h i))) := fun x hx => by
      refine ⟨fun g => ?_, fun g => by rw [g]; exact h1⟩
      obtain ⟨⟨g1, g2, g3⟩, g4, g5⟩ := g
      have ex : x = bs n (mb x) := bs_mb hn5 (g1.rng hn5) (fun i i0 i5 q => by
        cases hmx : mb x i with
        | false => rfl
        | true =>
          exfalso
          obtain ⟨t, rfl⟩ : ∃ t : Nat, i = (t : Int) := ⟨i.toNat, by omega⟩
          have := (full_1 hn5).2.2 x g1.1 g1.2 t (by omega) hmx
          omega)
      rw [ex]
      refine bs_congr (fun i hi => ?_)
      have key : mb x i = true ↔ (!p i && decide (loB n D W br p i ≤ h i)) = true := by
        rw [Bool.and_eq_true, decide_eq_true_eq, Bool.not_eq_true']
        refine ⟨fun q => ⟨g3 i hi q, (g4 i hi q).1⟩, fun q => ?_⟩
        cases hmx : mb x i with
        | true => rfl
        | false =>
          exfalso
          have := g5.1 i hi (by show (p i || mb x i) = false; rw [q.1, hmx]; rfl)
          omega
      cases h3 : mb x i with
      | true => exact (key.mp h3).symm
      | false =>
        cases h4 : (!p i && decide (loB n D W br p i ≤ h i)) with
        | false => rfl
        | true => have := key.mpr h4; rw [h3] at this; exact absurd this (by decide)
    rw [sm_congr (g := fun x => if x = bs n (fun i => !p i && decide (loB n D W br p i ≤ h i)) then 1 else 0) (fun x hx => by
      by_cases e : x = bs n (fun i => !p i && decide (loB n D W br p i ≤ h i))
      · rw [if_pos e, ind_yes ((h2 x hx).mpr e)]
      · rw [if_neg e, ind_no (fun g => e ((h2 x hx).mp g))]), sm_one, if_pos ⟨hr.1, by have := hsub.rng hn5; omega⟩]
  · rw [ind_no c, sm_congr (g := fun _ => 0) (fun x _ => ind_no (fun g => c ?_)), sm_zero]
    obtain ⟨⟨g1, g2, g3⟩, g4, g5⟩ := g
    refine ⟨fun i hi q => ?_, fun S hS hx => ?_⟩
    · cases hmx : mb x i with
      | true => exact (g4 i hi hmx).2
      | false =>
        have := g5.1 i hi (by show (p i || mb x i) = false; rw [q, hmx]; rfl)
        have := hth i hi q
        omega
    · by_cases q : ∃ i, In n i ∧ mb x i = true ∧ S i = false
      · obtain ⟨i, hi, q1, q2⟩ := q
        refine ⟨i, hi, q2, ?_⟩
        have := (g4 i hi q1).1
        have := wT_mono B hi hS
        unfold loB at *
        omega
      · refine g5.2 S (fun i hi r => ?_) hx
        have r2 : (p i || mb x i) = true := r
        rw [Bool.or_eq_true] at r2
        rcases r2 with r2 | r2
        · exact hS i hi r2
        · cases hs : S i with
          | true => rfl
          | false => exact absurd ⟨i, hi, r2, hs⟩ q
/-- what is counted from a state on -/
noncomputable def TL (n : Nat) (D : Int → Int) (W : Int → Int → Int) (br : Int → Int) (p : Int → Bool) (th : Int → Int) (g : Int → Int) (a : Int) : Int := ms br n (fun h => ind ((∀ i, In n i → p i = true → h i = 0) ∧ Cont n D W br p th h) * g (a - sm n h))
theorem ms_point {br : Int → Int} : ∀ {k : Nat} (H : (Int → Int) → Int), (∀ j, In k j → 1 ≤ br j) → ms br k (fun h => ind (∀ i, In k i → h i = 0) * H h) = H (fun _ => 0)
  | 0, H, _ => by
    show ind _ * H (fun _ => 0) = _
    rw [ind_yes (fun i hi => by have := hi.1; have := hi.2; omega)]; omega
  | k + 1, H, hb => by
    have hbk := hb k ⟨by omega, by omega⟩
    show ms br k (fun h => sm (br k).toNat (fun v => ind (∀ i, In (k + 1) i → sth h k v i = 0) * H (sth h k v))) = _
    rw [ms_congr (F' := fun h => ind (∀ i, In k i → h i = 0) * H (sth h k 0)) (fun h _ => ?_), ms_point (fun h => H (sth h k 0)) (fun j hj => hb j ⟨hj.1, by have := hj.2; omega⟩)]
    · congr 1
      funext i
      unfold sth
      split <;> rfl
    · rw [sm_congr (g := fun v => ind (v = 0) * (ind (∀ i, In k i → h i = 0) * H (sth h k 0))) (fun v _ => ?_), sm_ind (by omega)]
      by_cases e : v = 0
      · rw [e, ind_yes rfl, Int.one_mul]
        congr 1
        refine ind_congr ⟨fun q i hi => ?_, fun q i hi => ?_⟩
        · have := q i ⟨hi.1, by have := hi.2; omega⟩
          rw [sth_off (by have := hi.2; omega)] at this
          exact this
        · by_cases e2 : i = (k : Int)
          · rw [e2, sth_at]
          · rw [sth_off e2]; exact q i (hi.cut e2)
      · rw [ind_no e, Int.zero_mul, ind_no (fun q => e (by have := q k ⟨by omega, by omega⟩; rw [sth_at] at this; exact this)), Int.zero_mul]
theorem TL_leaf (B : BW n D W br) {p : Int → Bool} (hp : ∀ i, In n i → p i = true) (th g : Int → Int) (a : Int) : TL n D W br p th g a = g a := by
  unfold TL
  rw [ms_congr (F' := fun h => ind (∀ i, In n i → h i = 0) * g (a - sm n h)) (fun h _ => ?_), ms_point (fun h => g (a - sm n h)) (fun j hj => (B.br hj).1)]
  · show g (a - sm n (fun _ => 0)) = g a
    rw [sm_zero, Int.sub_zero]
  · congr 1
    refine ind_congr ⟨fun q i hi => q.1 i hi (hp i hi), fun q => ⟨fun i hi _ => q i hi, fun i hi r => ?_, fun S hS hx => ?_⟩⟩
    · rw [hp i hi] at r; exact absurd r (by decide)
    · obtain ⟨i, hi, r⟩ := hx
      rw [hS i hi (hp i hi)] at r; exact absurd r (by decide)
/-- with some plates of the next set taken into the counts -/
noncomputable def EL (n : Nat) (D : Int → Int) (W : Int → Int → Int) (br : Int → Int) (p : Int → Bool) (th : Int → Int) (x : Int) (k : Nat) (g : Int → Int) (a : Int) : Int := ms br n (fun h => ind (((∀ i, In n i → p i = true → h i = 0) ∧ (∀ i, In n i → mb x i = true → i < (k : Int) → h i = 0)) ∧ (∀ i, In n i → mb x i = true → (k : Int) ≤ i → loB n D W br p i ≤ h i ∧ h i < th i) ∧ Cont n D W br (cup p (mb x)) (loB n D W br p) h) * g (a - sm n h))
theorem TL_split (B : BW n D W br) {p : Int → Bool} {th : Int → Int} (hth : ∀ i, In n i → p i = false → loB n D W br p i ≤ th i) (hp : ∃ i, In n i ∧ p i = false) (g : Int → Int) (a : Int) : TL n D W br p th g a = sm 32 (fun x => ind (Nxt n p x) * EL n D W br p th x 0 g a) := by
  have e1 : ∀ x, ind (Nxt n p x) * EL n D W br p th x 0 g a = ms br n (fun h => ind (Nxt n p x ∧ Now n D W br p th h x) * (ind (∀ i, In n i → p i = true → h i = 0) * g (a - sm n h))) := fun x => by
    unfold EL
    by_cases c : Nxt n p x
    · rw [ind_yes c, Int.one_mul]
      refine ms_congr (fun h _ => ?_)
      rw [← Int.mul_assoc, ← ind_and]
      congr 1
      refine ind_congr ⟨fun q => ⟨⟨c, fun i hi r => q.2.1 i hi r (by have := hi.1; omega), q.2.2⟩, q.1.1⟩, fun q => ⟨⟨q.2, fun i hi _ r => by have := hi.1; omega⟩, fun i hi r _ => q.1.2.1 i hi r, q.1.2.2⟩⟩
    · rw [ind_no c, Int.zero_mul, ms_congr (F' := fun _ => 0) (fun h _ => by rw [ind_no (fun q => c q.1), Int.zero_mul]), ms_zero]
  rw [sm_congr (fun x _ => e1 x), ← ms_sm]
  refine ms_congr (fun h _ => ?_)
  rw [ind_and, cont_split B hth hp, Int.mul_comm (ind _) (sm 32 _), Int.mul_assoc, Int.mul_comm (sm 32 _), ← sm_mul]
  exact sm_congr (fun x _ => by rw [Int.mul_comm])
/-- counts spread over some grains -/
def spr (g : Int → Int) (lo hi a : Int) : Int := sm (hi - lo).toNat (fun u => g (a - (lo + u)))
theorem sm_cutout {t : Nat} {lo hi : Int} (h0 : 0 ≤ lo) (h1 : lo ≤ hi) (h2 : hi ≤ t) (f : Int → Int) : sm t (fun v => ind (lo ≤ v ∧ v < hi) * f v) = sm (hi - lo).toNat (fun u => f (lo + u)) := by
  have e : t = lo.toNat + ((hi - lo).toNat + (t - hi.toNat)) := by omega
  rw [e, sm_split, sm_split, sm_congr (n := lo.toNat) (g := fun _ => 0) (fun v hv => by rw [ind_no (fun q => by have := hv.2; omega), Int.zero_mul]), sm_zero, sm_congr (n := t - hi.toNat) (g := fun _ => 0) (fun v hv => by rw [ind_no (fun q => by have := hv.1; omega), Int.zero_mul]), sm_zero, Int.zero_add, Int.add_zero]
  refine sm_congr (fun u hu => ?_)
  rw [show ((lo.toNat : Nat) : Int) = lo by omega, ind_yes ⟨by have := hu.1; omega, by have := hu.2; omega⟩, Int.one_mul]
theorem sm_sth {h : Int → Int} {i v : Int} (hi : In n i) (h0 : h i = 0) : sm n (sth h i v) = sm n h + v := by
  rw [← sm_upd n h i v hi]
  refine sm_congr (fun x _ => ?_)
  show (if x = i then v else h x) = (if x = i then h x + v else h x)
  by_cases e : x = i
  · rw [if_pos e, if_pos e, e, h0]; omega
  · rw [if_neg e, if_neg e]
theorem EL_skip {p : Int → Bool} {th : Int → Int} {x : Int} {k : Nat} (hm : mb x k = false) (g : Int → Int) (a : Int) : EL n D W br p th x k g a = EL n D W br p th x (k + 1) g a := by
  unfold EL
  refine ms_congr (fun h _ => ?_)
  congr 1
  have ne : ∀ i, mb x i = true → i ≠ (k : Int) := fun i q e => by rw [e, hm] at q; exact absurd q (by decide)
  refine ind_congr ⟨fun q => ⟨⟨q.1.1, fun i hi r s => q.1.2 i hi r (by have := ne i r; omega)⟩, fun i hi r s => q.2.1 i hi r (by omega), q.2.2⟩, fun q => ⟨⟨q.1.1, fun i hi r s => q.1.2 i hi r (by omega)⟩, fun i hi r s => q.2.1 i hi r (by have := ne i r; omega), q.2.2⟩⟩
theorem EL_step (B : BW n D W br) {p : Int → Bool} {th : Int → Int} {x : Int} {k : Nat} (hx : Nxt n p x) (hk : k < n) (hm : mb x k = true) (hth : loB n D W br p k ≤ th k ∧ th k ≤ br k) (g : Int → Int) (a : Int) : EL n D W br p th x k g a = EL n D W br p th x (k + 1) (spr g (loB n D W br p k) (th k)) a := by
  have hi : In n (k : Int) := ⟨by omega, by omega⟩
  have hpk := hx.2.2 k hi hm
  have hlo := loB_rng B hi p
  have hbk := B.br hi
  unfold EL
  rw [ms_ex _ hi (fun j hj => (B.br hj).1)]
  refine ms_congr (fun h _ => ?_)
  by_cases h0 : h k = 0
  · rw [ind_yes h0, Int.one_mul]
    have ec : ∀ v, Cont n D W br (cup p (mb x)) (loB n D W br p) (sth h k v) ↔ Cont n D W br (cup p (mb x)) (loB n D W br p) h := fun v => Cont.iff (fun i _ q => sth_off (fun e => by
      have q2 : (p i || mb x i) = false := q
      rw [e, hm, Bool.or_true] at q2
      exact absurd q2 (by decide)))
    rw [sm_congr (g := fun v => ind (loB n D W br p k ≤ v ∧ v < th k) * (ind (((∀ i, In n i → p i = true → h i = 0) ∧ (∀ i, In n i → mb x i = true → i < ((k + 1 : Nat) : Int) → h i = 0)) ∧ (∀ i, In n i → mb x i = true → ((k + 1 : Nat) : Int) ≤ i → loB n D W br p i ≤ h i ∧ h i < th i) ∧ Cont n D W br (cup p (mb x)) (loB n D W br p) h) * g (a - sm n h - v))) (fun v _ => ?_)]
    · rw [sm_cutout hlo.1 hth.1 (by omega), sm_mul]
      rfl
    · rw [sm_sth hi h0, ← Int.mul_assoc, ← ind_and, show a - (sm n h + v) = a - sm n h - v by omega]
      congr 1
      refine ind_congr ⟨fun q => ⟨?_, ⟨fun i hi2 r => ?_, fun i hi2 r s => ?_⟩, fun i hi2 r s => ?_, (ec v).mp q.2.2⟩, fun q => ⟨⟨fun i hi2 r => ?_, fun i hi2 r s => ?_⟩, fun i hi2 r s => ?_, (ec v).mpr q.2.2.2⟩⟩
      · have := q.2.1 k hi hm (Int.le_refl _)
        rw [sth_at] at this
        exact this
      · have := q.1.1 i hi2 r
        rw [sth_off (fun e => by rw [e, hpk] at r; exact absurd r (by decide))] at this
        exact this
      · by_cases e : i = (k : Int)
        · rw [e]; exact h0
        · have := q.1.2 i hi2 r (by omega)
          rw [sth_off e] at this
          exact this
      · have := q.2.1 i hi2 r (by omega)
        rw [sth_off (by omega)] at this
        exact this
      · rw [sth_off (fun e => by rw [e, hpk] at r; exact absurd r (by decide))]
        exact q.2.1.1 i hi2 r
      · rw [sth_off (by omega)]
        exact q.2.1.2 i hi2 r (by omega)
      · by_cases e : i = (k : Int)
        · rw [e, sth_at]; exact q.1
        · rw [sth_off e]; exact q.2.2.1 i hi2 r (by omega)
  · rw [ind_no h0, Int.zero_mul, ind_no (fun q => h0 (q.1.2 k hi hm (by omega))), Int.zero_mul]
theorem EL_end {p : Int → Bool} {th : Int → Int} {x : Int} (g : Int → Int) (a : Int) : EL n D W br p th x n g a = TL n D W br (cup p (mb x)) (loB n D W br p) g a := by
  unfold EL TL
  refine ms_congr (fun h _ => ?_)
  congr 1
  refine ind_congr ⟨fun q => ⟨fun i hi r => ?_, q.2.2⟩, fun q => ⟨⟨fun i hi r => q.1 i hi (by show (p i || mb x i) = true; rw [r]; rfl), fun i hi r _ => q.1 i hi (by show (p i || mb x i) = true; rw [r, Bool.or_true])⟩, fun i hi _ s => by have := hi.2; omega, q.2⟩⟩
  have r2 : (p i || mb x i) = true := r
  rw [Bool.or_eq_true] at r2
  rcases r2 with r2 | r2
  · exact q.1.1 i hi r2
  · exact q.1.2 i hi r2 hi.2
theorem TL_root (a : Int) : TL n D W br (fun _ => false) br (fun x => if x = 0 then 1 else 0) a = lvN n D W br a := by
  unfold TL lvN
  refine ms_congr (fun h hh => ?_)
  have e0 : (fun x : Int => if x = 0 then (1 : Int) else 0) (a - sm n h) = ind (sm n h = a) := by
    show (if a - sm n h = 0 then (1 : Int) else 0) = ind (sm n h = a)
    by_cases e : sm n h = a
    · rw [if_pos (by omega), ind_yes e]
    · rw [if_neg (by omega), ind_no e]
  rw [e0, ← ind_and]
  refine ind_congr ⟨fun q => ⟨fun S hx => q.1.2.2 S (fun _ _ r => absurd (show false = true from r) (by decide)) hx, q.2⟩, fun q => ⟨⟨fun _ _ r => absurd (show false = true from r) (by decide), fun i hi _ => (hh.1 i hi).2, fun S _ hx => q.1 S hx⟩, q.2⟩⟩
end Layer
