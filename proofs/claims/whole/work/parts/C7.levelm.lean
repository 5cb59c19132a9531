/-! counting heaps: sums over all settled heaps; level of the reference -/
noncomputable def ind (p : Prop) : Int := @ite Int p (Classical.propDecidable p) 1 0
theorem ind_yes {p : Prop} (h : p) : ind p = 1 := if_pos h
theorem ind_no {p : Prop} (h : ¬ p) : ind p = 0 := if_neg h
theorem ind_congr {p q : Prop} (h : p ↔ q) : ind p = ind q := by
  by_cases c : p
  · rw [ind_yes c, ind_yes (h.mp c)]
  · rw [ind_no c, ind_no (fun g => c (h.mpr g))]
theorem ind_rng (p : Prop) : 0 ≤ ind p ∧ ind p ≤ 1 := by
  by_cases c : p
  · rw [ind_yes c]; decide
  · rw [ind_no c]; decide
theorem ind_and (p q : Prop) : ind (p ∧ q) = ind p * ind q := by
  by_cases c : p
  · by_cases e : q
    · rw [ind_yes c, ind_yes e, ind_yes ⟨c, e⟩]; rfl
    · rw [ind_no e, ind_no (fun g => e g.2)]; omega
  · rw [ind_no c, ind_no (fun g => c g.1)]; omega
def sth (h : Int → Int) (k v : Int) : Int → Int := fun i => if i = k then v else h i
def ms (br : Int → Int) : Nat → ((Int → Int) → Int) → Int
  | 0, F => F (fun _ => 0)
  | k + 1, F => ms br k (fun h => sm (br k).toNat (fun v => F (sth h k v)))
theorem sm_split (a : Nat) (f : Int → Int) : ∀ b : Nat, sm (a + b) f = sm a f + sm b (fun v => f ((a : Int) + v))
  | 0 => by show sm a f = sm a f + 0; omega
  | b + 1 => by
    show sm (a + b) f + f ((a + b : Nat) : Int) = sm a f + (sm b (fun v => f ((a : Int) + v)) + f ((a : Int) + (b : Int)))
    rw [sm_split a f b, show ((a + b : Nat) : Int) = (a : Int) + (b : Int) by omega]
    omega
theorem sm_div (q : Nat) (hq : 0 < q) (F : Int → Int → Int) : ∀ P : Nat, sm (P * q) (fun y => F (y / (q : Int)) (y % (q : Int))) = sm P (fun a => sm q (fun v => F a v))
  | 0 => by rw [Nat.zero_mul]; rfl
  | P + 1 => by
    rw [Nat.add_mul, Nat.one_mul, sm_split, sm_div q hq F P]
    show _ = sm P (fun a => sm q (fun v => F a v)) + sm q (fun v => F (P : Int) v)
    congr 1
    refine sm_congr (fun v hv => ?_)
    have e : ((P * q : Nat) : Int) + v = v + (P : Int) * (q : Int) := by rw [Int.natCast_mul]; omega
    rw [e, Int.add_mul_ediv_right _ _ (by omega), Int.add_mul_emod_self_right, Int.ediv_eq_zero_of_lt hv.1 hv.2, Int.emod_eq_of_lt hv.1 hv.2, Int.zero_add]
def Sup (br : Int → Int) (k : Nat) (h : Int → Int) : Prop := Stl br k h ∧ ∀ i, ¬ In k i → h i = 0
theorem Sup.put {br h : Int → Int} {k : Nat} {v : Int} (a : Sup br k h) (hv : 0 ≤ v ∧ v < br k) : Sup br (k + 1) (sth h k v) := by
  refine ⟨fun i hi => ?_, fun i hi => ?_⟩
  · unfold sth
    by_cases e : i = (k : Int)
    · rw [if_pos e, e]; exact hv
    · rw [if_neg e]; exact a.1 i (hi.cut e)
  · unfold sth
    have e : i ≠ (k : Int) := fun e => hi (by rw [e]; exact ⟨by omega, by omega⟩)
    rw [if_neg e]
    exact a.2 i (fun q => hi ⟨q.1, by have := q.2; omega⟩)
theorem ms_congr {br : Int → Int} : ∀ {k : Nat} {F F' : (Int → Int) → Int}, (∀ h, Sup br k h → F h = F' h) → ms br k F = ms br k F'
  | 0, _, _, e => e _ ⟨fun i hi => by have := hi.1; have := hi.2; omega, fun _ _ => rfl⟩
  | k + 1, F, F', e => ms_congr (k := k) (fun h hh => sm_congr (fun v hv => e _ (hh.put ⟨hv.1, by have := hv.2; have := hv.1; omega⟩)))
theorem ms_zero {br : Int → Int} : ∀ {k : Nat}, ms br k (fun _ => 0) = 0
  | 0 => rfl
  | k + 1 => by
    show ms br k (fun _ => sm (br k).toNat (fun _ => 0)) = 0
    rw [ms_congr (F' := fun _ => 0) (fun _ _ => sm_zero _)]
    exact ms_zero
theorem ms_add {br : Int → Int} : ∀ {k : Nat} (F G : (Int → Int) → Int), ms br k (fun h => F h + G h) = ms br k F + ms br k G
  | 0, _, _ => rfl
  | k + 1, F, G => by
    show ms br k (fun h => sm (br k).toNat (fun v => F (sth h k v) + G (sth h k v))) = _
    rw [ms_congr (F' := fun h => sm (br k).toNat (fun v => F (sth h k v)) + sm (br k).toNat (fun v => G (sth h k v))) (fun h _ => sm_add _ _ _), ms_add]
    rfl
theorem ms_le {br : Int → Int} : ∀ {k : Nat} {F G : (Int → Int) → Int}, (∀ h, Sup br k h → F h ≤ G h) → ms br k F ≤ ms br k G
  | 0, _, _, e => e _ ⟨fun i hi => by have := hi.1; have := hi.2; omega, fun _ _ => rfl⟩
  | k + 1, F, G, e => ms_le (k := k) (fun h hh => sm_le (fun v hv => e _ (hh.put ⟨hv.1, by have := hv.2; have := hv.1; omega⟩)))
theorem ms_nonneg {br : Int → Int} {k : Nat} {F : (Int → Int) → Int} (e : ∀ h, Sup br k h → 0 ≤ F h) : 0 ≤ ms br k F := by
  have := ms_le (br := br) (k := k) (F := fun _ => 0) (G := F) e
  rw [ms_zero] at this
  exact this
theorem ms_sm {br : Int → Int} {k : Nat} (F : Int → (Int → Int) → Int) : ∀ t : Nat, ms br k (fun h => sm t (fun x => F x h)) = sm t (fun x => ms br k (F x))
  | 0 => ms_zero
  | t + 1 => by
    show ms br k (fun h => sm t (fun x => F x h) + F (t : Int) h) = sm t (fun x => ms br k (F x)) + ms br k (F t)
    rw [ms_add, ms_sm F t]
theorem sth_sth {h : Int → Int} {k v w : Int} : sth (sth h k w) k v = sth h k v := by
  funext i
  unfold sth
  by_cases e : i = k
  · rw [if_pos e, if_pos e]
  · rw [if_neg e, if_neg e, if_neg e]
theorem sth_comm {h : Int → Int} {k i v w : Int} (hik : i ≠ k) : sth (sth h k w) i v = sth (sth h i v) k w := by
  funext x
  unfold sth
  by_cases e : x = i
  · rw [if_pos e, if_neg (by omega), if_pos e]
  · rw [if_neg e, if_neg e]
theorem sth_at {h : Int → Int} {k v : Int} : sth h k v k = v := if_pos rfl
theorem sth_off {h : Int → Int} {k v i : Int} (e : i ≠ k) : sth h k v i = h i := if_neg e
theorem sm_ind {t : Nat} (ht : 0 < t) (c : Int) : sm t (fun w => ind (w = 0) * c) = c := by
  rw [sm_congr (g := fun w => if w = 0 then c else 0) (fun w _ => by
    by_cases e : w = 0
    · rw [if_pos e, ind_yes e]; omega
    · rw [if_neg e, ind_no e]; omega), sm_one, if_pos ⟨Int.le_refl 0, by omega⟩]
/-- one plate's grains may be summed last -/
theorem ms_ex {br : Int → Int} {i : Int} : ∀ {k : Nat} (F : (Int → Int) → Int), In k i → (∀ j, In k j → 1 ≤ br j) → ms br k F = ms br k (fun h => ind (h i = 0) * sm (br i).toNat (fun v => F (sth h i v)))
  | 0, _, hi, _ => by have := hi.1; have := hi.2; omega
  | k + 1, F, hi, hb => by
    have hbk := hb k ⟨by omega, by omega⟩
    by_cases e : i = (k : Int)
    · rw [e]
      refine ms_congr (k := k) (fun h _ => ?_)
      show sm (br k).toNat (fun v => F (sth h k v)) = sm (br k).toNat (fun w => ind (sth h k w k = 0) * sm (br k).toNat (fun v => F (sth (sth h k w) k v)))
      rw [sm_congr (f := fun w => ind (sth h k w k = 0) * sm (br k).toNat (fun v => F (sth (sth h k w) k v))) (g := fun w => ind (w = 0) * sm (br k).toNat (fun v => F (sth h k v))) (fun w _ => by
        rw [sth_at, sm_congr (f := fun v => F (sth (sth h k w) k v)) (g := fun v => F (sth h k v)) (fun v _ => by rw [sth_sth])]), sm_ind (by omega)]
    · have hik := hi.cut e
      show ms br k (fun h => sm (br k).toNat (fun w => F (sth h k w))) = _
      rw [ms_ex (k := k) _ hik (fun j hj => hb j ⟨hj.1, by have := hj.2; omega⟩)]
      refine ms_congr (k := k) (fun h _ => ?_)
      show ind (h i = 0) * sm (br i).toNat (fun v => sm (br k).toNat (fun w => F (sth (sth h i v) k w))) = sm (br k).toNat (fun w => ind (sth h k w i = 0) * sm (br i).toNat (fun v => F (sth (sth h k w) i v)))
      rw [sm_swap, ← sm_mul]
      refine sm_congr (fun w _ => ?_)
      rw [sth_off e]
      congr 1
      exact sm_congr (fun v _ => by rw [sth_comm e])
/-- over the settled heaps in their order -/
theorem ms_lay {br : Int → Int} : ∀ {k : Nat} (F : (Int → Int) → Int), (∀ j, In k j → 1 ≤ br j) → sm (prd br k).toNat (fun y => F (lay br k y)) = ms br k F
  | 0, F, _ => by
    show 0 + F (lay br 0 ((0 : Nat) : Int)) = F (fun _ => 0)
    have : lay br 0 ((0 : Nat) : Int) = fun _ => 0 := rfl
    rw [this]; omega
  | k + 1, F, hb => by
    have hbk := hb k ⟨by omega, by omega⟩
    have hp := prd_pos (br := br) (k := k) (fun j hj => hb j ⟨hj.1, by have := hj.2; omega⟩)
    have e1 : (prd br (k + 1)).toNat = (prd br k).toNat * (br k).toNat := by
      show (prd br k * br k).toNat = _
      rw [Int.toNat_mul (by omega) (by omega)]
    have e2 : ∀ y, lay br (k + 1) y = sth (lay br k (y / ((br k).toNat : Int))) k (y % ((br k).toNat : Int)) := fun y => by
      rw [show ((br k).toNat : Int) = br k by omega]
      rfl
    rw [e1, sm_congr (g := fun y => (fun a v => F (sth (lay br k a) k v)) (y / ((br k).toNat : Int)) (y % ((br k).toNat : Int))) (fun y _ => by rw [e2 y]), sm_div _ (by omega) (fun a v => F (sth (lay br k a) k v))]
    exact ms_lay (k := k) (fun h => sm (br k).toNat (fun v => F (sth h k v))) (fun j hj => hb j ⟨hj.1, by have := hj.2; omega⟩)
section LevelM
variable {l : Launch} {G : GT} {d : Nat} {m : MM} {b : Nat} {n : Nat} {D : Int → Int} {W : Int → Int → Int} {br : Int → Int}
/-- how many come again of a level -/
noncomputable def lvN (n : Nat) (D : Int → Int) (W : Int → Int → Int) (br : Int → Int) (g : Int) : Int := ms br n (fun h => ind (Cag n D W br h ∧ sm n h = g))
theorem c_levelM (B : BW n D W br) (X : BM n D W br m) {x : Int} : CI l G Y_M_level (d + 3) [.inr (.inr 70), .inl x] m (fun z m' => Fro 70 [93] [43] m m' ∧ (0 ≤ x → z = lvN n D W br x) ∧ (¬ 0 ≤ x → z = -1)) := by
  have hn5 := B.1
  have hb1 : ∀ i, In n i → 1 ≤ br i ∧ br i ≤ 10 := fun i hi => ⟨(B.br hi).1, B.br10 hi⟩
  have hp := prd_le B (k := n) (Nat.le_refl _)
  have hp5 := pow10 hn5
  refine e_M_level x (fun _ _ => ⟨fun c => ?_, fun c => ⟨Fro.rf, fun q => absurd q c, fun _ => rfl⟩⟩)
  have loop : ∀ (s t : Nat) (m1 : MM), (t : Int) + s = prd br n → Fro 70 [93] [43] m m1 → Wq l G false Y_M_level (d + 3) (QI fun z m' => Fro 70 [93] [43] m m' ∧ (0 ≤ x → z = lvN n D W br x) ∧ (¬ 0 ≤ x → z = -1)) 10 [(0, .inr (.inr 70)), (1, .inl x), (2, .inl (sm t (fun y => ind (Cag n D W br (lay br n y) ∧ sm n (lay br n y) = x)))), (3, .inl (t : Int))] [] m1 := by
    intro s
    induction s with
    | zero =>
      intro t m1 hts f
      have X1 := X.fro f (by decide) (by decide) (by decide) (by decide) (by decide)
      refine s_M_level_10 _ _ _ (fun _ _ _ _ => ⟨d + 1, _, by omega, c_settledMany B X1, fun z m2 hz _ _ => ?_⟩)
      obtain ⟨rfl, rfl⟩ := hz
      refine ⟨fun _ => ⟨f, fun _ => ?_, fun q => absurd c q⟩, fun q => absurd (show (t : Int) ≥ prd br n by omega) q⟩
      have et : t = (prd br n).toNat := by omega
      rw [et]
      exact ms_lay (br := br) (k := n) (fun h => ind (Cag n D W br h ∧ sm n h = x)) (fun j hj => (hb1 j hj).1)
    | succ s ih =>
      intro t m1 hts f
      have X1 := X.fro f (by decide) (by decide) (by decide) (by decide) (by decide)
      have hS := lay_rng (br := br) (k := n) (x := (t : Int)) (fun i hi => (hb1 i hi).1) (by omega)
      have hsr := sm_bound (k := t) (f := fun y => ind (Cag n D W br (lay br n y) ∧ sm n (lay br n y) = x)) (M := 1) (fun y _ => by have := ind_rng (Cag n D W br (lay br n y) ∧ sm n (lay br n y) = x); show -1 ≤ ind _ ∧ ind _ ≤ 1; omega)
      refine s_M_level_10 _ _ _ (fun _ _ _ _ => ⟨d + 1, _, by omega, c_settledMany B X1, fun z m2 hz _ _ => ?_⟩)
      obtain ⟨rfl, rfl⟩ := hz
      refine ⟨fun q => absurd q (by omega), fun _ => ⟨d + 1, _, by omega, c_laySettled B X1 (by omega), fun m2 hm2 _ => ?_⟩⟩
      obtain ⟨g2, v2⟩ := hm2
      have f2 : Fro 70 [93] [43] m m2 := f.tr ⟨fun c hc _ => g2 c hc, fun i _ => by rw [g2 70 (by decide)]⟩
      have X2 := X.fro f2 (by decide) (by decide) (by decide) (by decide) (by decide)
      refine ⟨d + 1, _, by omega, c_levelOf hn5 X2 (fun i hi => by rw [v2 i hi]; have := hS i hi; have := hb1 i hi; omega), fun z m3 hz _ _ => ?_⟩
      obtain ⟨rfl, rfl⟩ := hz
      rw [sm_congr v2]
      have nx : ∀ (m3 : MM) (v : Int), Fro 70 [93] [43] m m3 → ind (Cag n D W br (lay br n t) ∧ sm n (lay br n t) = x) = v → Wq l G false Y_M_level (d + 3) (QI fun z m' => Fro 70 [93] [43] m m' ∧ (0 ≤ x → z = lvN n D W br x) ∧ (¬ 0 ≤ x → z = -1)) 10 [(0, .inr (.inr 70)), (1, .inl x), (2, .inl (sm t (fun y => ind (Cag n D W br (lay br n y) ∧ sm n (lay br n y) = x)) + v)), (3, .inl ((t : Int) + 1))] [] m3 := fun m3 v f3 ev => by
        have := ih (t + 1) m3 (by omega) f3
        rw [show ((t + 1 : Nat) : Int) = (t : Int) + 1 by omega] at this
        rw [← ev]
        exact this
      refine ⟨fun c1 => ⟨by omega, ?_⟩, fun c1 => ⟨d + 2, _, by omega, c_again B X2 v2, fun z m3 hz _ _ => ?_⟩⟩
      · have := nx m2 0 f2 (ind_no (fun q => c1 q.2))
        rw [Int.add_zero] at this
        exact this
      · obtain ⟨g3, hz⟩ := hz
        have f3 : Fro 70 [93] [43] m m3 := f2.tr (g3.mono (by simp) (by simp))
        refine ⟨fun c2 => ⟨by omega, ?_⟩, fun c2 => ⟨by omega, by omega, nx m3 1 f3 (ind_yes ⟨Classical.not_not.mp (fun q => c2 (hz.mpr q)), Classical.not_not.mp c1⟩)⟩⟩
        have := nx m3 0 f3 (ind_no (fun q => hz.mp c2 q.1))
        rw [Int.add_zero] at this
        exact this
  exact loop (prd br n).toNat 0 m (by omega) Fro.rf
end LevelM
