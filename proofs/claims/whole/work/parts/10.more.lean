section Steps10
variable {l : Launch} {G : GT} {lw : Bool} {Y : YD} {d : Nat} {ph : Bool} {Q : Option MV → MM → Nat → Prop} {pc pc' : Nat} {lv lv' : List (Nat × MV)} {st st' : List MV} {m : MM} {n bc bs : Nat}
theorem Wp.tin {x : Int} {dflt lo hi off : Int} {offs : Array Int} {len : Nat} (v : Int) (tgt : Nat) (hd : decode Y.2.1 pc = .ok (.tableswitch dflt lo hi offs, len)) (hx : x = v) (h1 : ¬ v < lo) (h2 : ¬ hi < v) (ho : offs[(v - lo).toNat]? = some off) (ht : (pc : Int) + off = (tgt : Int))
    (K : Wp l G lw Y d ph Q tgt lv st m n bc bs) : Wp l G lw Y d ph Q pc lv (.inl x :: st) m n bc bs := by
  subst hx
  exact Wp.go (fun w _ _ => wf_tl w) (fun _ _ _ _ _ _ _ _ _ _ _ _ _ _ _ hx hb _ _ _ w _ _ _ k => lv_tableIn (x := Int32.ofInt x) hx hb hd (by rw [toI (wf_hd w)]; exact h1) (by rw [toI (wf_hd w)]; exact h2) (by rw [toI (wf_hd w)]; exact ho) ht k) K
theorem Wp.tout {x : Int} {dflt lo hi : Int} {offs : Array Int} {len : Nat} (tgt : Nat) (hd : decode Y.2.1 pc = .ok (.tableswitch dflt lo hi offs, len)) (h : x < lo ∨ hi < x) (ht : (pc : Int) + dflt = (tgt : Int))
    (K : Wp l G lw Y d ph Q tgt lv st m n bc bs) : Wp l G lw Y d ph Q pc lv (.inl x :: st) m n bc bs :=
  Wp.go (fun w _ _ => wf_tl w) (fun _ _ _ _ _ _ _ _ _ _ _ _ _ _ _ hx hb _ _ _ w _ _ _ k => lv_tableOut (x := Int32.ofInt x) hx hb hd (by rw [toI (wf_hd w)]; exact h) ht k) K
theorem Wp.lks {x : Int} {dflt off : Int} {ps : Array (Int × Int)} {len : Nat} (tgt : Nat) (hd : decode Y.2.1 pc = .ok (.lookupswitch dflt ps, len)) (hp : (ps.toList.zip (ps.toList.drop 1)).all (fun (a, next) => a.1 < next.1) = true) (ho : Op.lookupswitch.offset ps.toList dflt x = off) (ht : (pc : Int) + off = (tgt : Int))
    (K : Wp l G lw Y d ph Q tgt lv st m n bc bs) : Wp l G lw Y d ph Q pc lv (.inl x :: st) m n bc bs :=
  Wp.go (fun w _ _ => wf_tl w) (fun _ _ _ _ _ _ _ _ _ _ _ _ _ _ _ hx hb _ _ _ w _ _ _ k => lv_lookup (x := Int32.ofInt x) hx hb hd hp (by rw [toI (wf_hd w)]; exact ho) ht k) K
/-- arraycopy of ints, once all is made -/
def upC (m : MM) (a b : Nat) (sp dp k : Int) : MM := fun c j => if c = b ∧ dp ≤ j ∧ j < dp + k then m a (sp + (j - dp)) else m c j
theorem Wp.acopy {a b la lb idx : Nat} {sp dp k : Int} (hd : decode Y.2.1 pc = .ok (.invokestatic idx, 3)) (hl : Cond.methodLink Y.1.cls idx arraycopyName ∈ q_W) (ha : q_lay a = .inr (0, la)) (hb : q_lay b = .inr (0, lb)) (h0 : 0 ≤ sp) (h1 : 0 ≤ dp) (h2 : 0 < k) (h3 : sp + k ≤ la) (h4 : dp + k ≤ lb) (hla : la < 2147483648) (hlb : lb < 2147483648) (hd1 : 1 ≤ d) (hlw : lw = true → d ≤ 400) (hst : (st.map q_cat).sum ≤ 8)
    (K : Wp l G lw Y d true Q (pc + 3) lv st (upC m a b sp dp k) n bc bs) : Wp l G lw Y d true Q pc lv (.inl k :: .inl dp :: .inr (.inr b) :: .inl sp :: .inr (.inr a) :: st) m n bc bs := by
  intro p e s mm args below meth c H locs cells slots ls mc ms hC hL e1 e2 w1 w2 hl1 hR hS
  have ha1 := q_lay_arr ha (by omega)
  have hb1 := q_lay_arr hb (by omega)
  have han := q_vis hR ha1 (Or.inl rfl)
  have hbn := q_vis hR hb1 (Or.inl rfl)
  have hts := hC.2.2.2.2.1
  have rk : inR k := wf_hd w2
  have rd : inR dp := wf_hd (wf_tl w2)
  have rs : inR sp := wf_hd (wf_tl (wf_tl (wf_tl w2)))
  have hea : (g_ws G m n)[a]? = some (g_b G + a, .inl (g_A G 0, la, .inl fun j => Int32.ofInt (m a j))) := by
    rw [g_ws_get han, ha]; rfl
  have heb : (g_ws G m n)[b]? = some (g_b G + b, .inl (g_A G 0, lb, .inl fun j => Int32.ofInt (m b j))) := by
    rw [g_ws_get hbn, hb]; rfl
  show W _ _ _ _ _ _ _ _ _ _ _ _ _ _ _ (F0 mm pc ls (.int (Int32.ofInt k) :: .int (Int32.ofInt dp) :: .ref (g_ad G b) :: .int (Int32.ofInt sp) :: .ref (g_ad G a) :: st.map (g_val G)))
  rw [q_adb (by omega), q_adb (by omega)]
  have hroom : 1 ≤ (q_room lw d mc ms).frames ∧ 30 ≤ (q_room lw d mc ms).locals := by
    cases lw with
    | true => exact ⟨by show 1 ≤ 2048; omega, by show 30 ≤ 84000; omega⟩
    | false => exact ⟨hd1, by show 30 ≤ 200 * d; omega⟩
  refine va_copyi hC.1 hC.2.1 (by rw [hC.2.2.1]; exact hl1.1.symm) hC.2.2.2.1 (hts _ hl) (hts _ na_copy) (hts _ st_copy) (hts _ in_sys) hC.2.2.2.2.2.1.1 hR.1 g_ws_D hS a b 0 0 hea heb rfl rfl rfl (fun h => absurd ((ltI0 rs).mp h) (by omega)) (fun h => absurd ((ltI0 rd).mp h) (by omega)) (fun h => absurd ((ltI0 rk).mp h) (by omega)) (by rw [toN rs, toN rk]; omega) (by rw [toN rd, toN rk]; omega) (fun i _ => rfl) hroom.1 (by rw [q_sum]; have := hroom.2; show _ + (5 + 2 + 11) ≤ _; omega) hd (fun H1 locs1 hP1 _ hS1 => ?_)
  rw [toN rs, toN rd, toN rk] at hP1
  have hws : (g_ws G m n).set b (g_b G + b, .inl (g_A G 0, lb, .inl (va_cpy (fun j : Nat => Int32.ofInt (m a j)) (fun j : Nat => Int32.ofInt (m b j)) sp.toNat dp.toNat k.toNat))) = g_ws G (upC m a b sp dp k) n := by
    rw [← g_ws_set (m := m) (m' := upC m a b sp dp k) hbn (fun c hc => by funext j; simp [upC, hc]), hb]
    suffices e7 : va_cpy (fun j : Nat => Int32.ofInt (m a j)) (fun j : Nat => Int32.ofInt (m b j)) sp.toNat dp.toNat k.toNat = fun j : Nat => Int32.ofInt (upC m a b sp dp k b j) by
      rw [e7]
      rfl
    funext j
    show (if dp.toNat ≤ j ∧ j < dp.toNat + k.toNat then Int32.ofInt (m a ((sp.toNat + (j - dp.toNat) : Nat) : Int)) else Int32.ofInt (m b j)) = Int32.ofInt (upC m a b sp dp k b j)
    by_cases hj : dp.toNat ≤ j ∧ j < dp.toNat + k.toNat
    · rw [if_pos hj]
      simp only [upC]
      rw [if_pos ⟨trivial, by omega, by omega⟩, show ((sp.toNat + (j - dp.toNat) : Nat) : Int) = sp + ((j : Int) - dp) by omega]
    · rw [if_neg hj]
      simp only [upC]
      rw [if_neg (fun h => hj (by omega))]
  rw [hws] at hP1
  have hwf : wfM (upC m a b sp dp k) := fun c j => by
    by_cases hc : c = b ∧ dp ≤ j ∧ j < dp + k
    · simp only [upC, if_pos hc]
      rw [hc.1]
      unfold q_st
      rw [hb]
      exact q_stA ha hR.2.1 _
    · simp only [upC, if_neg hc]
      exact hR.2.1 c j
  have hpt : Ptr (upC m a b sp dp k) := fun c j r hr => by
    by_cases hc : c = b ∧ dp ≤ j ∧ j < dp + k
    · rw [hc.1, q_pA hb (by decide) j] at hr
      cases hr
    · simp only [upC, if_neg hc]
      exact (hR.2.2.1 rfl).1 c j r hr
  exact K p e s mm args below meth c H1 locs1 cells slots ls mc ms hC hL e1 e2 w1 (wf_tl (wf_tl (wf_tl (wf_tl (wf_tl w2))))) hl1 ⟨hP1, hwf, fun _ => ⟨hpt, (hR.2.2.1 rfl).2⟩, fun h => by cases h⟩ hS1
theorem q_room1 {mc ms : Nat} (hd1 : 1 ≤ d) : 1 ≤ (q_room lw d mc ms).frames ∧ 30 ≤ (q_room lw d mc ms).locals := by
  cases lw with
  | true => exact ⟨by show 1 ≤ 2048; omega, by show 30 ≤ 84000; omega⟩
  | false => exact ⟨hd1, by show 30 ≤ 200 * d; omega⟩
theorem Wp.mmax {x y : Int} {idx : Nat} (hd : decode Y.2.1 pc = .ok (.invokestatic idx, 3)) (hl : Cond.methodLink Y.1.cls idx Lib.Math.max.name ∈ q_W) (hk : Cond.static Lib.Math.max.name ∈ q_W ∧ Cond.initialized "java/lang/Math" ∈ q_W ∧ Cond.code Lib.Math.max.name Lib.Math.max.code 2 (some .int) ∈ q_W) (hd1 : 1 ≤ d) (hst : (st.map q_cat).sum ≤ 8)
    (K : Wp l G lw Y d ph Q (pc + 3) lv (.inl (max x y) :: st) m n bc bs) : Wp l G lw Y d ph Q pc lv (.inl y :: .inl x :: st) m n bc bs := by
  intro p e s mm args below meth c H locs cells slots ls mc ms hC hL e1 e2 w1 w2 hl1 hR hS
  have hts := hC.2.2.2.2.1
  have hrc := q_roomC (d := d) (fun h => (hL h).2)
  have hrm := q_room1 (lw := lw) (mc := mc) (ms := ms) hd1
  have hy : inR y := wf_hd w2
  have hx : inR x := wf_hd (wf_tl w2)
  refine va_mmax hC.1 hC.2.1 (by rw [hC.2.2.1]; exact hl1.1.symm) hC.2.2.2.1 (hts _ hl) (hts _ hk.1) (hts _ hk.2.1) (hts _ hk.2.2) hrm.1 (by rw [q_sum]; omega) (by omega) (by omega) hd ?_
  have e9 : (if Int32.ofInt x < Int32.ofInt y then Int32.ofInt y else Int32.ofInt x) = Int32.ofInt (max x y) := by
    by_cases h : x < y
    · rw [if_pos ((ltI hx hy).mpr h), Int.max_eq_right (by omega)]
    · rw [if_neg (fun q => h ((ltI hx hy).mp q)), Int.max_eq_left (by omega)]
  rw [e9]
  exact K p e s mm args below meth c H locs cells slots ls mc ms hC hL e1 e2 w1 (wf_cons (v := .inl (max x y)) (by show inR (max x y); rcases Int.le_total x y with h | h <;> simp only [Int.max_eq_right h, Int.max_eq_left h] <;> assumption) (wf_tl (wf_tl w2))) hl1 hR hS
theorem Wp.mmin {x y : Int} {idx : Nat} (hd : decode Y.2.1 pc = .ok (.invokestatic idx, 3)) (hl : Cond.methodLink Y.1.cls idx Lib.Math.min.name ∈ q_W) (hk : Cond.static Lib.Math.min.name ∈ q_W ∧ Cond.initialized "java/lang/Math" ∈ q_W ∧ Cond.code Lib.Math.min.name Lib.Math.min.code 2 (some .int) ∈ q_W) (hd1 : 1 ≤ d) (hst : (st.map q_cat).sum ≤ 8)
    (K : Wp l G lw Y d ph Q (pc + 3) lv (.inl (min x y) :: st) m n bc bs) : Wp l G lw Y d ph Q pc lv (.inl y :: .inl x :: st) m n bc bs := by
  intro p e s mm args below meth c H locs cells slots ls mc ms hC hL e1 e2 w1 w2 hl1 hR hS
  have hts := hC.2.2.2.2.1
  have hrc := q_roomC (d := d) (fun h => (hL h).2)
  have hrm := q_room1 (lw := lw) (mc := mc) (ms := ms) hd1
  have hy : inR y := wf_hd w2
  have hx : inR x := wf_hd (wf_tl w2)
  refine va_mmin hC.1 hC.2.1 (by rw [hC.2.2.1]; exact hl1.1.symm) hC.2.2.2.1 (hts _ hl) (hts _ hk.1) (hts _ hk.2.1) (hts _ hk.2.2) hrm.1 (by rw [q_sum]; omega) (by omega) (by omega) hd ?_
  have e9 : (if Int32.ofInt y < Int32.ofInt x then Int32.ofInt y else Int32.ofInt x) = Int32.ofInt (min x y) := by
    by_cases h : y < x
    · rw [if_pos ((ltI hy hx).mpr h), Int.min_eq_right (by omega)]
    · rw [if_neg (fun q => h ((ltI hy hx).mp q)), Int.min_eq_left (by omega)]
  rw [e9]
  exact K p e s mm args below meth c H locs cells slots ls mc ms hC hL e1 e2 w1 (wf_cons (v := .inl (min x y)) (by show inR (min x y); rcases Int.le_total x y with h | h <;> simp only [Int.min_eq_right h, Int.min_eq_left h] <;> assumption) (wf_tl (wf_tl w2))) hl1 hR hS
theorem Wp.mabsL {x : Int} {idx : Nat} (hd : decode Y.2.1 pc = .ok (.invokestatic idx, 3)) (hl : Cond.methodLink Y.1.cls idx Lib.MathLoose.abs_long.x ∈ q_W) (hk : Cond.static Lib.MathLoose.abs_long.x ∈ q_W ∧ Cond.initialized "java/lang/Math" ∈ q_W ∧ Cond.code Lib.MathLoose.abs_long.x Lib.MathLoose.abs_long.code 2 (some .long) ∈ q_W) (hd1 : 1 ≤ d) (hst : (st.map q_cat).sum ≤ 8) (hx0 : -9223372036854775808 < x)
    (K : Wp l G lw Y d ph Q (pc + 3) lv (.inr (.inl (if x < 0 then -x else x)) :: st) m n bc bs) : Wp l G lw Y d ph Q pc lv (.inr (.inl x) :: st) m n bc bs := by
  intro p e s mm args below meth c H locs cells slots ls mc ms hC hL e1 e2 w1 w2 hl1 hR hS
  have hts := hC.2.2.2.2.1
  have hrc := q_roomC (d := d) (fun h => (hL h).2)
  have hrm := q_room1 (lw := lw) (mc := mc) (ms := ms) hd1
  have hx : inL x := wf_hd w2
  refine va_mabs_long hC.1 hC.2.1 (by rw [hC.2.2.1]; exact hl1.1.symm) hC.2.2.2.1 (hts _ hl) (hts _ hk.1) (hts _ hk.2.1) (hts _ hk.2.2) hrm.1 (by rw [q_sum]; omega) (by omega) (by omega) hd ?_
  have e9 : (if 0 < Int64.ofInt x then Int64.ofInt x else -Int64.ofInt x) = Int64.ofInt (if x < 0 then -x else x) := by
    have h1 : (0 : Int64) < Int64.ofInt x ↔ 0 < x := by
      show Int64.ofInt 0 < Int64.ofInt x ↔ 0 < x
      rw [Int64.lt_iff_toInt_lt, toL hx, toL (by decide)]
    by_cases h : x < 0
    · rw [if_neg (fun q => by have := h1.mp q; omega), if_pos h, Int64.ofInt_neg]
    · by_cases h2 : 0 < x
      · rw [if_pos (h1.mpr h2), if_neg h]
      · have : x = 0 := by omega
        subst this
        rfl
  rw [e9]
  exact K p e s mm args below meth c H locs cells slots ls mc ms hC hL e1 e2 w1 (wf_cons (v := .inr (.inl (if x < 0 then -x else x))) (by show inL (if x < 0 then -x else x); split <;> omega) (wf_tl w2)) hl1 hR hS
/-- contracts of methods that make nothing: an int, nothing, a long as answer -/
def QI (P : Int → MM → Prop) : Option MV → MM → Nat → Prop := fun r m n => ∃ z, r = some (.inl z) ∧ n = 111 ∧ P z m
def QV (P : MM → Prop) : Option MV → MM → Nat → Prop := fun r m n => r = none ∧ n = 111 ∧ P m
def QJ (P : Int → MM → Prop) : Option MV → MM → Nat → Prop := fun r m n => ∃ z, r = some (.inr (.inl z)) ∧ n = 111 ∧ P z m
def CI (l : Launch) (G : GT) (Y : YD) (d : Nat) (av : List MV) (m : MM) (P : Int → MM → Prop) : Prop := q_Ok l G true Y d av m 111 0 0 (QI P)
def CV (l : Launch) (G : GT) (Y : YD) (d : Nat) (av : List MV) (m : MM) (P : MM → Prop) : Prop := q_Ok l G true Y d av m 111 0 0 (QV P)
def CJ (l : Launch) (G : GT) (Y : YD) (d : Nat) (av : List MV) (m : MM) (P : Int → MM → Prop) : Prop := q_Ok l G true Y d av m 111 0 0 (QJ P)
end Steps10
