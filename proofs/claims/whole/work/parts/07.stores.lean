section Steps4
variable {l : Launch} {G : GT} {lw : Bool} {Y : YD} {d : Nat} {ph : Bool} {Q : Option MV → MM → Nat → Prop} {pc pc' : Nat} {lv lv' : List (Nat × MV)} {st st' : List MV} {m : MM} {n bc bs : Nat}
theorem and1 {z : Int} (h : z = 0 ∨ z = 1) : Int32.ofInt z &&& 1 = Int32.ofInt z := by
  rcases h with rfl | rfl <;> rfl
theorem nar8 {z : Int} (h : -128 ≤ z ∧ z < 128) : (Int32.ofInt z).toInt8.toInt32 = Int32.ofInt z := by
  apply Int32.toInt_inj.mp
  rw [Int8.toInt_toInt32, Int32.toInt_toInt8, toI (by omega)]
  exact Int.bmod_eq_of_le_mul_two (by omega) (by omega)
theorem q_fits {ty : FieldType} {z : Int} (h9 : q_kt ty ≠ 9) (hz : Rg (q_kt ty) z) : narrow ty (g_fv G (q_kt ty) z) = g_fv G (q_kt ty) z ∧ fits ty (g_fv G (q_kt ty) z) = true := by
  cases ty with
  | int => exact ⟨rfl, rfl⟩
  | long => exact ⟨rfl, rfl⟩
  | boolean =>
    have hz : z = 0 ∨ z = 1 := hz
    refine ⟨?_, ?_⟩
    · show Value.int (Int32.ofInt z &&& 1) = Value.int (Int32.ofInt z)
      rw [and1 hz]
    · rcases hz with rfl | rfl <;> rfl
  | byte =>
    have hz : -128 ≤ z ∧ z < 128 := hz
    refine ⟨?_, ?_⟩
    · show Value.int ((Int32.ofInt z).toInt8.toInt32) = Value.int (Int32.ofInt z)
      rw [nar8 hz]
    · show (decide ((-128 : Int32) ≤ Int32.ofInt z) && decide (Int32.ofInt z ≤ 127)) = true
      have h1 : (-128 : Int32) ≤ Int32.ofInt z := by
        show Int32.ofInt (-128) ≤ Int32.ofInt z
        exact (leI (by decide) (by omega)).mpr hz.1
      have h2 : Int32.ofInt z ≤ 127 := by
        show Int32.ofInt z ≤ Int32.ofInt 127
        exact (leI (by omega) (by decide)).mpr (by omega)
      simp [h1, h2]
  | array t =>
    refine ⟨rfl, ?_⟩
    show fits (.array t) (if z < 0 then .null else .ref (g_ad G z.toNat)) = true
    split <;> rfl
  | object t =>
    refine ⟨rfl, ?_⟩
    show fits (.object t) (if z < 0 then .null else .ref (g_ad G z.toNat)) = true
    split <;> rfl
  | char => exact absurd rfl h9
  | short => exact absurd rfl h9
  | float => exact absurd rfl h9
  | double => exact absurd rfl h9
theorem g_fs_set {c k : Nat} {f : Int → Int} {z : Int} (hk : k < q_nf c) : ((List.range (q_nf c)).map fun j => g_fv G (q_ft c j) (f j)).set k (g_fv G (q_ft c k) z) = (List.range (q_nf c)).map fun j => g_fv G (q_ft c j) ((fun i : Int => if i = (k : Int) then z else f i) j) := by
  apply List.ext_getElem?
  intro i
  rw [List.getElem?_set]
  by_cases hi : k = i
  · subst hi
    rw [if_pos rfl, if_pos (by simpa using hk), List.getElem?_map, List.getElem?_range hk]
    simp
  · rw [if_neg hi, List.getElem?_map, List.getElem?_map]
    by_cases hn : i < q_nf c
    · rw [List.getElem?_range hn]
      simp [show ¬ ((i : Int) = (k : Int)) by omega]
    · rw [List.getElem?_eq_none (by simp; omega)]
      rfl
theorem q_ftk : ∀ c, c < 12 → ∀ k, k < q_nf c → q_ft c k ≠ 9 := by decide +kernel
/-- putfield, no final one, once all is made -/
theorem Wp.put {a c k idx : Nat} {v : MV} {z : Int} (hd : decode Y.2.1 pc = .ok (.putfield idx, 3)) (hF : q_FL Y.1.cls idx c k) (hfin : ∀ C T N, q_cls[c]? = some (C, T, N) → (T k).2.2.2 = false) (hL : q_lay a = .inl c) (hp : q_pt a k = none) (hv : g_fv G (q_ft c k) z = g_val G v) (hz : wfV v → Rg (q_ft c k) z)
    (K : Wp l G lw Y d true Q (pc + 3) lv st (up m a k z) n bc bs) : Wp l G lw Y d true Q pc lv (v :: .inr (.inr a) :: st) m n bc bs := by
  intro p e s mm args below meth cc H locs cells slots ls mc ms hC hLw e1 e2 w1 w2 hl hR hS
  obtain ⟨C, T, N, hc, hk, hlink⟩ := hF
  obtain ⟨hin, hN, hnm, -, -, ty0, hty, hkt⟩ := q_cf c C T N hc
  have ha := q_lay_obj hL
  have han := q_vis hR ha (Or.inl rfl)
  have hz := hz (wf_hd w2)
  have he : (g_ws G m n)[a]? = some (g_b G + a, .inr (c, (List.range (q_nf c)).map fun k => g_fv G (q_ft c k) (m a k))) := by
    rw [g_ws_get han, hL]; rfl
  have hkk : k < q_nf c := by omega
  have hf := q_fits (G := G) (ty := ty0 k) (z := z) (by rw [hkt k hk]; exact q_ftk c (List.getElem?_eq_some_iff.mp hc).1 k hkk) (by rw [hkt k hk]; exact hz)
  rw [hkt k hk, hv] at hf
  show W _ _ _ _ _ _ _ _ _ _ _ _ _ _ _ (F0 mm pc ls (g_val G v :: .ref (g_ad G a) :: st.map (g_val G)))
  rw [q_adb (by omega)]
  refine va_put hC.1 hC.2.1 hC.2.2.2.2.1 hin ty0 hty hnm hC.2.2.2.1 hC.2.2.2.2.2.1.1 hR.1 g_ws_D hS a he hc k hk (hC.2.2.2.2.1 _ hlink) (fun _ h => h) (hfin C T N hc) (hty k hk) hf.1 hf.2 (by simpa using hkk) hd (fun H1 locs1 hP1 _ hS1 => ?_)
  have hws : (g_ws G m n).set a (g_b G + a, .inr (c, ((List.range (q_nf c)).map fun k => g_fv G (q_ft c k) (m a k)).set k (g_val G v))) = g_ws G (up m a k z) n := by
    rw [← hv, g_fs_set hkk, ← g_ws_set (m := m) (m' := up m a k z) han (fun b hb => up_ne hb), up_eq, hL]
    rfl
  rw [hws] at hP1
  refine K p e s mm args below meth cc H1 locs1 cells slots ls mc ms hC hLw e1 e2 w1 (wf_tl (wf_tl w2)) hl ⟨hP1, wfM_up hR.2.1 ?_, fun _ => ⟨Ptr_up (hR.2.2.1 rfl).1 hp, (hR.2.2.1 rfl).2⟩, fun h => by cases h⟩ hS1
  unfold q_st
  rw [hL]
  simpa using hz
theorem Wp.putI {a c k idx : Nat} {z : Int} (hd : decode Y.2.1 pc = .ok (.putfield idx, 3)) (hF : q_FL Y.1.cls idx c k) (hfin : ∀ C T N, q_cls[c]? = some (C, T, N) → (T k).2.2.2 = false) (hL : q_lay a = .inl c) (hp : q_pt a k = none) (ht : q_ft c k = 0)
    (K : Wp l G lw Y d true Q (pc + 3) lv st (up m a k z) n bc bs) : Wp l G lw Y d true Q pc lv (.inl z :: .inr (.inr a) :: st) m n bc bs :=
  Wp.put (v := .inl z) hd hF hfin hL hp (by rw [ht]; rfl) (fun h => by rw [ht]; exact h) K
theorem Wp.putZ {a c k idx : Nat} {z : Int} (hd : decode Y.2.1 pc = .ok (.putfield idx, 3)) (hF : q_FL Y.1.cls idx c k) (hfin : ∀ C T N, q_cls[c]? = some (C, T, N) → (T k).2.2.2 = false) (hL : q_lay a = .inl c) (hp : q_pt a k = none) (ht : q_ft c k = 3) (hz : z = 0 ∨ z = 1)
    (K : Wp l G lw Y d true Q (pc + 3) lv st (up m a k z) n bc bs) : Wp l G lw Y d true Q pc lv (.inl z :: .inr (.inr a) :: st) m n bc bs :=
  Wp.put (v := .inl z) hd hF hfin hL hp (by rw [ht]; rfl) (fun _ => by rw [ht]; exact hz) K
theorem Wp.putL {a c k idx : Nat} {z : Int} (hd : decode Y.2.1 pc = .ok (.putfield idx, 3)) (hF : q_FL Y.1.cls idx c k) (hfin : ∀ C T N, q_cls[c]? = some (C, T, N) → (T k).2.2.2 = false) (hL : q_lay a = .inl c) (hp : q_pt a k = none) (ht : q_ft c k = 1)
    (K : Wp l G lw Y d true Q (pc + 3) lv st (up m a k z) n bc bs) : Wp l G lw Y d true Q pc lv (.inr (.inl z) :: .inr (.inr a) :: st) m n bc bs :=
  Wp.put (v := .inr (.inl z)) hd hF hfin hL hp (by rw [ht]; rfl) (fun h => by rw [ht]; exact h) K
theorem Wp.putR {a c k idx r : Nat} (hd : decode Y.2.1 pc = .ok (.putfield idx, 3)) (hF : q_FL Y.1.cls idx c k) (hfin : ∀ C T N, q_cls[c]? = some (C, T, N) → (T k).2.2.2 = false) (hL : q_lay a = .inl c) (hp : q_pt a k = none) (ht : q_ft c k = 2)
    (K : Wp l G lw Y d true Q (pc + 3) lv st (up m a k r) n bc bs) : Wp l G lw Y d true Q pc lv (.inr (.inr r) :: .inr (.inr a) :: st) m n bc bs :=
  Wp.put (v := .inr (.inr r)) (z := (r : Int)) hd hF hfin hL hp (by
    rw [ht]
    show (if (r : Int) < 0 then Value.null else .ref (g_ad G (r : Int).toNat)) = .ref (g_ad G r)
    rw [if_neg (by omega), Int.toNat_natCast]) (fun _ => by rw [ht]; trivial) K
/-- an index that lies in the row -/
theorem q_vin {i : Int} {len : Nat} (h0 : 0 ≤ i) (h1 : i < len) (hr : inR i) : vp_in (Int32.ofInt i) len := by
  unfold vp_in
  rw [toN hr]
  intro h
  rcases h with h | h
  · exact absurd ((ltI0 hr).mp h) (by omega)
  · omega
theorem Wp.arr {a k len : Nat} {i : Int} {v : MV} {ins : Instr} (hd : decode Y.2.1 pc = .ok (ins, 1)) (ha : q_lay a = .inr (k, len)) (hn : ph = true ∨ a < n) (h0 : 0 ≤ i) (h1 : i < len) (hv : wfM m → (ph = true → Ptr m) → wfV v)
    (hs : ∀ (p : Program) (e : Env) (s : State) (mm : MethodId) (args : Array Value) (below : List Frame) (meth : Method) (c : Code) (H : Heap) (locs : List Loc) (cells slots : Nat) (ls : Array Slot) (R : Room) (Z : State → Prop),
      p.tables.exec = Jvm.exec → c.code = Y.2.1 → q_X G s → va_P (g_D G) q_cls (g_ws G m n) H → (g_ws G m n)[a]? = some (g_b G + a, .inl (g_A G k, len, g_con G k (m a))) → vp_in (Int32.ofInt i) len → (Int32.ofInt i).toNatClampNeg = i.toNat → wfM m → (ph = true → Ptr m) →
      W p l e R s mm args below meth c H locs cells slots Z (F0 mm (pc + 1) ls (g_val G v :: st.map (g_val G))) → W p l e R s mm args below meth c H locs cells slots Z (F0 mm pc ls (.int (Int32.ofInt i) :: .ref (g_b G + a) :: st.map (g_val G))))
    (K : Wp l G lw Y d ph Q (pc + 1) lv (v :: st) m n bc bs) : Wp l G lw Y d ph Q pc lv (.inl i :: .inr (.inr a) :: st) m n bc bs := by
  intro p e s mm args below meth c H locs cells slots ls mc ms hC hL e1 e2 w1 w2 hl hR hS
  have ha1 := q_lay_arr ha (by omega)
  have han := q_vis hR ha1 hn
  have hri : inR i := wf_hd w2
  show W _ _ _ _ _ _ _ _ _ _ _ _ _ _ _ (F0 mm pc ls (.int (Int32.ofInt i) :: .ref (g_ad G a) :: st.map (g_val G)))
  rw [q_adb (by omega)]
  refine hs p e s mm args below meth c H locs cells slots ls _ _ hC.1 hC.2.1 hC.2.2.2.2.2.1 hR.1 ?_ (q_vin h0 h1 hri) (toN hri) hR.2.1 (fun h => (hR.2.2.1 h).1) (K p e s mm args below meth c H locs cells slots ls mc ms hC hL e1 e2 w1 (wf_cons (hv hR.2.1 (fun h => (hR.2.2.1 h).1)) (wf_tl (wf_tl w2))) hl hR hS)
  rw [g_ws_get han, ha]
  rfl
theorem q_stA {a k len : Nat} (ha : q_lay a = .inr (k, len)) (hm : wfM m) (i : Int) : Rg (q_ak k) (m a i) := by
  have h := hm a i
  unfold q_st at h
  rw [ha] at h
  exact h
theorem Wp.iald {a len : Nat} {i : Int} (hd : decode Y.2.1 pc = .ok (.iaload, 1)) (ha : q_lay a = .inr (0, len)) (hn : ph = true ∨ a < n) (h0 : 0 ≤ i) (h1 : i < len)
    (K : Wp l G lw Y d ph Q (pc + 1) lv (.inl (m a i) :: st) m n bc bs) : Wp l G lw Y d ph Q pc lv (.inl i :: .inr (.inr a) :: st) m n bc bs :=
  Wp.arr hd ha hn h0 h1 (v := .inl (m a i)) (fun h _ => q_stA ha h i) (fun _ _ _ _ _ _ _ _ _ _ _ _ _ _ _ hx hb hX hP he hv hN _ _ k => va_iald hx hb hX.1 hP a 0 he rfl hv hd (by
    rw [hN]
    show W _ _ _ _ _ _ _ _ _ _ _ _ _ _ _ (F0 _ (pc + 1) _ (.int (Int32.ofInt (m a (i.toNat : Int))) :: _))
    rw [Int.toNat_of_nonneg h0]
    exact k)) K
theorem Wp.lald {a len : Nat} {i : Int} (hd : decode Y.2.1 pc = .ok (.laload, 1)) (ha : q_lay a = .inr (1, len)) (hn : ph = true ∨ a < n) (h0 : 0 ≤ i) (h1 : i < len)
    (K : Wp l G lw Y d ph Q (pc + 1) lv (.inr (.inl (m a i)) :: st) m n bc bs) : Wp l G lw Y d ph Q pc lv (.inl i :: .inr (.inr a) :: st) m n bc bs :=
  Wp.arr hd ha hn h0 h1 (v := .inr (.inl (m a i))) (fun h _ => q_stA ha h i) (fun _ _ _ _ _ _ _ _ _ _ _ _ _ _ _ hx hb hX hP he hv hN _ _ k => va_lald hx hb hX.1 hP a 1 he rfl hv hd (by
    rw [hN]
    show W _ _ _ _ _ _ _ _ _ _ _ _ _ _ _ (F0 _ (pc + 1) _ (.long (Int64.ofInt (m a (i.toNat : Int))) :: _))
    rw [Int.toNat_of_nonneg h0]
    exact k)) K
theorem Wp.zald {a len : Nat} {i : Int} (hd : decode Y.2.1 pc = .ok (.baload, 1)) (ha : q_lay a = .inr (2, len)) (hn : ph = true ∨ a < n) (h0 : 0 ≤ i) (h1 : i < len)
    (K : Wp l G lw Y d ph Q (pc + 1) lv (.inl (m a i) :: st) m n bc bs) : Wp l G lw Y d ph Q pc lv (.inl i :: .inr (.inr a) :: st) m n bc bs :=
  Wp.arr hd ha hn h0 h1 (v := .inl (m a i)) (fun h _ => Rg_int (Or.inr rfl) (q_stA ha h i)) (fun _ _ _ _ _ _ _ _ _ _ _ _ _ _ _ hx hb hX hP he hv hN _ _ k => va_zald hx hb hX.1 hP a 2 he rfl hv hd (by
    rw [hN]
    show W _ _ _ _ _ _ _ _ _ _ _ _ _ _ _ (F0 _ (pc + 1) _ (.int (Int32.ofInt (m a (i.toNat : Int))) :: _))
    rw [Int.toNat_of_nonneg h0]
    exact k)) K
theorem Wp.bald {a len : Nat} {i : Int} (hd : decode Y.2.1 pc = .ok (.baload, 1)) (ha : q_lay a = .inr (3, len)) (hn : ph = true ∨ a < n) (h0 : 0 ≤ i) (h1 : i < len)
    (K : Wp l G lw Y d ph Q (pc + 1) lv (.inl (m a i) :: st) m n bc bs) : Wp l G lw Y d ph Q pc lv (.inl i :: .inr (.inr a) :: st) m n bc bs :=
  Wp.arr hd ha hn h0 h1 (v := .inl (m a i)) (fun h _ => by
    have h1 : -128 ≤ m a i ∧ m a i < 128 := q_stA ha h i
    show inR (m a i)
    omega) (fun _ _ _ _ _ _ _ _ _ _ _ _ _ _ _ hx hb hX hP he hv hN _ _ k => va_bald hx hb hX.1 hP a 3 he rfl hv hd (by
    rw [hN]
    show W _ _ _ _ _ _ _ _ _ _ _ _ _ _ _ (F0 _ (pc + 1) _ (.int (Int32.ofInt (m a (i.toNat : Int))) :: _))
    rw [Int.toNat_of_nonneg h0]
    exact k)) K
end Steps4
