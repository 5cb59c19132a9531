section Steps5
variable {l : Launch} {G : GT} {lw : Bool} {Y : YD} {d : Nat} {ph : Bool} {Q : Option MV → MM → Nat → Prop} {pc pc' : Nat} {lv lv' : List (Nat × MV)} {st st' : List MV} {m : MM} {n bc bs : Nat}
theorem q_pA {a k len : Nat} (ha : q_lay a = .inr (k, len)) (hk : k ≠ 4) (i : Int) : q_pt a i = none := by
  have h : ∀ a, a < 111 → (∀ k len, q_lay a = .inr (k, len) → k = 4 ∨ q_pL.getD a [] = []) := by
    intro a ha k len hl
    have h2 : ∀ a, a < 111 → (match q_lay a with | .inl _ => true | .inr q => decide (q.1 = 4) || (q_pL.getD a []).isEmpty) = true := by decide +kernel
    have h3 := h2 a ha
    rw [hl] at h3
    simpa using h3
  rcases Nat.lt_or_ge a 111 with h1 | h1
  · rcases h a h1 k len ha with h2 | h2
    · exact absurd h2 hk
    · unfold q_pt
      rw [h2]
      rfl
  · unfold q_pt
    rw [List.getD_eq_getElem?_getD, List.getElem?_eq_none (by exact h1)]
    rfl
theorem upd_of {α : Type} {f : Int → Int} {g : Int → α} {i z : Int} (h0 : 0 ≤ i) : (fun j : Nat => if j = i.toNat then g z else g (f j)) = fun j : Nat => g ((fun t : Int => if t = i then z else f t) j) := by
  funext j
  by_cases h : j = i.toNat
  · rw [if_pos h]
    show g z = g (if (j : Int) = i then z else f j)
    rw [if_pos (by omega)]
  · rw [if_neg h]
    show g (f j) = g (if (j : Int) = i then z else f j)
    rw [if_neg (by omega)]
theorem Wp.ast {a k len : Nat} {i z : Int} {v : MV} {ins : Instr} (hd : decode Y.2.1 pc = .ok (ins, 1)) (ha : q_lay a = .inr (k, len)) (hk : k ≠ 4) (h0 : 0 ≤ i) (h1 : i < len) (hz : wfV v → Rg (q_ak k) z)
    (hs : ∀ (p : Program) (e : Env) (s : State) (mm : MethodId) (args : Array Value) (below : List Frame) (meth : Method) (c : Code) (H : Heap) (locs : List Loc) (cells slots : Nat) (ls : Array Slot) (R : Room) (Z : State → Prop),
      p.tables.exec = Jvm.exec → c.code = Y.2.1 → q_X G s → va_P (g_D G) q_cls (g_ws G m n) H → va_D (q_A G) (g_ws G m n) → va_S (q_A G) s.heap H locs → (g_ws G m n)[a]? = some (g_b G + a, .inl (g_A G k, len, g_con G k (m a))) → vp_in (Int32.ofInt i) len → (Int32.ofInt i).toNatClampNeg = i.toNat → Rg (q_ak k) z →
      (∀ (H1 : Heap) (locs1 : List Loc), va_P (g_D G) q_cls ((g_ws G m n).set a (g_b G + a, .inl (g_A G k, len, g_con G k (fun t => if t = i then z else m a t)))) H1 → va_S (q_A G) s.heap H1 locs1 → W p l e R s mm args below meth c H1 locs1 cells slots Z (F0 mm (pc + 1) ls (st.map (g_val G)))) →
      W p l e R s mm args below meth c H locs cells slots Z (F0 mm pc ls (g_val G v :: .int (Int32.ofInt i) :: .ref (g_b G + a) :: st.map (g_val G))))
    (K : Wp l G lw Y d true Q (pc + 1) lv st (up m a i z) n bc bs) : Wp l G lw Y d true Q pc lv (v :: .inl i :: .inr (.inr a) :: st) m n bc bs := by
  intro p e s mm args below meth c H locs cells slots ls mc ms hC hL e1 e2 w1 w2 hl hR hS
  have ha1 := q_lay_arr ha (by omega)
  have han := q_vis hR ha1 (Or.inl rfl)
  have hri : inR i := wf_hd (wf_tl w2)
  have hzz := hz (wf_hd w2)
  show W _ _ _ _ _ _ _ _ _ _ _ _ _ _ _ (F0 mm pc ls (g_val G v :: .int (Int32.ofInt i) :: .ref (g_ad G a) :: st.map (g_val G)))
  rw [q_adb (by omega)]
  refine hs p e s mm args below meth c H locs cells slots ls _ _ hC.1 hC.2.1 hC.2.2.2.2.2.1 hR.1 g_ws_D hS ?_ (q_vin h0 h1 hri) (toN hri) hzz (fun H1 locs1 hP1 hS1 => ?_)
  · rw [g_ws_get han, ha]
    rfl
  · have hws : (g_ws G m n).set a (g_b G + a, .inl (g_A G k, len, g_con G k (fun t => if t = i then z else m a t))) = g_ws G (up m a i z) n := by
      rw [← g_ws_set (m := m) (m' := up m a i z) han (fun b hb => up_ne hb), up_eq, ha]
      rfl
    rw [hws] at hP1
    refine K p e s mm args below meth c H1 locs1 cells slots ls mc ms hC hL e1 e2 w1 (wf_tl (wf_tl (wf_tl w2))) hl ⟨hP1, wfM_up hR.2.1 ?_, fun _ => ⟨Ptr_up (hR.2.2.1 rfl).1 (q_pA ha hk i), (hR.2.2.1 rfl).2⟩, fun h => by cases h⟩ hS1
    unfold q_st
    rw [ha]
    exact hzz
theorem Wp.iast {a len : Nat} {i z : Int} (hd : decode Y.2.1 pc = .ok (.iastore, 1)) (ha : q_lay a = .inr (0, len)) (h0 : 0 ≤ i) (h1 : i < len)
    (K : Wp l G lw Y d true Q (pc + 1) lv st (up m a i z) n bc bs) : Wp l G lw Y d true Q pc lv (.inl z :: .inl i :: .inr (.inr a) :: st) m n bc bs :=
  Wp.ast (v := .inl z) hd ha (by decide) h0 h1 (fun h => h) (fun _ _ _ _ _ _ _ _ _ _ _ _ _ _ _ hx hb hX hP hD hS he hv hN _ k => va_iast hx hb hX.1 hP hD hS a 0 he rfl hv hd (fun H1 locs1 hP1 _ hS1 => k H1 locs1 (by
    rw [hN] at hP1
    have e9 : g_con G 0 (fun t => if t = i then z else m a t) = .inl (upd (fun j : Nat => Int32.ofInt (m a j)) i.toNat (Int32.ofInt z)) := by
      show Sum.inl _ = Sum.inl _
      rw [show upd (fun j : Nat => Int32.ofInt (m a j)) i.toNat (Int32.ofInt z) = fun j : Nat => if j = i.toNat then Int32.ofInt z else Int32.ofInt (m a j) from rfl, upd_of (f := m a) (g := Int32.ofInt) h0]
    rw [e9]
    exact hP1) hS1)) K
theorem Wp.last {a len : Nat} {i z : Int} (hd : decode Y.2.1 pc = .ok (.lastore, 1)) (ha : q_lay a = .inr (1, len)) (h0 : 0 ≤ i) (h1 : i < len)
    (K : Wp l G lw Y d true Q (pc + 1) lv st (up m a i z) n bc bs) : Wp l G lw Y d true Q pc lv (.inr (.inl z) :: .inl i :: .inr (.inr a) :: st) m n bc bs :=
  Wp.ast (v := .inr (.inl z)) hd ha (by decide) h0 h1 (fun h => h) (fun _ _ _ _ _ _ _ _ _ _ _ _ _ _ _ hx hb hX hP hD hS he hv hN _ k => va_last hx hb hX.1 hP hD hS a 1 he rfl hv hd (fun H1 locs1 hP1 _ hS1 => k H1 locs1 (by
    rw [hN] at hP1
    have e9 : g_con G 1 (fun t => if t = i then z else m a t) = .inr (.inl (vp_updL (fun j : Nat => Int64.ofInt (m a j)) i.toNat (Int64.ofInt z))) := by
      show Sum.inr (Sum.inl _) = Sum.inr (Sum.inl _)
      rw [show vp_updL (fun j : Nat => Int64.ofInt (m a j)) i.toNat (Int64.ofInt z) = fun j : Nat => if j = i.toNat then Int64.ofInt z else Int64.ofInt (m a j) from rfl, upd_of (f := m a) (g := Int64.ofInt) h0]
    rw [e9]
    exact hP1) hS1)) K
theorem Wp.zast {a len : Nat} {i z : Int} (hd : decode Y.2.1 pc = .ok (.bastore, 1)) (ha : q_lay a = .inr (2, len)) (h0 : 0 ≤ i) (h1 : i < len) (hz : z = 0 ∨ z = 1)
    (K : Wp l G lw Y d true Q (pc + 1) lv st (up m a i z) n bc bs) : Wp l G lw Y d true Q pc lv (.inl z :: .inl i :: .inr (.inr a) :: st) m n bc bs :=
  Wp.ast (v := .inl z) hd ha (by decide) h0 h1 (fun _ => hz) (fun _ _ _ _ _ _ _ _ _ _ _ _ _ _ _ hx hb hX hP hD hS he hv hN _ k => va_zast hx hb hX.1 hP hD hS a 2 he rfl hv hd (fun H1 locs1 hP1 _ hS1 => k H1 locs1 (by
    rw [hN] at hP1
    have e9 : g_con G 2 (fun t => if t = i then z else m a t) = .inl (upd (fun j : Nat => Int32.ofInt (m a j)) i.toNat (vp_nar .boolean (Int32.ofInt z))) := by
      rw [show vp_nar .boolean (Int32.ofInt z) = Int32.ofInt z &&& 1 from rfl, and1 hz]
      show Sum.inl _ = Sum.inl _
      rw [show upd (fun j : Nat => Int32.ofInt (m a j)) i.toNat (Int32.ofInt z) = fun j : Nat => if j = i.toNat then Int32.ofInt z else Int32.ofInt (m a j) from rfl, upd_of (f := m a) (g := Int32.ofInt) h0]
    rw [e9]
    exact hP1) hS1)) K
theorem Wp.bast {a len : Nat} {i z : Int} (hd : decode Y.2.1 pc = .ok (.bastore, 1)) (ha : q_lay a = .inr (3, len)) (h0 : 0 ≤ i) (h1 : i < len) (hz : -128 ≤ z ∧ z < 128)
    (K : Wp l G lw Y d true Q (pc + 1) lv st (up m a i z) n bc bs) : Wp l G lw Y d true Q pc lv (.inl z :: .inl i :: .inr (.inr a) :: st) m n bc bs :=
  Wp.ast (v := .inl z) hd ha (by decide) h0 h1 (fun _ => hz) (fun _ _ _ _ _ _ _ _ _ _ _ _ _ _ _ hx hb hX hP hD hS he hv hN _ k => va_bast hx hb hX.1 hP hD hS a 3 he rfl hv hd (fun H1 locs1 hP1 _ hS1 => k H1 locs1 (by
    rw [hN] at hP1
    have e9 : g_con G 3 (fun t => if t = i then z else m a t) = .inl (upd (fun j : Nat => Int32.ofInt (m a j)) i.toNat (vp_nar .byte (Int32.ofInt z))) := by
      rw [show vp_nar .byte (Int32.ofInt z) = (Int32.ofInt z).toInt8.toInt32 from rfl, nar8 hz]
      show Sum.inl _ = Sum.inl _
      rw [show upd (fun j : Nat => Int32.ofInt (m a j)) i.toNat (Int32.ofInt z) = fun j : Nat => if j = i.toNat then Int32.ofInt z else Int32.ofInt (m a j) from rfl, upd_of (f := m a) (g := Int32.ofInt) h0]
    rw [e9]
    exact hP1) hS1)) K
/-- a row of rows -/
theorem Wp.aald {a len r : Nat} {i : Int} (hd : decode Y.2.1 pc = .ok (.aaload, 1)) (ha : q_lay a = .inr (4, len)) (h0 : 0 ≤ i) (h1 : i < len) (hp : q_pt a i = some r)
    (K : Wp l G lw Y d true Q (pc + 1) lv (.inr (.inr r) :: st) m n bc bs) : Wp l G lw Y d true Q pc lv (.inl i :: .inr (.inr a) :: st) m n bc bs :=
  Wp.arr hd ha (Or.inl rfl) h0 h1 (v := .inr (.inr r)) (fun _ _ => trivial) (fun _ _ _ _ _ _ _ _ _ _ _ _ _ _ _ hx hb hX hP he hv hN _ hPt k => by
    have hc := hP a _ he
    refine W.aald (ty := .array .int) (v := .ref (g_ad G r)) hx hb hc ((hX.1.2 4 _ rfl).1 len (fun j => va_rf (if m a j < 0 then none else some (g_ad G (m a j).toNat)))) rfl (fun q => by cases q) ?_ ?_ rfl rfl hd k
    · show ¬ (_ ∨ (arrV _ _ _).slots.size ≤ _)
      rw [arrV_size]
      exact hv
    · show (arrV _ _ _).slots[_]? = _
      have hlt : (Int32.ofInt i).toNatClampNeg < len := by rw [hN]; omega
      rw [arrV_read _ _ hlt, hN]
      show some (va_rf (if m a (i.toNat : Int) < 0 then none else some (g_ad G (m a (i.toNat : Int)).toNat))) = _
      rw [Int.toNat_of_nonneg h0, hPt rfl a i r hp, if_neg (by omega), Int.toNat_natCast]
      rfl) K
theorem Wp.alen {a k len : Nat} (hd : decode Y.2.1 pc = .ok (.arraylength, 1)) (ha : q_lay a = .inr (k, len)) (hk : k < 5) (hl0 : 0 < len) (hl1 : len < 2147483648) (hn : ph = true ∨ a < n)
    (K : Wp l G lw Y d ph Q (pc + 1) lv (.inl len :: st) m n bc bs) : Wp l G lw Y d ph Q pc lv (.inr (.inr a) :: st) m n bc bs := by
  intro p e s mm args below meth c H locs cells slots ls mc ms hC hL e1 e2 w1 w2 hl hR hS
  have ha1 := q_lay_arr ha hl0
  have han := q_vis hR ha1 hn
  show W _ _ _ _ _ _ _ _ _ _ _ _ _ _ _ (F0 mm pc ls (.ref (g_ad G a) :: st.map (g_val G)))
  rw [q_adb (by omega)]
  have he : (g_ws G m n)[a]? = some (g_b G + a, .inl (g_A G k, len, g_con G k (m a))) := by
    rw [g_ws_get han, ha]
    rfl
  obtain ⟨ty, hty⟩ : ∃ ty, (q_tys G)[k]? = some (g_A G k, ty) := by
    match k, hk with
    | 0, _ => exact ⟨_, rfl⟩
    | 1, _ => exact ⟨_, rfl⟩
    | 2, _ => exact ⟨_, rfl⟩
    | 3, _ => exact ⟨_, rfl⟩
    | 4, _ => exact ⟨_, rfl⟩
  refine va_alen hC.1 hC.2.1 hC.2.2.2.2.2.1.1 hR.1 a k he hty (v := Int32.ofInt len) (Int32.ofInt_eq_ofNat.symm) hd ?_
  exact K p e s mm args below meth c H locs cells slots ls mc ms hC hL e1 e2 w1 (wf_cons (v := .inl (len : Int)) (by show inR (len : Int); omega) (wf_tl w2)) hl hR hS
/-- the law's script -/
theorem Wp.sald {i : Int} (hd : decode Y.2.1 pc = .ok (.iaload, 1)) (h0 : 0 ≤ i) (h1 : i < g_L G)
    (K : Wp l G true Y d ph Q (pc + 1) lv (.inl (g_x G i.toNat) :: st) m n bc bs) : Wp l G true Y d ph Q pc lv (.inl i :: .inr (.inr 1000) :: st) m n bc bs := by
  intro p e s mm args below meth c H locs cells slots ls mc ms hC hL e1 e2 w1 w2 hl hR hS
  obtain ⟨⟨hX, hb, hz, ha, hL9, hx⟩, -, -⟩ := hL rfl
  have hri : inR i := wf_hd w2
  show W _ _ _ _ _ _ _ _ _ _ _ _ _ _ _ (F0 mm pc ls (.int (Int32.ofInt i) :: .ref (g_ad G 1000) :: st.map (g_val G)))
  rw [show g_ad G 1000 = g_s G from rfl]
  refine va_sld hC.1 hC.2.1 hX hb (by show ¬ g_b G ≤ g_s G; omega) hS (q_vin h0 h1 hri) hd ?_
  rw [toN hri]
  exact K p e s mm args below meth c H locs cells slots ls mc ms hC hL e1 e2 w1 (wf_cons (v := .inl (g_x G i.toNat)) (hx _) (wf_tl (wf_tl w2))) hl hR hS
theorem Wp.slen (hd : decode Y.2.1 pc = .ok (.arraylength, 1))
    (K : g_L G ≤ 3072 → Wp l G true Y d ph Q (pc + 1) lv (.inl (g_L G) :: st) m n bc bs) : Wp l G true Y d ph Q pc lv (.inr (.inr 1000) :: st) m n bc bs := by
  intro p e s mm args below meth c H locs cells slots ls mc ms hC hL e1 e2 w1 w2 hl hR hS
  obtain ⟨⟨hX, hb, hz, ha, hL9, hx⟩, -, -⟩ := hL rfl
  show W _ _ _ _ _ _ _ _ _ _ _ _ _ _ _ (F0 mm pc ls (.ref (g_ad G 1000) :: st.map (g_val G)))
  rw [show g_ad G 1000 = g_s G from rfl]
  refine va_slen hC.1 hC.2.1 hX hb (by show ¬ g_b G ≤ g_s G; omega) hS hd ?_
  have := K hL9 p e s mm args below meth c H locs cells slots ls mc ms hC hL e1 e2 w1 (wf_cons (v := .inl (g_L G : Int)) (by show inR (g_L G : Int); omega) (wf_tl w2)) hl hR hS
  rw [← Int32.ofInt_eq_ofNat]
  exact this
end Steps5
