section Ctor3
variable {l : Launch} {G : GT} {lw : Bool} {Y : YD} {d : Nat} {Q : Option MV → MM → Nat → Prop} {pc : Nat} {lv : List (Nat × MV)} {st : List MV} {m : MM} {n bc bs : Nat}
/-- a new row, while things are made -/
theorem Wp.newa1 {atype : ArrayType} {ty : FieldType} {k : Nat} (len : Nat) (hd : decode Y.2.1 pc = .ok (.newarray atype, 2)) (hty : newarray.typeOf atype = ty) (hac : Cond.arrayClass ty ∈ q_W) (htk : (q_tys G)[k]? = some (g_A G k, ty)) (hra : ∀ (U : State) (cA : ClassId), va_RA U cA ty → U.vm.findClass ("[" ++ ty.toString) = some cA) (hcell : ∀ cA : ClassId, vp_cell cA (len, g_con G k (fun _ => 0)) = arrV cA len (fun _ => defaultValue ty)) (hk4 : k ≠ 4) (hlen : len < 10000) (hby : componentBytes ty ≤ 8) (hL : q_lay n = .inr (k, len)) (hn : n < 111) (h1 : 1 ≤ bc) (h2 : len ≤ bs)
    (K : Wp l G lw Y d false Q (pc + 2) lv (.inr (.inr n) :: st) (upO m n (fun _ => 0)) (n + 1) (bc - 1) (bs - len)) : Wp l G lw Y d false Q pc lv (.inl len :: st) m n bc bs := by
  intro p e s mm args below meth cc H locs cells slots ls mc ms hC hLw e1 e2 w1 w2 hl hR hS
  have hts := hC.2.2.2.2.1
  have hrc := q_roomC (d := d) (fun h => (hLw h).2)
  have hsz := hR.2.2.2 rfl
  have hlr : inR (len : Int) := wf_hd w2
  subst hty
  refine va_newaK (N := len) hC.1 hC.2.1 (hts _ hac) rfl hd rfl (fun h => absurd ((ltI0 hlr).mp h) (by omega)) (by rw [toN hlr]; omega) (Nat.le_trans (Nat.mul_le_mul_left len hby) (by omega)) (by rw [hrc.1]; omega) (by rw [hrc.2]; omega) hsz (fun H1 cA g1 z1 o1 hAr hNm => ?_)
  have hcA : cA = g_A G k := by
    have := hra s _ (hC.2.2.2.2.2.1.1.2 k _ htk).2
    rw [hNm] at this
    exact Option.some.inj this
  subst hcA
  have hk : ∀ (k : Nat) (x : Nat × va_E), (g_ws G m n)[k]? = some x → H1[x.1]? = H[x.1]? := fun k x hx => o1 x.1 (by have := (hR.1 k x hx).lt; omega)
  have hP1 : va_P (g_D G) q_cls (g_ws G m n ++ [(g_b G + n, .inl (g_A G k, len, g_con G k (fun _ => 0)))]) H1 := (hR.1.kept hk).app (fun k9 x hx => by
    have hz : k9 < 1 := (List.getElem?_eq_some_iff.mp hx).1
    rw [show k9 = 0 by omega] at hx
    cases hx
    show H1[g_b G + n]? = some (vp_cell _ _)
    rw [hcell]
    exact g1)
  have hws : g_ws G m n ++ [(g_b G + n, .inl (g_A G k, len, g_con G k (fun _ => 0)))] = g_ws G (upO m n (fun _ => 0)) (n + 1) := by
    rw [← g_ws_push, g_ws_same (m := m) (m' := upO m n (fun _ => 0)) (fun b hb => by simp only [upO, if_neg (show ¬ b = n by omega)]), hL]
    simp only [upO, if_pos]
    rfl
  rw [hws] at hP1
  have := K p e s mm args below meth cc H1 locs (cells + 1) (slots + len) ls mc ms hC hLw (by omega) (by omega) w1 (wf_cons (v := .inr (.inr n)) trivial (wf_tl w2)) hl ⟨hP1, wfM_upO hR.2.1 (fun i => Rg0 _), (fun h => by cases h), fun _ => by omega⟩ ⟨Nat.le_trans hS.1 (by omega), fun x h1 h2 => (o1 x (by have := hS.1; omega)).trans (hS.2.1 x h1 h2), hS.2.2⟩
  rw [show (List.map (g_val G) (.inr (.inr n) :: st)) = .ref (g_b G + n) :: List.map (g_val G) st from congrArg (fun q => Value.ref q :: List.map (g_val G) st) (q_adb (by omega))] at this
  exact this
theorem Wp.newI (len : Nat) (hd : decode Y.2.1 pc = .ok (.newarray .int, 2)) (hlen : len < 10000) (hL : q_lay n = .inr (0, len)) (hn : n < 111) (h1 : 1 ≤ bc) (h2 : len ≤ bs)
    (K : Wp l G lw Y d false Q (pc + 2) lv (.inr (.inr n) :: st) (upO m n (fun _ => 0)) (n + 1) (bc - 1) (bs - len)) : Wp l G lw Y d false Q pc lv (.inl len :: st) m n bc bs :=
  Wp.newa1 (k := 0) len hd rfl ac_int rfl (fun _ _ h => h) (fun cA => vp_cell_i ..) (by decide) hlen (by decide) hL hn h1 h2 K
theorem Wp.newJ (len : Nat) (hd : decode Y.2.1 pc = .ok (.newarray .long, 2)) (hlen : len < 10000) (hL : q_lay n = .inr (1, len)) (hn : n < 111) (h1 : 1 ≤ bc) (h2 : len ≤ bs)
    (K : Wp l G lw Y d false Q (pc + 2) lv (.inr (.inr n) :: st) (upO m n (fun _ => 0)) (n + 1) (bc - 1) (bs - len)) : Wp l G lw Y d false Q pc lv (.inl len :: st) m n bc bs :=
  Wp.newa1 (k := 1) len hd rfl ac_long rfl (fun _ _ h => h) (fun cA => vp_cell_l ..) (by decide) hlen (by decide) hL hn h1 h2 K
theorem Wp.newZ (len : Nat) (hd : decode Y.2.1 pc = .ok (.newarray .boolean, 2)) (hlen : len < 10000) (hL : q_lay n = .inr (2, len)) (hn : n < 111) (h1 : 1 ≤ bc) (h2 : len ≤ bs)
    (K : Wp l G lw Y d false Q (pc + 2) lv (.inr (.inr n) :: st) (upO m n (fun _ => 0)) (n + 1) (bc - 1) (bs - len)) : Wp l G lw Y d false Q pc lv (.inl len :: st) m n bc bs :=
  Wp.newa1 (k := 2) len hd rfl ac_boolean rfl (fun _ _ h => h) (fun cA => vp_cell_i ..) (by decide) hlen (by decide) hL hn h1 h2 K
theorem Wp.newB (len : Nat) (hd : decode Y.2.1 pc = .ok (.newarray .byte, 2)) (hlen : len < 10000) (hL : q_lay n = .inr (3, len)) (hn : n < 111) (h1 : 1 ≤ bc) (h2 : len ≤ bs)
    (K : Wp l G lw Y d false Q (pc + 2) lv (.inr (.inr n) :: st) (upO m n (fun _ => 0)) (n + 1) (bc - 1) (bs - len)) : Wp l G lw Y d false Q pc lv (.inl len :: st) m n bc bs :=
  Wp.newa1 (k := 3) len hd rfl ac_byte rfl (fun _ _ h => h) (fun cA => vp_cell_i ..) (by decide) hlen (by decide) hL hn h1 h2 K
/-- a constructor is called -/
theorem Wp.callI {Y2 : YD} {idx a d2 bc1 bs1 : Nat} {ph : Bool} {Q1 : Option MV → MM → Nat → Prop} (hd : decode Y.2.1 pc = .ok (.invokespecial idx, 3)) (hM : q_MI Y2 0) (hret : Y2.2.2.2 = none) (hl : Cond.methodLink Y.1.cls idx Y2.1 ∈ q_W ∨ Cond.methodLinkNest Y.1.cls idx Y2.1 "SandPlates" ∈ q_nest) (ho : q_Ok l G ph Y2 d2 [.inr (.inr a)] m n bc1 bs1 Q1) (ha : a < 1000)
    (hd2 : d2 < d) (hlw : lw = true → d ≤ 400) (hst : (st.map q_cat).sum ≤ 8) (hb1 : bc1 ≤ bc) (hb2 : bs1 ≤ bs)
    (K : ∀ (r : Option MV) (m1 : MM) (n1 : Nat), Q1 r m1 n1 → Wp l G lw Y d ph Q (pc + 3) lv (r.toList ++ st) m1 n1 (bc - bc1) (bs - bs1)) : Wp l G lw Y d ph Q pc lv (.inr (.inr a) :: st) m n bc bs := by
  intro p e s mm args below meth cc H locs cells slots ls mc ms hC hLw e1 e2 w1 w2 hl1 hR hS
  obtain ⟨hf, hin, hnm⟩ := hM
  have hts := hC.2.2.2.2.1
  have hrc := q_roomC (d := d) (fun h => (hLw h).2)
  have hf2 := hf
  unfold q_Ok at ho
  rw [hret] at ho
  have hcw : Cond.code Y2.1 Y2.2.1 Y2.2.2.1 none ∈ q_W := by have := hf.1; rw [hret] at this; exact this
  have hgood : GoodIn q_W (Cond.code Y2.1 Y2.2.1 Y2.2.2.1 none :: q_W) := fun w hw => by
    rcases List.mem_cons.mp hw with rfl | h
    · exact q_WW _ hcw
    · exact q_WW _ h
  have hpre : ∀ U : State, U.heap = H → s.WarmedH U.vm → q_Pc G ph [.inr (.inr a)] m n (Value.ref (g_ad G a) :: ([] : List Value)).toArray U := fun U hU hW =>
    q_pre (av := [.inr (.inr a)]) hR hC.2.2.2.2.2.1 hC.2.2.2.2.2.2.1 hS (fun v hv => by rw [List.mem_singleton.mp hv]; trivial) hU hW
  have hfin : ∀ (r : Option MV) (m1 : MM) (n1 : Nat) (H1 : Heap) (locs1 : List Loc), Q1 r m1 n1 → (∀ v ∈ r, wfV v) → q_R G ph m1 n1 H1 → va_S (q_A G) s.heap H1 locs1 → W p l e (q_room lw d mc ms) s mm args below meth cc H1 locs1 (cells + bc1) (slots + bs1) (q_Z lw G ph Q below args s mc ms) (F0 mm (pc + 3) ls ((r.map (g_val G)).toList ++ st.map (g_val G))) := fun r m1 n1 H1 locs1 q1 q2 q3 q4 => by
    rw [q_res]
    exact K r m1 n1 q1 p e s mm args below meth cc H1 locs1 (cells + bc1) (slots + bs1) ls mc ms hC hLw (by omega) (by omega) w1 (wf_res q2 (wf_tl w2)) hl1 q3 q4
  rcases hl with hl | hl
  · exact q_call (va_runI (As := []) (rest := st.map (g_val G)) ⟨hC.1, hC.2.1, hC.2.2.1, hC.2.2.2.1, hts⟩ ho
      ⟨callB_of 0 hts hgood rfl rfl rfl (hts _ hf.2.1) (hts _ hl) ⟨hf.2.2.1.1, hf.2.2.1.2, hf.2.2.2.1⟩ (q_roomF hd2 hlw hf.2.2.2.2.1 _ _), hnm, hts _ hin⟩
      ⟨q_Pc_blind, hpre⟩ rfl rfl hl1.1 rfl (lv_room (by rw [q_sum]; exact hst)) hd (by rw [hrc.1, hrc.2]; omega)) hS hfin
  · exact q_call (va_runIN (As := []) (rest := st.map (g_val G)) ⟨hC.1, hC.2.1, hC.2.2.1, hC.2.2.2.1, hts⟩ ho
      ⟨va_cnB 0 hts hgood rfl rfl rfl (hC.2.2.2.2.2.1.2.1 _ hl) (hts _ hf.2.1) ⟨hf.2.2.1.1, hf.2.2.1.2, hf.2.2.2.1⟩ (q_roomF hd2 hlw hf.2.2.2.2.1 _ _), hnm, hts _ hin⟩
      ⟨q_Pc_blind, hpre⟩ rfl rfl hl1.1 rfl (lv_room (by rw [q_sum]; exact hst)) hd (by rw [hrc.1, hrc.2]; omega)) hS hfin
end Ctor3
