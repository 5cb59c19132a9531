/-! texts: constants of the class's reader -/
def GVok (G : GT) : Prop := g_K G 2 = g_V G 0 ∧ g_K G 3 = g_V G 1
section Texts
variable {l : Launch} {G : GT} {lw : Bool} {Y : YD} {d : Nat} {ph : Bool} {Q : Option MV → MM → Nat → Prop} {pc : Nat} {lv : List (Nat × MV)} {st : List MV} {m : MM} {n bc bs : Nat}
theorem adK {i : Nat} : g_ad G (1001 + i) = g_K G i := by
  unfold g_ad
  rw [if_neg (by omega), if_neg (by omega), show 1001 + i - 1001 = i by omega]
theorem adV (hG : GVok G) {i : Nat} (hi : i < 2) : g_ad G (1003 + i) = g_V G i := by
  have : i = 0 ∨ i = 1 := by omega
  rcases this with rfl | rfl
  · exact hG.1
  · exact hG.2
theorem wl_value : Cond.fieldLink "java/lang/String" 9 "java/lang/String" "value" "[B" ∈ q_W := q_Wt 1965 (by decide +kernel) rfl
theorem wl_coder : Cond.fieldLink "java/lang/String" 15 "java/lang/String" "coder" "B" ∈ q_W := q_Wt 1966 (by decide +kernel) rfl
theorem wl_compact : Cond.fieldLink "java/lang/String" 38 "java/lang/String" "COMPACT_STRINGS" "Z" ∈ q_W := q_Wt 51 (by decide +kernel) rfl
/-- a constant -/
theorem Wp.ldcT {i idx : Nat} (hd : decode Y.2.1 pc = .ok (.ldc idx, 2)) (hY : Y.1.cls = "SandPlates$Tokens") (hi : (i = 0 ∧ idx = 17) ∨ (i = 1 ∧ idx = 69))
    (K : Wp l G lw Y d ph Q (pc + 2) lv (.inr (.inr (1001 + i)) :: st) m n bc bs) : Wp l G lw Y d ph Q pc lv st m n bc bs := by
  intro p e s mm args below meth c H locs cells slots ls mc ms hC hL e1 e2 w1 w2 hl hR hS
  have hX := hC.2.2.2.2.2.1.2.2.1
  have hK := K p e s mm args below meth c H locs cells slots ls mc ms hC hL e1 e2 w1 (wf_cons (v := .inr (.inr (1001 + i))) trivial w2) hl hR hS
  have hK : W p l e (q_room lw d mc ms) s mm args below meth c H locs cells slots (q_Z lw G ph Q below args s mc ms) (F0 mm (pc + 2) ls (.ref (g_ad G (1001 + i)) :: st.map (g_val G))) := hK
  rw [adK] at hK
  have hown : s.vm.findClass "SandPlates$Tokens" = some mm.cls := by rw [← hY]; exact hC.2.2.2.1
  rcases hi with ⟨rfl, rfl⟩ | ⟨rfl, rfl⟩
  · exact va_ldcS hC.1 hC.2.1 hown hX.1 hd hK
  · exact va_ldcS hC.1 hC.2.1 hown hX.2 hd hK
/-- a call on a text -/
theorem Wp.callT {Y2 : YD} {np idx i d2 bc1 bs1 : Nat} {Q1 : Option MV → MM → Nat → Prop} (av : List MV) (hd : decode Y.2.1 pc = .ok (.invokevirtual idx, 3)) (hM : q_MV Y2 np) (hl : Cond.methodLink Y.1.cls idx Y2.1 ∈ q_W) (ho : q_Ok l G ph Y2 d2 (.inr (.inr (1001 + i)) :: av) m n bc1 bs1 Q1)
    (hnp : av.length = np) (hi : i < 2) (hcl : Y2.1.cls = "java/lang/String") (hd2 : d2 < d) (hlw : lw = true → d ≤ 400) (hst : (st.map q_cat).sum ≤ 8) (hb1 : bc1 ≤ bc) (hb2 : bs1 ≤ bs)
    (K : ∀ (r : Option MV) (m1 : MM) (n1 : Nat), Q1 r m1 n1 → Wp l G lw Y d ph Q (pc + 3) lv (r.toList ++ st) m1 n1 (bc - bc1) (bs - bs1)) : Wp l G lw Y d ph Q pc lv (av.reverse ++ .inr (.inr (1001 + i)) :: st) m n bc bs := by
  intro p e s mm args below meth cc H locs cells slots ls mc ms hC hLw e1 e2 w1 w2 hl1 hR hS
  obtain ⟨hf, hin, hsel⟩ := hM
  have hts := hC.2.2.2.2.1
  obtain ⟨w3, w4⟩ := wf_app w2
  have hrc := q_roomC (d := d) (fun h => (hLw h).2)
  have hrecv := vk_recv hC.2.2.2.2.2.2.1.1 hi hS
  rw [← hcl] at hrecv
  have hstk : (av.reverse ++ .inr (.inr (1001 + i)) :: st).map (g_val G) = (av.map (g_val G)).reverse ++ .ref (g_K G i) :: st.map (g_val G) := by
    rw [List.map_append, List.map_reverse]
    show _ ++ Value.ref (g_ad G (1001 + i)) :: _ = _
    rw [adK]
  rw [hstk]
  have hwa : ∀ v ∈ (.inr (.inr (1001 + i)) :: av : List MV), wfV v := fun v hv => by
    rcases List.mem_cons.mp hv with rfl | h
    · trivial
    · exact w3 v (List.mem_reverse.mpr h)
  have hpre : ∀ U : State, U.heap = H → s.WarmedH U.vm → q_Pc G ph (.inr (.inr (1001 + i)) :: av) m n (Value.ref (g_K G i) :: av.map (g_val G)).toArray U := fun U hU hW => by
    have := q_pre (av := .inr (.inr (1001 + i)) :: av) hR hC.2.2.2.2.2.1 hC.2.2.2.2.2.2.1 hS hwa hU hW
    rw [List.map_cons] at this
    rw [show g_val G (.inr (.inr (1001 + i))) = .ref (g_K G i) from congrArg Value.ref adK] at this
    exact this
  refine q_call (va_runV (As := av.map (g_val G)) (rest := st.map (g_val G)) ⟨hC.1, hC.2.1, hC.2.2.1, hC.2.2.2.1, hts⟩ ho
    ⟨callB_of np hts (q_good hf) rfl rfl rfl (hts _ hf.2.1) (hts _ hl) ⟨hf.2.2.1.1, hf.2.2.1.2, hf.2.2.2.1⟩ (q_roomF hd2 hlw hf.2.2.2.2.1 _ _), hts _ hin, hts _ hsel⟩
    ⟨q_Pc_blind, hrecv, hpre⟩ rfl (by rw [List.length_map]; exact hnp) hl1.1 rfl (lv_room (by rw [q_sum]; exact hst)) hd (by rw [hrc.1, hrc.2]; omega)) hS (fun r m1 n1 H1 locs1 q1 q2 q3 q4 => ?_)
  rw [q_res]
  exact K r m1 n1 q1 p e s mm args below meth cc H1 locs1 (cells + bc1) (slots + bs1) ls mc ms hC hLw (by omega) (by omega) w1 (wf_res q2 (wf_tl w4)) hl1 q3 q4
theorem Wq.TI {Y2 : YD} {np idx i d2 : Nat} {P : Int → MM → Prop} {Q : Option MV → MM → Nat → Prop} (av : List MV) (hd : decode Y.2.1 pc = .ok (.invokevirtual idx, 3)) (hM : q_MV Y2 np) (hl : Cond.methodLink Y.1.cls idx Y2.1 ∈ q_W) (hnp : av.length = np) (hi : i < 2) (hcl : Y2.1.cls = "java/lang/String") (hlw : lw = true → d ≤ 400) (hst : (st.map q_cat).sum ≤ 8)
    (hd2 : d2 < d) (ho : CI l G Y2 d2 (.inr (.inr (1001 + i)) :: av) m P) (K : ∀ (z : Int) (m1 : MM), P z m1 → inR z → wfM m1 → Wq l G lw Y d Q (pc + 3) lv (.inl z :: st) m1) : Wq l G lw Y d Q pc lv (av.reverse ++ .inr (.inr (1001 + i)) :: st) m :=
  Wp.callT av hd hM hl ho hnp hi hcl hd2 hlw hst (Nat.le_refl 0) (Nat.le_refl 0) (fun r m1 n1 h => by
    obtain ⟨z, rfl, rfl, h⟩ := h
    exact Wp.wf (fun hw _ _ w => K z m1 h (wf_hd w) hw))
/-- its fields -/
theorem Wp.getTc {i : Nat} (hd : decode Y.2.1 pc = .ok (.getfield 15, 3)) (hY : Y.1.cls = "java/lang/String") (hi : i < 2) (K : Wp l G lw Y d ph Q (pc + 3) lv (.inl 0 :: st) m n bc bs) : Wp l G lw Y d ph Q pc lv (.inr (.inr (1001 + i)) :: st) m n bc bs := by
  intro p e s mm args below meth c H locs cells slots ls mc ms hC hL e1 e2 w1 w2 hl hR hS
  have hE := (hC.2.2.2.2.2.2.1.1.1 i hi).2.1
  have hK := K p e s mm args below meth c H locs cells slots ls mc ms hC hL e1 e2 w1 (wf_cons (v := .inl 0) (by show inR 0; decide) (wf_tl w2)) hl hR hS
  have hown : s.vm.findClass "java/lang/String" = some mm.cls := by rw [← hY]; exact hC.2.2.2.1
  show W _ _ _ _ _ _ _ _ _ _ _ _ _ _ _ (F0 mm pc ls (.ref (g_ad G (1001 + i)) :: st.map (g_val G)))
  rw [adK]
  exact vk_getf hC.1 hC.2.1 hE hS hown (hC.2.2.2.2.1 _ wl_coder) (fun x hx => hx) hd hK
theorem Wp.getTv {i : Nat} (hG : GVok G) (hd : decode Y.2.1 pc = .ok (.getfield 9, 3)) (hY : Y.1.cls = "java/lang/String") (hi : i < 2) (K : Wp l G lw Y d ph Q (pc + 3) lv (.inr (.inr (1003 + i)) :: st) m n bc bs) : Wp l G lw Y d ph Q pc lv (.inr (.inr (1001 + i)) :: st) m n bc bs := by
  intro p e s mm args below meth c H locs cells slots ls mc ms hC hL e1 e2 w1 w2 hl hR hS
  have hE := (hC.2.2.2.2.2.2.1.1.1 i hi).2.2.1
  have hK := K p e s mm args below meth c H locs cells slots ls mc ms hC hL e1 e2 w1 (wf_cons (v := .inr (.inr (1003 + i))) trivial (wf_tl w2)) hl hR hS
  have hK : W p l e (q_room lw d mc ms) s mm args below meth c H locs cells slots (q_Z lw G ph Q below args s mc ms) (F0 mm (pc + 3) ls (.ref (g_ad G (1003 + i)) :: st.map (g_val G))) := hK
  rw [adV hG hi] at hK
  have hown : s.vm.findClass "java/lang/String" = some mm.cls := by rw [← hY]; exact hC.2.2.2.1
  show W _ _ _ _ _ _ _ _ _ _ _ _ _ _ _ (F0 mm pc ls (.ref (g_ad G (1001 + i)) :: st.map (g_val G)))
  rw [adK]
  exact vk_getf hC.1 hC.2.1 hE hS hown (hC.2.2.2.2.1 _ wl_value) (fun x hx => hx) hd hK
theorem Wp.gets1 (hd : decode Y.2.1 pc = .ok (.getstatic 38, 3)) (hY : Y.1.cls = "java/lang/String") (K : Wp l G lw Y d ph Q (pc + 3) lv (.inl 1 :: st) m n bc bs) : Wp l G lw Y d ph Q pc lv st m n bc bs := by
  intro p e s mm args below meth c H locs cells slots ls mc ms hC hL e1 e2 w1 w2 hl hR hS
  have hE := hC.2.2.2.2.2.2.1.2.1
  have hK := K p e s mm args below meth c H locs cells slots ls mc ms hC hL e1 e2 w1 (wf_cons (v := .inl 1) (by show inR 1; decide) w2) hl hR hS
  have hown : s.vm.findClass "java/lang/String" = some mm.cls := by rw [← hY]; exact hC.2.2.2.1
  exact va_gets hC.1 hC.2.1 hE hS hown (hC.2.2.2.2.1 _ wl_compact) (fun x hx => hx) hd hK
/-- the letters of a text -/
def tB (i : Nat) (j : Int) : Int := ((q_byt.getD i []).getD j.toNat 0).toInt
theorem Wp.tlen {i : Nat} (hG : GVok G) (hd : decode Y.2.1 pc = .ok (.arraylength, 1)) (hi : i < 2) (K : Wp l G lw Y d ph Q (pc + 1) lv (.inl ((q_len.getD i 0 : Nat) : Int) :: st) m n bc bs) : Wp l G lw Y d ph Q pc lv (.inr (.inr (1003 + i)) :: st) m n bc bs := by
  intro p e s mm args below meth c H locs cells slots ls mc ms hC hL e1 e2 w1 w2 hl hR hS
  have hE := (hC.2.2.2.2.2.2.1.1.1 i hi).2.2.2
  have hr : inR ((q_len.getD i 0 : Nat) : Int) := by
    have : i = 0 ∨ i = 1 := by omega
    rcases this with rfl | rfl <;> decide
  have hK := K p e s mm args below meth c H locs cells slots ls mc ms hC hL e1 e2 w1 (wf_cons (v := .inl ((q_len.getD i 0 : Nat) : Int)) hr (wf_tl w2)) hl hR hS
  show W _ _ _ _ _ _ _ _ _ _ _ _ _ _ _ (F0 mm pc ls (.ref (g_ad G (1003 + i)) :: st.map (g_val G)))
  rw [adV hG hi]
  exact va_tlen hC.1 hC.2.1 hE hS (v := Int32.ofInt ((q_len.getD i 0 : Nat) : Int)) (Int32.ofInt_eq_ofNat.symm) hd hK
theorem Wp.tald {i : Nat} {j : Int} (hG : GVok G) (hd : decode Y.2.1 pc = .ok (.baload, 1)) (hi : i < 2) (h0 : 0 ≤ j) (h1 : j < ((q_len.getD i 0 : Nat) : Int)) (K : Wp l G lw Y d ph Q (pc + 1) lv (.inl (tB i j) :: st) m n bc bs) : Wp l G lw Y d ph Q pc lv (.inl j :: .inr (.inr (1003 + i)) :: st) m n bc bs := by
  intro p e s mm args below meth c H locs cells slots ls mc ms hC hL e1 e2 w1 w2 hl hR hS
  have hE := (hC.2.2.2.2.2.2.1.1.1 i hi).2.2.2
  have hri : inR j := wf_hd w2
  have hK := K p e s mm args below meth c H locs cells slots ls mc ms hC hL e1 e2 w1 (wf_cons (v := .inl (tB i j)) (inR_toInt _) (wf_tl (wf_tl w2))) hl hR hS
  show W _ _ _ _ _ _ _ _ _ _ _ _ _ _ _ (F0 mm pc ls (.int (Int32.ofInt j) :: .ref (g_ad G (1003 + i)) :: st.map (g_val G)))
  rw [adV hG hi]
  refine va_tb hC.1 hC.2.1 hE hS (q_vin h0 h1 hri) (v := .int (Int32.ofInt (tB i j))) ?_ hd hK
  rw [toN hri]
  show Value.int ((q_byt.getD i []).getD j.toNat 0) = Value.int (Int32.ofInt ((q_byt.getD i []).getD j.toNat 0).toInt)
  rw [Int32.ofInt_toInt]
/-- a byte given back: nought -/
theorem Wq.bret0 {P : Int → MM → Prop} (hd : decode Y.2.1 pc = .ok (.ireturn, 1)) (hr : Y.2.2.2 = some .byte) (hq : P 0 m) : Wq l G false Y d (QI P) pc lv [.inl 0] m := by
  intro p e s mm args below meth c H locs cells slots ls mc ms hC hLw e1 e2 w1 w2 hl hR hS
  refine W.widen (k := mc) (n := ms) (by omega) (by omega) ?_
  exact W.zret (ty := .byte) hC.1 hC.2.1 (hC.2.2.2.2.2.2.2.2.1.trans hr) (by decide) (fun t ht _ => q_end (Q := QI P) (r := some (.inl 0)) ⟨0, rfl, rfl, hq⟩ (fun v hv => by cases hv; exact wf_hd w2) hR hS ht) hS.2.2 hd hC.2.2.2.2.2.2.2.1
end Texts
section Texts1
variable {l : Launch} {G : GT} {lw : Bool} {Y : YD} {d : Nat} {ph : Bool} {Q : Option MV → MM → Nat → Prop} {pc : Nat} {lv : List (Nat × MV)} {st : List MV} {m : MM} {n bc bs : Nat}
theorem Wp.tlen1 (hG : GVok G) (hd : decode Y.2.1 pc = .ok (.arraylength, 1)) (K : Wp l G lw Y d ph Q (pc + 1) lv (.inl 11 :: st) m n bc bs) : Wp l G lw Y d ph Q pc lv (.inr (.inr (1003 + 1)) :: st) m n bc bs := Wp.tlen (i := 1) hG hd (by decide) K
theorem Wp.tald1 {j : Int} (hG : GVok G) (hd : decode Y.2.1 pc = .ok (.baload, 1)) (h0 : 0 ≤ j) (h1 : j < 11) (K : Wp l G lw Y d ph Q (pc + 1) lv (.inl (tB 1 j) :: st) m n bc bs) : Wp l G lw Y d ph Q pc lv (.inl j :: .inr (.inr (1003 + 1)) :: st) m n bc bs := Wp.tald (i := 1) hG hd (by decide) h0 h1 K
end Texts1
