def q_Pc (G : GT) (ph : Bool) (av : List MV) (m : MM) (n : Nat) : Array Value → State → Prop := fun a U => a = (av.map (g_val G)).toArray ∧ q_R G ph m n U.heap ∧ q_X G U ∧ q_Y G U U.heap ∧ ∀ v ∈ av, wfV v
/-- a method's contract: from this memory, with these arguments, it comes to an end with Q; it makes so many cells, so many places -/
def q_Ok (l : Launch) (G : GT) (ph : Bool) (Y : YD) (d : Nat) (av : List MV) (m : MM) (n bc bs : Nat) (Q : Option MV → MM → Nat → Prop) : Prop :=
  Met l Y.1 (Cond.code Y.1 Y.2.1 Y.2.2.1 Y.2.2.2 :: q_W) (q_rm d bc bs) (q_Pc G ph av m n) (q_Qc G ph Q) bc bs (q_A G)
theorem q_Pc_blind {G : GT} {ph : Bool} {av : List MV} {m : MM} {n : Nat} : FrameBlind (q_Pc G ph av m n) := by
  intro a U g mk h
  exact ⟨h.1, h.2.1, q_X.same (u := U) rfl h.2.2.1, q_Y.moved (u := U) (Vm.Alike.refl U.vm) h.2.2.2.1, h.2.2.2.2⟩
def q_la : Nat → List MV → List (Nat × MV)
  | _, [] => []
  | i, v :: vs => (i, v) :: q_la (i + q_cat v) vs
theorem q_la_lv {G : GT} : ∀ (av : List MV) (i : Nat), q_lvl G (q_la i av) = lv_args i (av.map (g_val G))
  | [], _ => rfl
  | v :: vs, i => by
    show (i, g_val G v) :: q_lvl G (q_la (i + q_cat v) vs) = (i, g_val G v) :: lv_args (if (g_val G v).category = 2 then i + 2 else i + 1) (vs.map (g_val G))
    rw [q_la_lv vs, q_cat_val]
    rcases v with z | z | r <;> rfl
theorem q_la_wf : ∀ (av : List MV) (i : Nat), (∀ v ∈ av, wfV v) → ∀ q ∈ q_la i av, wfV q.2
  | [], _, _, q, hq => by cases hq
  | v :: vs, i, h, q, hq => by
    rcases List.mem_cons.mp hq with rfl | h1
    · exact h v List.mem_cons_self
    · exact q_la_wf vs _ (fun w hw => h w (List.mem_cons_of_mem _ hw)) q h1
theorem q_la_len {G : GT} : ∀ (av : List MV), (lg_sl (av.map (g_val G))).length = (av.map q_cat).sum
  | [] => rfl
  | v :: vs => by
    show ((if (g_val G v).category = 2 then [Slot.val (g_val G v), .second] else [.val (g_val G v)]) ++ lg_sl (vs.map (g_val G))).length = _
    rw [List.length_append, q_la_len vs, q_cat_val]
    rcases v with z | z | r <;> simp [q_cat]
section Calls9
variable {l : Launch} {G : GT} {lw : Bool} {Y : YD} {d : Nat} {ph : Bool} {Q : Option MV → MM → Nat → Prop} {pc pc' : Nat} {lv lv' : List (Nat × MV)} {st st' : List MV} {m : MM} {n bc bs : Nat}
theorem q_Ok.of {np : Nat} {av : List MV} (hf : q_fact Y np) (ha : (av.map q_cat).sum ≤ Y.2.2.1) (K : Wp l G false Y d ph Q 0 (q_la 0 av) [] m n bc bs) : q_Ok l G ph Y d av m n bc bs Q := by
  refine Met.ofW (cc := Y.2.1) (maxL := Y.2.2.1) (ret := Y.2.2.2) hf.2.2.2.2.2 rfl ?_
  intro p e s mm args below meth c s₁ B hml hv
  obtain ⟨rfl, hR, hX, hY, hw⟩ := hv
  have hts := atoms_spec (ws := Cond.code Y.1 Y.2.1 Y.2.2.1 Y.2.2.2 :: q_W) B.pre
  have hown : s.vm.findClass Y.1.cls = some mm.cls := findClass_of_methodNamed B.named
  have hl := lv_entry (av.map (g_val G)) (n := Y.2.2.1) (by rw [q_la_len]; exact ha)
  rw [lg_entry_eq]
  generalize (lg_sl (av.map (g_val G)) ++ List.replicate (Y.2.2.1 - (lg_sl (av.map (g_val G))).length) Slot.unset).toArray = ls at hl ⊢
  rw [← q_la_lv] at hl
  exact K p e s mm _ below meth c s.heap [] 0 0 ls bc bs ⟨B.exec, B.bytes, hml, hown, fun w hw => hts w (List.mem_cons_of_mem _ hw), hX, hY, B.notSynchronized, B.returns, (name_of_methodNamed B.named B.method).1⟩ (fun h => by cases h) (Nat.zero_add _) (Nat.zero_add _) (q_la_wf av 0 hw) (fun v h => by cases h) hl hR va_S.rf
/-- behind a call -/
theorem q_call {p : Program} {e : Env} {R : Room} {s : State} {mm : MethodId} {args : Array Value} {below : List Frame} {meth : Method} {c : Code} {H : Heap} {locs : List Loc} {cells slots mc ms : Nat} {Z : State → Prop} {ls : Array Slot} {st0 rest : List Value} {a : Array Value} {Q1 : Option MV → MM → Nat → Prop}
    (hr : va_Run p l e R s mm args below meth c H locs cells slots mc ms (F0 mm pc ls st0) rest (q_Qc G ph Q1 a) (q_A G)) (hS : va_S (q_A G) s.heap H locs)
    (kk : ∀ (r : Option MV) (m1 : MM) (n1 : Nat) (H1 : Heap) (locs1 : List Loc), Q1 r m1 n1 → (∀ v ∈ r, wfV v) → q_R G ph m1 n1 H1 → va_S (q_A G) s.heap H1 locs1 → W p l e R s mm args below meth c H1 locs1 (cells + mc) (slots + ms) Z (F0 mm (pc + 3) ls ((r.map (g_val G)).toList ++ rest))) : W p l e R s mm args below meth c H locs cells slots Z (F0 mm pc ls st0) := by
  intro T hT X
  obtain ⟨v, st₀, t, T', L, h0, X', hL, e1, e2, ⟨⟨r, m1, n1, hv, hq, hw, hR⟩, hz, hk⟩, stp⟩ := hr T hT X
  rw [h0] at hz hk
  have hv2 : v = r.map (g_val G) := by cases hv; rfl
  subst hv2
  obtain ⟨t2, a1, b1⟩ := kk r m1 n1 T'.heap (locs ++ L) hq hw (by rw [e1]; exact hR)
    ⟨Nat.le_trans hS.1 (by rw [e1]; exact hz), fun q h1 h2 => by rw [e1, hk q (Nat.lt_of_lt_of_le h1 hS.1) h2]; exact hS.2.1 q h1 h2, fun q hq => by
      rcases List.mem_append.mp hq with h | h
      · exact hS.2.2 q h
      · exact hL q h⟩ T' rfl X'
  exact ⟨t2, stp t2 a1, b1⟩
theorem q_roomC {mc ms : Nat} (h : lw = true → mc = 600000 ∧ ms = 7302250) : (q_room lw d mc ms).cells = mc ∧ (q_room lw d mc ms).slots = ms := by
  cases lw with
  | true => obtain ⟨rfl, rfl⟩ := h rfl; exact ⟨rfl, rfl⟩
  | false => exact ⟨rfl, rfl⟩
theorem q_roomF {mc ms d2 mL : Nat} (hd2 : d2 < d) (hlw : lw = true → d ≤ 400) (hm : mL ≤ 20) (bc1 bs1 : Nat) : (q_rm d2 bc1 bs1).frames + 1 ≤ (q_room lw d mc ms).frames ∧ 8 + (mL + 11) + (q_rm d2 bc1 bs1).locals ≤ (q_room lw d mc ms).locals := by
  cases lw with
  | true =>
    have := hlw rfl
    show d2 + 1 ≤ 2048 ∧ 8 + (mL + 11) + 200 * d2 ≤ 84000
    omega
  | false =>
    show d2 + 1 ≤ d ∧ 8 + (mL + 11) + 200 * d2 ≤ 200 * d
    omega
theorem q_good {Y2 : YD} {np : Nat} (hf : q_fact Y2 np) : GoodIn q_W (Cond.code Y2.1 Y2.2.1 Y2.2.2.1 Y2.2.2.2 :: q_W) := fun w hw => by
  rcases List.mem_cons.mp hw with rfl | h
  · exact q_WW _ hf.1
  · exact q_WW _ h
theorem q_pre {av : List MV} {H : Heap} {s U : State} {locs : List Loc} (hR : q_R G ph m n H) (hX : q_X G s) (hY : q_Y G s s.heap) (hS : va_S (q_A G) s.heap H locs) (hw : ∀ v ∈ av, wfV v) (hU : U.heap = H) (hW : s.WarmedH U.vm) : q_Pc G ph av m n (av.map (g_val G)).toArray U :=
  ⟨rfl, by rw [hU]; exact hR, hX.warm hW, by rw [hU]; exact (hY.kept hS.2.1).moved hW.alike, hw⟩
theorem wf_app {a b : List MV} (h : ∀ v ∈ a ++ b, wfV v) : (∀ v ∈ a, wfV v) ∧ ∀ v ∈ b, wfV v := ⟨fun v hv => h v (List.mem_append_left _ hv), fun v hv => h v (List.mem_append_right _ hv)⟩
theorem q_sum (st : List MV) : ((st.map (g_val G)).map fun v => v.category).sum = (st.map q_cat).sum := by
  rw [List.map_map]
  congr 1
  apply List.map_congr_left
  intro v _
  exact q_cat_val G v
theorem q_res {r : Option MV} {st : List MV} : (r.map (g_val G)).toList ++ st.map (g_val G) = (r.toList ++ st).map (g_val G) := by
  cases r <;> rfl
theorem wf_res {r : Option MV} {st : List MV} (h1 : ∀ v ∈ r, wfV v) (h2 : ∀ v ∈ st, wfV v) : ∀ v ∈ r.toList ++ st, wfV v := by
  intro v hv
  rcases List.mem_append.mp hv with h | h
  · exact h1 v (by simpa using h)
  · exact h2 v h
/-- invokevirtual -/
theorem Wp.callV {Y2 : YD} {np idx a c d2 bc1 bs1 : Nat} {Q1 : Option MV → MM → Nat → Prop} (av : List MV) (hd : decode Y.2.1 pc = .ok (.invokevirtual idx, 3)) (hM : q_MV Y2 np) (hl : Cond.methodLink Y.1.cls idx Y2.1 ∈ q_W) (ho : q_Ok l G ph Y2 d2 (.inr (.inr a) :: av) m n bc1 bs1 Q1)
    (hnp : av.length = np) (hL : q_lay a = .inl c) (hcl : (q_cls[c]?).map (fun q => q.1) = some Y2.1.cls) (hn : ph = true ∨ a < n) (hd2 : d2 < d) (hlw : lw = true → d ≤ 400) (hst : (st.map q_cat).sum ≤ 8) (hb1 : bc1 ≤ bc) (hb2 : bs1 ≤ bs)
    (K : ∀ (r : Option MV) (m1 : MM) (n1 : Nat), Q1 r m1 n1 → Wp l G lw Y d ph Q (pc + 3) lv (r.toList ++ st) m1 n1 (bc - bc1) (bs - bs1)) : Wp l G lw Y d ph Q pc lv (av.reverse ++ .inr (.inr a) :: st) m n bc bs := by
  intro p e s mm args below meth cc H locs cells slots ls mc ms hC hLw e1 e2 w1 w2 hl1 hR hS
  obtain ⟨hf, hin, hsel⟩ := hM
  have hts := hC.2.2.2.2.1
  have ha := q_lay_obj hL
  have han := q_vis hR ha hn
  obtain ⟨w3, w4⟩ := wf_app w2
  have hrc := q_roomC (d := d) (fun h => (hLw h).2)
  have he : (g_ws G m n)[a]? = some (g_b G + a, .inr (c, (List.range (q_nf c)).map fun k => g_fv G (q_ft c k) (m a k))) := by
    rw [g_ws_get han, hL]; rfl
  obtain ⟨q, hq, hq2⟩ := Option.map_eq_some_iff.mp hcl
  have hrecv := va_recv hC.2.2.2.2.2.1.1 hR.1 hq he
  rw [hq2] at hrecv
  have hstk : (av.reverse ++ .inr (.inr a) :: st).map (g_val G) = (av.map (g_val G)).reverse ++ .ref (g_b G + a) :: st.map (g_val G) := by
    rw [List.map_append, List.map_reverse]
    show _ ++ Value.ref (g_ad G a) :: _ = _
    rw [q_adb (by omega)]
  rw [hstk]
  have hwa : ∀ v ∈ (.inr (.inr a) :: av : List MV), wfV v := fun v hv => by
    rcases List.mem_cons.mp hv with rfl | h
    · trivial
    · exact w3 v (List.mem_reverse.mpr h)
  have hpre : ∀ U : State, U.heap = H → s.WarmedH U.vm → q_Pc G ph (.inr (.inr a) :: av) m n (Value.ref (g_b G + a) :: av.map (g_val G)).toArray U := fun U hU hW => by
    have := q_pre (av := .inr (.inr a) :: av) hR hC.2.2.2.2.2.1 hC.2.2.2.2.2.2.1 hS hwa hU hW
    rw [List.map_cons] at this
    rw [show g_val G (.inr (.inr a)) = .ref (g_b G + a) from congrArg Value.ref (q_adb (by omega))] at this
    exact this
  refine q_call (va_runV (As := av.map (g_val G)) (rest := st.map (g_val G)) ⟨hC.1, hC.2.1, hC.2.2.1, hC.2.2.2.1, hts⟩ ho
    ⟨callB_of np hts (q_good hf) rfl rfl rfl (hts _ hf.2.1) (hts _ hl) ⟨hf.2.2.1.1, hf.2.2.1.2, hf.2.2.2.1⟩ (q_roomF hd2 hlw hf.2.2.2.2.1 _ _), hts _ hin, hts _ hsel⟩
    ⟨q_Pc_blind, hrecv, hpre⟩ rfl (by rw [List.length_map]; exact hnp) hl1.1 rfl (lv_room (by rw [q_sum]; exact hst)) hd (by rw [hrc.1, hrc.2]; omega)) hS (fun r m1 n1 H1 locs1 q1 q2 q3 q4 => ?_)
  rw [q_res]
  exact K r m1 n1 q1 p e s mm args below meth cc H1 locs1 (cells + bc1) (slots + bs1) ls mc ms hC hLw (by omega) (by omega) w1 (wf_res q2 (wf_tl w4)) hl1 q3 q4
/-- invokestatic -/
theorem Wp.callS {Y2 : YD} {np idx d2 bc1 bs1 : Nat} {Q1 : Option MV → MM → Nat → Prop} (av : List MV) (hd : decode Y.2.1 pc = .ok (.invokestatic idx, 3)) (hM : q_MS Y2 np) (hl : Cond.methodLink Y.1.cls idx Y2.1 ∈ q_W) (ho : q_Ok l G ph Y2 d2 av m n bc1 bs1 Q1)
    (hnp : av.length = np) (hd2 : d2 < d) (hlw : lw = true → d ≤ 400) (hst : (st.map q_cat).sum ≤ 8) (hb1 : bc1 ≤ bc) (hb2 : bs1 ≤ bs)
    (K : ∀ (r : Option MV) (m1 : MM) (n1 : Nat), Q1 r m1 n1 → Wp l G lw Y d ph Q (pc + 3) lv (r.toList ++ st) m1 n1 (bc - bc1) (bs - bs1)) : Wp l G lw Y d ph Q pc lv (av.reverse ++ st) m n bc bs := by
  intro p e s mm args below meth cc H locs cells slots ls mc ms hC hLw e1 e2 w1 w2 hl1 hR hS
  obtain ⟨hf, hstt⟩ := hM
  have hts := hC.2.2.2.2.1
  obtain ⟨w3, w4⟩ := wf_app w2
  have hrc := q_roomC (d := d) (fun h => (hLw h).2)
  have hstk : (av.reverse ++ st).map (g_val G) = (av.map (g_val G)).reverse ++ st.map (g_val G) := by
    rw [List.map_append, List.map_reverse]
  rw [hstk]
  refine q_call (va_runS (As := av.map (g_val G)) (rest := st.map (g_val G)) ⟨hC.1, hC.2.1, hC.2.2.1, hC.2.2.2.1, hts⟩ ho
    ⟨callB_of np hts (q_good hf) rfl rfl rfl (hts _ hf.2.1) (hts _ hl) ⟨hf.2.2.1.1, hf.2.2.1.2, hf.2.2.2.1⟩ (q_roomF hd2 hlw hf.2.2.2.2.1 _ _), hts _ hstt⟩
    ⟨q_Pc_blind, fun U hU hW => q_pre hR hC.2.2.2.2.2.1 hC.2.2.2.2.2.2.1 hS (fun v hv => w3 v (List.mem_reverse.mpr hv)) hU hW⟩ rfl (by rw [List.length_map]; exact hnp) hl1.1 rfl (lv_room (by rw [q_sum]; exact hst)) hd (by rw [hrc.1, hrc.2]; omega)) hS (fun r m1 n1 H1 locs1 q1 q2 q3 q4 => ?_)
  rw [q_res]
  exact K r m1 n1 q1 p e s mm args below meth cc H1 locs1 (cells + bc1) (slots + bs1) ls mc ms hC hLw (by omega) (by omega) w1 (wf_res q2 w4) hl1 q3 q4
/-- invokestatic of a nest mate's -/
theorem Wp.callSN {Y2 : YD} {np idx d2 bc1 bs1 : Nat} {Q1 : Option MV → MM → Nat → Prop} (av : List MV) (hd : decode Y.2.1 pc = .ok (.invokestatic idx, 3)) (hM : q_MS Y2 np) (hl : Cond.methodLinkNest Y.1.cls idx Y2.1 "SandPlates" ∈ q_nest) (ho : q_Ok l G ph Y2 d2 av m n bc1 bs1 Q1)
    (hnp : av.length = np) (hd2 : d2 < d) (hlw : lw = true → d ≤ 400) (hst : (st.map q_cat).sum ≤ 8) (hb1 : bc1 ≤ bc) (hb2 : bs1 ≤ bs)
    (K : ∀ (r : Option MV) (m1 : MM) (n1 : Nat), Q1 r m1 n1 → Wp l G lw Y d ph Q (pc + 3) lv (r.toList ++ st) m1 n1 (bc - bc1) (bs - bs1)) : Wp l G lw Y d ph Q pc lv (av.reverse ++ st) m n bc bs := by
  intro p e s mm args below meth cc H locs cells slots ls mc ms hC hLw e1 e2 w1 w2 hl1 hR hS
  obtain ⟨hf, hstt⟩ := hM
  have hts := hC.2.2.2.2.1
  obtain ⟨w3, w4⟩ := wf_app w2
  have hrc := q_roomC (d := d) (fun h => (hLw h).2)
  have hstk : (av.reverse ++ st).map (g_val G) = (av.map (g_val G)).reverse ++ st.map (g_val G) := by
    rw [List.map_append, List.map_reverse]
  rw [hstk]
  refine q_call (va_runSN (As := av.map (g_val G)) (rest := st.map (g_val G)) ⟨hC.1, hC.2.1, hC.2.2.1, hC.2.2.2.1, hts⟩ ho
    ⟨va_cnB np hts (q_good hf) rfl rfl rfl (hC.2.2.2.2.2.1.2.1 _ hl) (hts _ hf.2.1) ⟨hf.2.2.1.1, hf.2.2.1.2, hf.2.2.2.1⟩ (q_roomF hd2 hlw hf.2.2.2.2.1 _ _), hts _ hstt, trivial⟩
    ⟨q_Pc_blind, fun U hU hW => q_pre hR hC.2.2.2.2.2.1 hC.2.2.2.2.2.2.1 hS (fun v hv => w3 v (List.mem_reverse.mpr hv)) hU hW⟩ rfl (by rw [List.length_map]; exact hnp) hl1.1 rfl (lv_room (by rw [q_sum]; exact hst)) hd (by rw [hrc.1, hrc.2]; omega)) hS (fun r m1 n1 H1 locs1 q1 q2 q3 q4 => ?_)
  rw [q_res]
  exact K r m1 n1 q1 p e s mm args below meth cc H1 locs1 (cells + bc1) (slots + bs1) ls mc ms hC hLw (by omega) (by omega) w1 (wf_res q2 w4) hl1 q3 q4
/-- ends -/
theorem q_end {s t : State} {H : Heap} {locs : List Loc} {args : Array Value} {r : Option MV} (hq : Q r m n) (hw : ∀ v ∈ r, wfV v) (hR : q_R G ph m n H) (hS : va_S (q_A G) s.heap H locs) (ht : t.heap = H) : q_Qc G ph Q args s (.returned (r.map (g_val G))) t := by
  subst ht
  exact ⟨⟨r, m, n, rfl, hq, hw, hR⟩, hS.1, hS.2.1⟩
theorem Wp.iret {z : Int} (hd : decode Y.2.1 pc = .ok (.ireturn, 1)) (hr : Y.2.2.2 = some .int) (hq : inR z → Q (some (.inl z)) m n) : Wp l G false Y d ph Q pc lv [.inl z] m n bc bs := by
  intro p e s mm args below meth c H locs cells slots ls mc ms hC hLw e1 e2 w1 w2 hl hR hS
  refine W.widen (k := mc) (n := ms) (by omega) (by omega) ?_
  exact W.iret hC.1 hC.2.1 (hC.2.2.2.2.2.2.2.2.1.trans hr) (fun t ht _ => q_end (r := some (.inl z)) (hq (wf_hd w2)) (fun v hv => by cases hv; exact wf_hd w2) hR hS ht) hS.2.2 hd hC.2.2.2.2.2.2.2.1
theorem Wp.zret {z : Int} (hd : decode Y.2.1 pc = .ok (.ireturn, 1)) (hr : Y.2.2.2 = some .boolean) (hz : z = 0 ∨ z = 1) (hq : Q (some (.inl z)) m n) : Wp l G false Y d ph Q pc lv [.inl z] m n bc bs := by
  intro p e s mm args below meth c H locs cells slots ls mc ms hC hLw e1 e2 w1 w2 hl hR hS
  refine W.widen (k := mc) (n := ms) (by omega) (by omega) ?_
  exact W.zret (ty := .boolean) hC.1 hC.2.1 (hC.2.2.2.2.2.2.2.2.1.trans hr) (show Value.int (Int32.ofInt z &&& 1) = _ by rw [and1 hz]) (fun t ht _ => q_end (r := some (.inl z)) hq (fun v hv => by cases hv; exact wf_hd w2) hR hS ht) hS.2.2 hd hC.2.2.2.2.2.2.2.1
theorem Wp.lret {z : Int} (hd : decode Y.2.1 pc = .ok (.lreturn, 1)) (hr : Y.2.2.2 = some .long) (hq : inL z → Q (some (.inr (.inl z))) m n) : Wp l G false Y d ph Q pc lv [.inr (.inl z)] m n bc bs := by
  intro p e s mm args below meth c H locs cells slots ls mc ms hC hLw e1 e2 w1 w2 hl hR hS
  refine W.widen (k := mc) (n := ms) (by omega) (by omega) ?_
  exact W.lret hC.1 hC.2.1 (hC.2.2.2.2.2.2.2.2.1.trans hr) (fun t ht _ => q_end (r := some (.inr (.inl z))) (hq (wf_hd w2)) (fun v hv => by cases hv; exact wf_hd w2) hR hS ht) hS.2.2 hd hC.2.2.2.2.2.2.2.1
theorem Wp.vret (hd : decode Y.2.1 pc = .ok (.return_, 1)) (hr : Y.2.2.2 = none) (hq : Q none m n) : Wp l G false Y d ph Q pc lv [] m n bc bs := by
  intro p e s mm args below meth c H locs cells slots ls mc ms hC hLw e1 e2 w1 w2 hl hR hS
  refine W.widen (k := mc) (n := ms) (by omega) (by omega) ?_
  exact W.vret hC.1 hC.2.1 (hC.2.2.2.2.2.2.2.2.1.trans hr) (fun t ht _ => q_end (r := none) hq (fun v hv => by cases hv) hR hS ht) hS.2.2 hd hC.2.2.2.2.2.2.2.1
end Calls9
