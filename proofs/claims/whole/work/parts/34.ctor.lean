/-! While things are made: stores that keep the heap's size, new objects, new rows, constructors. -/
section Ctor1
variable {p : Program} {l : Launch} {e : Env} {R : Room} {s : State} {mm : MethodId} {args : Array Value} {below : List Frame} {meth : Method} {c : Code} {H : Heap} {locs : List Loc} {cells slots : Nat} {Z : State → Prop} {cc : ByteArray} {pc : Nat} {ls : Array Slot} {rest : List Value} {DD : va_G} {cl : List vw_C} {A : Nat → Prop} {a : Nat} {tys : List (ClassId × FieldType)} {ws : va_W} {H0 : Heap}
theorem q_putS (hexec : p.tables.exec = Jvm.exec) (hb : c.code = cc) {own C : String} {T : u_T} {N ci index : Nat} {Ts : List Cond} (hts : ∀ w ∈ Ts, w.before args s = true) (hin : ∀ w ∈ u_ws C T N, w ∈ Ts) (ty0 : Nat → FieldType) (hty : ∀ k, k < N → parseFieldDescriptor (T k).2.2.1 = some (ty0 k)) (hnm : ∀ a, a < N → ∀ b, b < N → a ≠ b → (T a).2.1 ≠ (T b).2.1) (hown : s.vm.findClass own = some mm.cls) (hK : va_K DD cl tys s) (hP : va_P DD cl ws H) (hD : va_D A ws) (hS0 : va_S A H0 H locs) (q0 : Nat) {fs : List Value} (he : ws[q0]? = some (a, .inr (ci, fs))) (hc : cl[ci]? = some (C, T, N)) (k : Nat) (hk : k < N) (hlink : (Cond.fieldLink own index (T k).1 (T k).2.1 (T k).2.2.1).before args s = true) (hfin : (T k).2.2.2 = false ∨ ((T k).2.2.2 = true ∧ meth.name = "<init>" ∧ (T k).1 = own)) {v : Value} (hn : narrow (ty0 k) v = v) (hfit : fits (ty0 k) v = true) (hl : k < fs.length)
    (hdg : decode cc pc = .ok (.putfield index, 3)) (kk : ∀ (H1 : Heap) (locs1 : List Loc), va_P DD cl (ws.set q0 (a, .inr (ci, fs.set k v))) H1 → H1.size = H.size → va_S A H0 H1 locs1 → W p l e R s mm args below meth c H1 locs1 cells slots Z (F0 mm (pc + 3) ls rest)) : W p l e R s mm args below meth c H locs cells slots Z (F0 mm pc ls (v :: .ref a :: rest)) := by
  have hap := va_apart (own := own) hts hin ty0 hty hnm hK hc
  obtain ⟨r, h1, cell, q1, q2, q3, q4⟩ := hP q0 _ he
  have hr : r = (C, T, N) := Option.some.inj (h1.symm.trans hc)
  subst hr
  obtain ⟨hS, hfc, kC, hkC, hkind⟩ := hK.1 ci _ hc
  obtain ⟨cf, kf, fi, f, hi, hsl⟩ := hS k hk
  have hlay := hts _ (hin _ (u_in_lay hk))
  have hst := (u_facts hfc hkC (u_lays hts hin hk) hi).1
  unfold u_lay at hlay
  rcases hfin with hfin | ⟨hfin, hin2, hdecl⟩
  · rw [if_neg (by rw [hfin]; decide)] at hlay
    have h6 := u_store hfc hkC hkind hlay hi (hty k hk) hn hfit
    refine W.putK hexec hb (f := f) ⟨hown, hlink, ⟨_, _, _, hi⟩, hst⟩ (by rw [q2]; exact h6) q1 q3 (by rw [hsl]; exact k2_hasslot (q4 k hk)) rfl rfl hdg fun H' e1 e2 e3 => ?_
    rw [hsl] at e1 ⊢
    exact kk H' _ (hP.set hD he ⟨_, hc, t_OB.to (V := updV (vp_V fs) k v) ⟨_, e1, q2, q3, t_set q4 hap hk v⟩ (fun j _ => vp_updV_set hl v j)⟩ e3) e2 (hS0.put e2 e3 (hD.2 q0 _ he))
  · rw [if_pos hfin] at hlay
    have hcf : mm.cls = cf := by
      obtain ⟨_, _, c', _, _, _, -, -, hf', -, -, -, hown2, -⟩ := Cond.laysFinal_spec hlay
      have e1 : c' = cf := by have := hi.symm.trans hf'; simp at this; exact this.1.symm
      rw [hdecl] at hown2
      rw [← e1]; exact Option.some.inj (hown.symm.trans hown2)
    have h6 := u_fits hfc hkC hkind (Or.inr hlay) hi (hty k hk) hn hfit
    refine W.putFinK hexec hb hown hlink hi hst hcf hin2 (by rw [q2]; exact h6) q1 q3 (by rw [hsl]; exact k2_hasslot (q4 k hk)) rfl rfl hdg fun H' e1 e2 e3 => ?_
    rw [hsl] at e1 ⊢
    exact kk H' _ (hP.set hD he ⟨_, hc, t_OB.to (V := updV (vp_V fs) k v) ⟨_, e1, q2, q3, t_set q4 hap hk v⟩ (fun j _ => vp_updV_set hl v j)⟩ e3) e2 (hS0.put e2 e3 (hD.2 q0 _ he))
end Ctor1
def upO (m : MM) (a : Nat) (f : Int → Int) : MM := fun b => if b = a then f else m b
def q_dm (c : Nat) : Int → Int := fun j => if q_ft c j.toNat = 2 then -1 else 0
theorem wfM_upO {m : MM} (h : wfM m) {a : Nat} {f : Int → Int} (hf : ∀ i, Rg (q_st a i) (f i)) : wfM (upO m a f) := fun b i => by
  by_cases e : b = a
  · subst e; simp only [upO, if_pos]; exact hf i
  · simp only [upO, if_neg e]; exact h b i
theorem Rg0 (t : Nat) : Rg t 0 := by
  match t with
  | 0 => exact ⟨by decide, by decide⟩
  | 1 => exact ⟨by decide, by decide⟩
  | 2 => trivial
  | 3 => exact Or.inl rfl
  | t + 4 => exact ⟨by decide, by decide⟩
section Ctor2
variable {l : Launch} {G : GT} {lw : Bool} {Y : YD} {d : Nat} {Q : Option MV → MM → Nat → Prop} {pc : Nat} {lv : List (Nat × MV)} {st : List MV} {m : MM} {n bc bs : Nat}
/-- putfield while things are made -/
theorem Wp.put1 {a c k idx : Nat} {v : MV} {z : Int} (ki : Int) (hki : (k : Int) = ki) (hd : decode Y.2.1 pc = .ok (.putfield idx, 3)) (hF : q_FL Y.1.cls idx c k) (hfin : ∀ C T N, q_cls[c]? = some (C, T, N) → (T k).2.2.2 = false ∨ ((T k).2.2.2 = true ∧ Y.1.name = "<init>" ∧ (T k).1 = Y.1.cls)) (hL : q_lay a = .inl c) (hn : a < n) (hv : g_fv G (q_ft c k) z = g_val G v) (hz : wfV v → Rg (q_ft c k) z)
    (K : Wp l G lw Y d false Q (pc + 3) lv st (up m a ki z) n bc bs) : Wp l G lw Y d false Q pc lv (v :: .inr (.inr a) :: st) m n bc bs := by
  subst hki
  intro p e s mm args below meth cc H locs cells slots ls mc ms hC hLw e1 e2 w1 w2 hl hR hS
  obtain ⟨C, T, N, hc, hk, hlink⟩ := hF
  obtain ⟨hin, hN, hnm, -, -, ty0, hty, hkt⟩ := q_cf c C T N hc
  have ha := q_lay_obj hL
  have hz := hz (wf_hd w2)
  have he : (g_ws G m n)[a]? = some (g_b G + a, .inr (c, (List.range (q_nf c)).map fun k => g_fv G (q_ft c k) (m a k))) := by
    rw [g_ws_get hn, hL]; rfl
  have hkk : k < q_nf c := by omega
  have hf := q_fits (G := G) (ty := ty0 k) (z := z) (by rw [hkt k hk]; exact q_ftk c (List.getElem?_eq_some_iff.mp hc).1 k hkk) (by rw [hkt k hk]; exact hz)
  rw [hkt k hk, hv] at hf
  show W _ _ _ _ _ _ _ _ _ _ _ _ _ _ _ (F0 mm pc ls (g_val G v :: .ref (g_ad G a) :: st.map (g_val G)))
  rw [q_adb (by omega)]
  refine q_putS hC.1 hC.2.1 hC.2.2.2.2.1 hin ty0 hty hnm hC.2.2.2.1 hC.2.2.2.2.2.1.1 hR.1 g_ws_D hS a he hc k hk (hC.2.2.2.2.1 _ hlink) ?_ hf.1 hf.2 (by simpa using hkk) hd (fun H1 locs1 hP1 hz1 hS1 => ?_)
  · rcases hfin C T N hc with h | ⟨h1, h2, h3⟩
    · exact Or.inl h
    · exact Or.inr ⟨h1, hC.2.2.2.2.2.2.2.2.2.trans h2, h3⟩
  · have hws : (g_ws G m n).set a (g_b G + a, .inr (c, ((List.range (q_nf c)).map fun k => g_fv G (q_ft c k) (m a k)).set k (g_val G v))) = g_ws G (up m a k z) n := by
      rw [← hv, g_fs_set hkk, ← g_ws_set (m := m) (m' := up m a k z) hn (fun b hb => up_ne hb), up_eq, hL]
      rfl
    rw [hws] at hP1
    refine K p e s mm args below meth cc H1 locs1 cells slots ls mc ms hC hLw e1 e2 w1 (wf_tl (wf_tl w2)) hl ⟨hP1, wfM_up hR.2.1 ?_, (fun h => by cases h), fun _ => hz1.trans (hR.2.2.2 rfl)⟩ hS1
    unfold q_st
    rw [hL]
    simpa using hz
theorem g_ws_same {m m' : MM} (h : ∀ b, b < n → m' b = m b) : g_ws G m' n = g_ws G m n := by
  unfold g_ws
  exact List.map_congr_left (fun b hb => by rw [h b (List.mem_range.mp hb)])
/-- new, while things are made -/
theorem Wp.new1 {c idx : Nat} (N : Nat) {C : String} {T : u_T} (hd : decode Y.2.1 pc = .ok (.new idx, 3)) (hcl : Cond.classLink Y.1.cls idx C ∈ q_W) (hc : q_cls[c]? = some (C, T, N)) (hL : q_lay n = .inl c) (h1 : 1 ≤ bc) (h2 : N ≤ bs)
    (K : Wp l G lw Y d false Q (pc + 3) lv (.inr (.inr n) :: st) (upO m n (q_dm c)) (n + 1) (bc - 1) (bs - N)) : Wp l G lw Y d false Q pc lv st m n bc bs := by
  intro p e s mm args below meth cc H locs cells slots ls mc ms hC hLw e1 e2 w1 w2 hl hR hS
  obtain ⟨hin, hN, hnm, hinst, hini, ty0, hty, hkt⟩ := q_cf c C T N hc
  have hn := q_lay_obj hL
  have hts := hC.2.2.2.2.1
  have hrc := q_roomC (d := d) (fun h => (hLw h).2)
  have hKn := hC.2.2.2.2.2.1.1.1 c _ hc
  have hsz := hR.2.2.2 rfl
  refine W.newcK hC.1 hC.2.1 hC.2.2.2.1 (hts _ hcl) (hts _ hinst) (hts _ hini) rfl hd (by rw [hrc.1]; omega) (by rw [hrc.2]; omega) hKn.2.1 hsz fun H1 kC hkC e3 z1 o1 => ?_
  have hk : ∀ (k : Nat) (x : Nat × va_E), (g_ws G m n)[k]? = some x → H1[x.1]? = H[x.1]? := fun k x hx => o1 x.1 (by have := (hR.1 k x hx).lt; omega)
  have hP1 : va_P (g_D G) q_cls (g_ws G m n ++ [(g_b G + n, .inr (c, (List.range (q_nf c)).map fun k => g_fv G (q_ft c k) (q_dm c k)))]) H1 := (hR.1.kept hk).app (fun k x hx => by
    have hz : k < 1 := (List.getElem?_eq_some_iff.mp hx).1
    rw [show k = 0 by omega] at hx
    cases hx
    refine ⟨_, hc, (u_born ty0 hts hin hKn hkC e3 hty).to (fun j hj => ?_)⟩
    have h9 : vp_V ((List.range (q_nf c)).map fun k => g_fv G (q_ft c k) (q_dm c k)) j = g_fv G (q_ft c j) (q_dm c j) := by
      unfold vp_V
      rw [List.getD_eq_getElem?_getD, List.getElem?_map, List.getElem?_range (by omega)]
      rfl
    rw [h9, ← hkt j hj]
    show defaultValue (ty0 j) = g_fv G (q_kt (ty0 j)) (if q_ft c (j : Int).toNat = 2 then -1 else 0)
    rw [Int.toNat_natCast, ← hkt j hj]
    have h8 : q_kt (ty0 j) ≠ 9 := by rw [hkt j hj]; exact q_ftk c (List.getElem?_eq_some_iff.mp hc).1 j (by omega)
    generalize ty0 j = tt at h8 ⊢
    cases tt with
    | int => rfl
    | long => rfl
    | boolean => rfl
    | byte => rfl
    | array t => rfl
    | object t => rfl
    | char => exact absurd rfl h8
    | short => exact absurd rfl h8
    | float => exact absurd rfl h8
    | double => exact absurd rfl h8)
  have hws : g_ws G m n ++ [(g_b G + n, .inr (c, (List.range (q_nf c)).map fun k => g_fv G (q_ft c k) (q_dm c k)))] = g_ws G (upO m n (q_dm c)) (n + 1) := by
    rw [← g_ws_push, g_ws_same (m := m) (m' := upO m n (q_dm c)) (fun b hb => by simp only [upO, if_neg (show ¬ b = n by omega)]), hL]
    simp only [upO, if_pos]
    rfl
  rw [hws] at hP1
  have := K p e s mm args below meth cc H1 locs (cells + 1) (slots + N) ls mc ms hC hLw (by omega) (by omega) w1 (wf_cons (v := .inr (.inr n)) trivial w2) hl ⟨hP1, wfM_upO hR.2.1 (fun i => by
    unfold q_st
    rw [hL]
    show Rg (q_ft c i.toNat) (if q_ft c i.toNat = 2 then -1 else 0)
    by_cases h : q_ft c i.toNat = 2
    · rw [if_pos h, h]; trivial
    · rw [if_neg h]; exact Rg0 _), (fun h => by cases h), fun _ => by omega⟩ ⟨Nat.le_trans hS.1 (by omega), fun x h1 h2 => (o1 x (by have := hS.1; omega)).trans (hS.2.1 x h1 h2), hS.2.2⟩
  rw [show (List.map (g_val G) (.inr (.inr n) :: st)) = .ref (g_b G + n) :: List.map (g_val G) st from congrArg (fun q => Value.ref q :: List.map (g_val G) st) (q_adb (by omega))] at this
  exact this
/-- the constructor of Object -/
theorem Wp.oinit {a idx : Nat} (hd : decode Y.2.1 pc = .ok (.invokespecial idx, 3)) (hl : Cond.methodLink Y.1.cls idx objectInit ∈ q_W) (hd1 : 1 ≤ d) (hst : (st.map q_cat).sum ≤ 8) {ph : Bool}
    (K : Wp l G lw Y d ph Q (pc + 3) lv st m n bc bs) : Wp l G lw Y d ph Q pc lv (.inr (.inr a) :: st) m n bc bs := by
  intro p e s mm args below meth cc H locs cells slots ls mc ms hC hLw e1 e2 w1 w2 hl1 hR hS
  have hts := hC.2.2.2.2.1
  have hrm := q_room1 (lw := lw) (mc := mc) (ms := ms) hd1
  refine W.objInit hC.1 hC.2.1 hC.2.2.2.1 (hts _ hl) (hts _ oi_inst) (hts _ oi_code) rfl (by rw [hC.2.2.1]; exact hl1.1) (rest := st.map (g_val G)) rfl hd hrm.1 (by
    have h9 := lv_room (m := mm) (pc := pc) (ls := ls) (rest := List.map (g_val G) (.inr (.inr a) :: st)) (st := st.map (g_val G)) (by rw [q_sum]; exact hst)
    have := hrm.2
    show 2 * (F0 mm pc ls _).monitorRoom + _ + 12 ≤ _
    omega) ?_
  exact K p e s mm args below meth cc H locs cells slots ls mc ms hC hLw e1 e2 w1 (wf_tl w2) hl1 hR hS
/-- all is made: the law goes on -/
theorem Wp.made (hp : Ptr m) (K : Wp l G true Y d true Q pc lv st m 111 bc bs) : Wp l G true Y d false Q pc lv st m 111 bc bs := by
  intro p e s mm args below meth cc H locs cells slots ls mc ms hC hLw e1 e2 w1 w2 hl hR hS
  exact K p e s mm args below meth cc H locs cells slots ls mc ms hC hLw e1 e2 w1 w2 hl ⟨hR.1, hR.2.1, fun _ => ⟨hp, rfl⟩, fun h => by cases h⟩ hS
/-- a contract of a method that makes nothing, used while things are made -/
theorem q_Ok.low {Y2 : YD} {d2 : Nat} {av : List MV} {Q1 : Option MV → MM → Nat → Prop} (hp : Ptr m) (h : q_Ok l G true Y2 d2 av m 111 0 0 Q1) : q_Ok l G false Y2 d2 av m 111 0 0 (fun r m' n' => Q1 r m' n' ∧ n' = 111 ∧ Ptr m') := by
  intro p e ha hc hk s mm args below hf happ hpre htr
  obtain ⟨f1, f2, f3, f4, f5⟩ := hpre
  obtain ⟨k, o, h1, h2, h3, ⟨⟨r, m1, n1, e1, e2, e4, e5⟩, e6⟩, L, ⟨e7, e8, e9⟩, e10⟩ := h p e ha hc hk s mm args below hf happ ⟨f1, ⟨f2.1, f2.2.1, fun _ => ⟨hp, rfl⟩, fun q => by cases q⟩, f3, f4, f5⟩ htr
  have a1 : s.heap.size ≤ (stepsAlone p.tables e k s).heap.size := e9.2.1
  have a2 : (stepsAlone p.tables e k s).heap.size ≤ s.heap.size + 0 := e9.2.2.1
  obtain ⟨p1, p2⟩ := e5.2.2.1 rfl
  have a3 := f2.2.2.2 rfl
  exact ⟨k, o, h1, h2, h3, ⟨⟨r, m1, n1, e1, ⟨e2, p2, p1⟩, e4, e5.1, e5.2.1, (fun q => by cases q), fun _ => by rw [p2]; omega⟩, e6⟩, L, ⟨e7, e8, e9⟩, e10⟩
end Ctor2
