/-- what holds at the law's entry: the machine, the code, the tables' words (any of lw_tbl by 'hts w (by decide +kernel)'), the script of L ints xs at the cell b, what the Statement gives of the start (any of its parts by flat_of_before) -/
def lw_At (p : Program) (s : State) (m : MethodId) (meth : Method) (c : Code) (b L : Nat) (xs : Nat → Int32) : Prop :=
  p.tables.exec = Jvm.exec ∧ c.code = code ∧ meth.sig.returnType = ret ∧ c.maxLocals = 4 ∧ s.vm.findClass R_law = some m.cls ∧ (∀ w ∈ lw_tbl, w.before #[Value.ref b] s = true) ∧ va_X b L xs s s.heap ∧ b < s.heap.size ∧ meth.locks = false ∧ (Jvm.Cond.and given_1 narrow_1).before #[Value.ref b] s = true ∧ meth.name = x.name
def tmT : Nat → Term
  | 0 => .string "SandPlates$Tokens" 17
  | _ => .string "SandPlates$Tokens" 69
def fl1 : List Cond := flatC (Jvm.Cond.and given_1 narrow_1)
theorem wt_el0 : ∀ j : Fin 79, fl1[13 + j.val]? = some (Cond.eq (.elem (.field (tmT 0) "java/lang/String" "value" "[B") (.int (Int32.ofNat j.val))) (.int ((q_byt.getD 0 []).getD j.val 0))) := by decide +kernel
theorem wt_el1 : ∀ j : Fin 11, fl1[96 + j.val]? = some (Cond.eq (.elem (.field (tmT 1) "java/lang/String" "value" "[B") (.int (Int32.ofNat j.val))) (.int ((q_byt.getD 1 []).getD j.val 0))) := by decide +kernel
theorem wt_two {i : Nat} (h : i < 2) : i = 0 ∨ i = 1 := by omega
/-- the two texts, as the start has them -/
theorem wt_texts {args : Array Value} {s : State} (hs : ∀ c ∈ fl1, c.before args s = true) : ∃ adK adV : Nat → Nat, vk_S 2 q_len q_byt adK adV (fun q => s.heap.size ≤ q) s s.heap ∧ ∀ i : Nat, i < 2 → (tmT i).eval args s none [] s = some (.ref (adK i)) := by
  refine vk_Sof (fun i hi => ?_) (fun i hi => ?_) (fun i hi => ?_) (fun i hi => ?_) (fun i hi => ?_) (fun i hi j hj => ?_) (fun i j hi hj hne => ?_) (fun a ha => by omega)
  · rcases wt_two hi with rfl | rfl <;> decide
  · rcases wt_two hi with rfl | rfl
    · exact hs _ (List.mem_of_getElem? (i := 9) (by decide +kernel))
    · exact hs _ (List.mem_of_getElem? (i := 92) (by decide +kernel))
  · rcases wt_two hi with rfl | rfl
    · exact hs _ (List.mem_of_getElem? (i := 10) (by decide +kernel))
    · exact hs _ (List.mem_of_getElem? (i := 93) (by decide +kernel))
  · rcases wt_two hi with rfl | rfl
    · exact hs _ (List.mem_of_getElem? (i := 11) (by decide +kernel))
    · exact hs _ (List.mem_of_getElem? (i := 94) (by decide +kernel))
  · rcases wt_two hi with rfl | rfl
    · exact hs _ (List.mem_of_getElem? (i := 12) (by decide +kernel))
    · exact hs _ (List.mem_of_getElem? (i := 95) (by decide +kernel))
  · rcases wt_two hi with rfl | rfl
    · exact hs _ (List.mem_of_getElem? (wt_el0 ⟨j, hj⟩))
    · exact hs _ (List.mem_of_getElem? (wt_el1 ⟨j, hj⟩))
  · rcases wt_two hi with rfl | rfl <;> rcases wt_two hj with rfl | rfl
    · exact absurd rfl hne
    · exact Or.inl (hs _ (List.mem_of_getElem? (i := 107) (by decide +kernel)))
    · exact Or.inr (hs _ (List.mem_of_getElem? (i := 107) (by decide +kernel)))
    · exact absurd rfl hne
/-- from the entry, for every script of at most 3072 ints, the law comes to its end with true -/
theorem whole_start {p : Program} {e : Env} {s : State} {m : MethodId} {below : List Frame} {meth : Method} {c : Code} (l : Launch) (hflags : l.flags = flags0) {b L : Nat} {xs : Nat → Int32} (hL : L ≤ 3072) (C0 : lw_At p s m meth c b L xs) : W p l e room_1 s m #[Value.ref b] below meth c s.heap [] 0 0 (lw_Z below #[Value.ref b] s) (entryFrame m ([Value.ref b] : List Value).toArray 4) := by
  obtain ⟨hexe, hcode, hret, hml, hown, hts, hX, hbl, hlk, hgv, hnm⟩ := C0
  have hW : ∀ w ∈ q_W, w.before #[Value.ref b] s = true := fun w hw => hts w (List.mem_filter.mp hw).1
  have hT : ∀ (i : Nat) (w : Cond), tables_1[i]? = some w → w.before #[Value.ref b] s = true := fun i w h => hts w (List.mem_append_right _ (List.mem_of_getElem? h))
  have hs : ∀ c ∈ fl1, c.before #[Value.ref b] s = true := flat_of_before _ hgv
  have hcl : ∀ k : Nat, ∃ q : ClassId × (Nat → Nat), ∀ r : vw_C, q_cls[k]? = some r → u_Kn s r.1 r.2.1 r.2.2 q.1 q.2 := by
    intro k
    by_cases h : ∃ r, q_cls[k]? = some r
    · obtain ⟨⟨C, T, N⟩, h⟩ := h
      obtain ⟨hin, -, -, hinst, -⟩ := q_cf k C T N h
      obtain ⟨cC, iS, hk⟩ := u_known hW hin (hW _ hinst)
      exact ⟨(cC, iS), fun r hr => by
        have e := Option.some.inj (hr.symm.trans h)
        subst e
        exact hk⟩
    · exact ⟨(0, fun _ => 0), fun r hr => absurd ⟨r, hr⟩ h⟩
  obtain ⟨f, hf⟩ := Classical.axiomOfChoice hcl
  have har : ∀ ty : FieldType, Cond.arrayClass ty ∈ q_W → ∃ cA, ArrOfT s cA ty ∧ s.vm.findClass ("[" ++ ty.toString) = some cA := fun ty h => by
    obtain ⟨cA, kA, comp, h1, h2, h3⟩ := Cond.arrayClass_spec (hW _ h)
    exact ⟨cA, fun N z => ⟨(fun k h => by cases h), kA, h2, comp, h3⟩, h1⟩
  obtain ⟨aI, aI1, aI2⟩ := har .int ac_int
  obtain ⟨aJ, aJ1, aJ2⟩ := har .long ac_long
  obtain ⟨aZ, aZ1, aZ2⟩ := har .boolean ac_boolean
  obtain ⟨aB, aB1, aB2⟩ := har .byte ac_byte
  have h315 : (Cond.arrayOver (.array .int)).before #[Value.ref b] s = true := hT 315 _ (by decide +kernel)
  obtain ⟨comp, aA, kA, hcomp, -, hkA, hkindA, hnameA⟩ := arrayOverA_spec h315
  have ecomp : comp = aI := Option.some.inj (hcomp.symm.trans aI2)
  rw [ecomp] at hkindA
  have hA : ∀ a : Nat, a < s.heap.size → ¬ (fun q => s.heap.size ≤ q) a := fun a h q => by
    have q : s.heap.size ≤ a := q
    omega
  obtain ⟨aK, aV, hSt, hev⟩ := wt_texts hs
  have hcs : va_Z "java/lang/String" "COMPACT_STRINGS" "Z" (.int 1) (fun q => s.heap.size ≤ q) s s.heap := va_Zof (hT 52 _ (by decide +kernel)) (hT 4 _ (by decide +kernel)) (va_eqi (hs _ (List.mem_of_getElem? (i := 4) (by decide +kernel)))) hA
  have hsf : va_Zq "jdk/internal/util/Preconditions" "SIOOBE_FORMATTER" "Ljava/util/function/BiFunction;" (fun q => s.heap.size ≤ q) s s.heap := va_Zqof (hT 68 _ (by decide +kernel)) (hT 6 _ (by decide +kernel)) (hs _ (List.mem_of_getElem? (i := 5) (by decide +kernel))) hA
  have h42 : (Cond.stringRef "SandPlates$Tokens" 17 q_txt0).before #[Value.ref b] s = true := hT 42 _ (by decide +kernel)
  have h521 : (Cond.stringRef "SandPlates$Tokens" 69 q_txt1).before #[Value.ref b] s = true := hT 521 _ (by decide +kernel)
  have hK : ∃ G : GT, G = (s.heap.size, b, (fun k => (f k).1), (fun k => (f k).2), (fun k => if k = 0 then aI else if k = 1 then aJ else if k = 2 then aZ else if k = 3 then aB else aA), (fun i => if i < 2 then aK i else aV (i - 2)), aV, L, fun j => (xs j).toInt) := ⟨_, rfl⟩
  obtain ⟨G, eG⟩ := hK
  have gb : g_b G = s.heap.size := by rw [eG]; rfl
  have gs : g_s G = b := by rw [eG]; rfl
  have gD : g_D G = ((fun k => (f k).1), fun k => (f k).2) := by rw [eG]; rfl
  have gA : g_A G = fun k => if k = 0 then aI else if k = 1 then aJ else if k = 2 then aZ else if k = 3 then aB else aA := by rw [eG]; rfl
  have gK : g_K G = fun i => if i < 2 then aK i else aV (i - 2) := by rw [eG]; rfl
  have gV : g_V G = aV := by rw [eG]; rfl
  have gL : g_L G = L := by rw [eG]; rfl
  have gx : g_x G = fun j => (xs j).toInt := by rw [eG]; rfl
  have a0 : g_A G 0 = aI := by rw [gA]; rfl
  have a1 : g_A G 1 = aJ := by rw [gA]; rfl
  have a2 : g_A G 2 = aZ := by rw [gA]; rfl
  have a3 : g_A G 3 = aB := by rw [gA]; rfl
  have a4 : g_A G 4 = aA := by rw [gA]; rfl
  have k0 : ∀ i, i < 2 → g_K G i = aK i := fun i hi => by
    rw [gK]
    exact if_pos hi
  have hG : GVok G := ⟨by rw [gK, gV]; rfl, by rw [gK, gV]; rfl⟩
  have qA : q_A G = fun q => s.heap.size ≤ q := by
    unfold q_A
    rw [gb]
  have hqX : q_X G s := by
    refine ⟨⟨fun k r hr => ?_, fun k q hk => ?_⟩, fun w hw => ?_, ⟨?_, ?_⟩, kA, ?_, ?_⟩
    · rw [gD]
      exact hf k r hr
    · unfold q_tys at hk
      match k, hk with
      | 0, hk => cases hk; rw [a0]; exact ⟨aI1, aI2⟩
      | 1, hk => cases hk; rw [a1]; exact ⟨aJ1, aJ2⟩
      | 2, hk => cases hk; rw [a2]; exact ⟨aZ1, aZ2⟩
      | 3, hk => cases hk; rw [a3]; exact ⟨aB1, aB2⟩
      | 4, hk => cases hk; rw [a4]; exact ⟨fun N z => ⟨(fun k h => by cases h), kA, hkA, aI, hkindA⟩, hnameA⟩
      | k + 5, hk => simp at hk
    · have h := hts w (q_nestIn w hw)
      obtain ⟨a, i, y, h2, rfl⟩ := q_nestN hw
      exact va_Nw.of rfl h
    · rw [k0 0 (by decide)]
      exact vk_R.of h42 (hev 0 (by decide))
    · rw [k0 1 (by decide)]
      exact vk_R.of h521 (hev 1 (by decide))
    · rw [a4]
      exact hkA
    · rw [a0]
      exact hkindA
  have hqY : q_Y G s s.heap := by
    unfold q_Y
    rw [qA, gV]
    refine ⟨⟨fun i hi => ?_, fun i j hi hj e => ?_⟩, hcs, hsf⟩
    · rw [k0 i hi]
      exact hSt.1 i hi
    · rw [k0 i hi, k0 j hj] at e
      exact hSt.2 i j hi hj e
  have hLw : q_Lw G s #[Value.ref b] := by
    unfold q_Lw
    rw [gs, gL, gx, gb]
    refine ⟨?_, hbl, rfl, rfl, hL, fun j => inR_toInt _⟩
    rw [show (fun j => Int32.ofInt (xs j).toInt) = xs from funext fun j => Int32.ofInt_toInt _]
    exact hX
  have hCx : q_Cx G Y_Law p s m #[Value.ref b] meth c := ⟨hexe, hcode, hml, hown, hW, hqX, hqY, hlk, hret, hnm⟩
  have hR : q_R G false (fun _ _ => 0) 0 s.heap := ⟨(fun k q h => by simp [g_ws] at h), fun a i => Rg0 _, (fun h => by cases h), fun _ => gb.symm⟩
  have hl := lv_entry [Value.ref b] (n := 4) (Nat.le_of_ble_eq_true rfl)
  rw [lg_entry_eq]
  have hl2 : lv_has ((lg_sl [Value.ref b] ++ List.replicate (4 - (lg_sl [Value.ref b]).length) Slot.unset).toArray) 4 (q_lvl G [(0, .inr (.inr 1000))]) := by
    have e9 : q_lvl G [(0, .inr (.inr 1000))] = [(0, Value.ref b)] := by
      show [(0, Value.ref (g_ad G 1000))] = [(0, Value.ref b)]
      rw [← gs]
      rfl
    rw [e9]
    exact hl
  generalize (lg_sl [Value.ref b] ++ List.replicate (4 - (lg_sl [Value.ref b]).length) Slot.unset).toArray = ls at hl2 ⊢
  exact law_all (l := l) (G := G) (Q := fun _ _ _ => True) hG (m0 := fun _ _ => 0) p e s m #[Value.ref b] below meth c s.heap [] 0 0 ls 600000 7302250 hCx (fun _ => ⟨hLw, rfl, rfl⟩) (Nat.zero_add _) (Nat.zero_add _) (fun q hq => by
    rw [List.mem_singleton.mp hq]
    trivial) (fun v h => by cases h) hl2 hR va_S.rf
set_option maxHeartbeats 4000000 in
theorem lw_walk (l : Launch) (hflags : l.flags = flags0) (b : Addr) (xs : List Int32) : MetFree l x (headSpec (Jvm.Cond.code x code maxLocals ret :: tables_1) room_1) (lw_P b xs) (fun _ _ _ _ _ => True) lw_Q := by
  refine MetFree.of_bodyS (code := code) (maxLocals := maxLocals) (ret := ret) (by decide) ?_ ?_
  · intro args s m h hn
    obtain ⟨meth, c, h1, h2, h3, h4, h5, h6, -, -⟩ := Cond.code_spec hn (atoms_spec (ws := Jvm.Cond.code x code maxLocals ret :: tables_1) h _ List.mem_cons_self)
    exact ⟨meth, c, h1, h2, h3, h4, h5, h6⟩
  · intro p e s m args below meth c s₁ B hml0 hP _
    obtain ⟨rfl, hx, hbd, hgv⟩ := hP
    obtain ⟨scr, harrAt, hlist, hof, hsmall⟩ := hx
    obtain ⟨hcb, hkn, -, -⟩ := State.arrayAt?_spec harrAt
    have hown : s.vm.findClass R_law = some m.cls := findClass_of_methodNamed B.named
    have hts0 : ∀ c ∈ (Jvm.Cond.code x code maxLocals ret :: tables_1), c.before #[Value.ref b] s = true := atoms_spec (ws := Jvm.Cond.code x code maxLocals ret :: tables_1) B.pre
    have hts : ∀ w ∈ lw_tbl, w.before #[Value.ref b] s = true := k2_hts_sels lw_privs (fun w hw => hts0 w (List.mem_cons_of_mem _ hw)) lw_privs_ok
    have hml : c.maxLocals = 4 := B.maxLocals_eq (hts0 _ List.mem_cons_self)
    have X₀ : Stand p l e room_1 s m #[Value.ref b] below meth c s₁ [] 0 0 := Stand.of_body B
    have hh0 : s₁.heap = s.heap := by rw [B.state]; rfl
    have hsz : scr.slots.size = xs.length := by rw [← Array.length_toList, hlist, List.length_map]
    have hval : ∀ j : Nat, j < xs.length → scr.slots[j]? = some (.int (xs.getD j 0)) := fun j hj => by
      rw [← Array.getElem?_toList, hlist]
      simp [hj]
    have hbl : b < s.heap.size := (Array.getElem?_eq_some_iff.mp hcb).1
    have hX : va_X b xs.length (fun j => xs.getD j 0) s s.heap := ⟨scr, hcb, hof, hkn, hsz, hval⟩
    have K : W p l e room_1 s m #[Value.ref b] below meth c s₁.heap [] 0 0 (lw_Z below #[Value.ref b] s) (entryFrame m ([Value.ref b] : List Value).toArray 4) := by
      rw [hh0]
      exact whole_start l hflags hbd ⟨B.exec, B.bytes, B.returns, hml, hown, hts, hX, hbl, B.notSynchronized, hgv, (name_of_methodNamed B.named B.method).1⟩
    obtain ⟨t, a1, o, b1, b2, b3⟩ := K s₁ rfl X₀
    exact ⟨t, o, a1, b1, b2, b3⟩
theorem lw_pre_spec {args : Array Value} {s : State} (h : (Jvm.Cond.and given_1 narrow_1).before args s = true) (hr : rest_1_c.before args s = true) : ∃ (b : Addr) (xs : List Int32), lw_P b xs args s := by
  have hs := flat_of_before _ h
  have hq := flat_of_before _ hr
  have hc : (Cond.count 1).before args s = true := hs _ (by decide +kernel)
  have harr : (Cond.arrayOf (.arg 0) .int).before args s = true := hs _ (by decide +kernel)
  have hle : (Cond.le (.length (.arg 0)) (.int 3072)).before args s = true := hs _ (by decide +kernel)
  have hlen : (Cond.isInt (.length (.arg 0))).before args s = true := hq _ (by decide +kernel)
  have hall : (Cond.all (.arg 0) (.isInt (.elem (.arg 0) (.index 0)))).before args s = true := hq _ (by decide +kernel)
  obtain ⟨b, xs, hb, hx⟩ := State.ints_of_pre rfl harr hlen hall
  have hsm : xs.length < 2 ^ 31 := hx.choose_spec.2.2.2
  have hev : (Term.length (.arg 0)).eval args s none [] s = some (.int xs.length.toInt32) := hx.length_eval hb
  have hv := Cond.le_ints hev (show (Term.int 3072).eval args s none [] s = some (.int 3072) from rfl)
  have hd : xs.length.toInt32 ≤ 3072 := by
    simpa [Cond.before, Cond.holds, hv] using hle
  have hN : xs.length ≤ 3072 := (Int32.ofNat_le_ofNat hsm (by decide)).mp (show Int32.ofNat xs.length ≤ Int32.ofNat 3072 from hd)
  exact ⟨b, xs, Cond.one_arg hc (show args[0]? = some (.ref b) from hb), hx, hN, h⟩
theorem lw_comes (l : Launch) (hflags : l.flags = flags0) : Comes l x (Jvm.Cond.code x code maxLocals ret :: tables_1) room_1 (fun tb e args s => Calls_1 tb e args s ∧ rest_1 tb e args s ∧ Pre_1 tb e args s)
    (fun _ _ args s o t => lw_Q args s o t) := by
  intro p e ha hc hk s m args below hf hfit hheap happ hpre
  obtain ⟨b, xs, hP⟩ := lw_pre_spec hpre.2.2 hpre.2.1
  obtain ⟨k, o, h1, h2, h3, hQ⟩ := lw_walk l hflags b xs p e ha hc hk s m args below hf ((Spec.applies_iff_loose hf).mp happ).1 hP trivial
  exact ⟨k, o, h1, h2, h3, hQ⟩
theorem lw_frame {s t : State} {o : Outcome} {args : Array Value} (h : Framed s o t [] 600000 7302250) :
    Framed s o t (fieldLocs frame_1_writes args s ++ arrayLocs frame_1_arrays args s ++ staticLocs frame_1_statics s) 600000 7302250 := h
theorem lw_limb (L : Cond) (hL : ∀ (args : Array Value) (s t : State), L.after args s (.returned (some (.int 1))) t = true) :
    ArmFor flags0 classFile x code maxLocals ret World_1 tables_1 room_1 Calls_1 rest_1 Pre_1
      (fun tb e a s o t => postC L tb e a s o t ∧ Framed s o t (fieldLocs frame_1_writes a s ++ arrayLocs frame_1_arrays a s ++ staticLocs frame_1_statics s) 600000 7302250) := by
  intro l hflags _ _ p e ha hc hk s m args below hf hfit hheap happ hpre
  obtain ⟨k, o, h1, h2, h3, rfl, hF⟩ := lw_comes l hflags p e ha hc hk s m args below hf hfit hheap happ hpre
  exact ⟨k, _, h1, h2, h3, hL args s _, lw_frame hF⟩
theorem i_vc : Claimed_1_1 ∧ Claimed_1_2 := ⟨lw_limb limb_1_1 (fun args s t => by simp [limb_1_1, Cond.after, Cond.holds, Cond.value]), lw_limb limb_1_2 (fun args s t => Cond.after_iff.mpr (by
  first | (rw [show limb_1_2 = Cond.eq .result (.int 1) from rfl, Cond.eq_ints (x := 1) (y := 1) rfl rfl]; simp; done) | (simp [limb_1_2, Cond.value, Term.eval]; done)))⟩
