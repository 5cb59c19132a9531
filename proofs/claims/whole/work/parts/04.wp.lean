def R_law : String := "SandPlatesLaw"
def lw_P (b : Addr) (xs : List Int32) (args : Array Value) (s : State) : Prop := args = #[.ref b] ∧ s.IntsAt b xs ∧ xs.length ≤ 3072 ∧ (Jvm.Cond.and given_1 narrow_1).before args s = true
def lw_Q (_ : Array Value) (s : State) (o : Outcome) (t : State) : Prop := o = .returned (some (.int 1)) ∧ Framed s o t [] 600000 7302250
def lw_Z (below : List Frame) (a : Array Value) (s : State) : State → Prop := fun t => ∃ o, t.status = .running ∧ Ended t below o ∧ lw_Q a s o t
/-- array classes of the small machine -/
def q_tys (G : GT) : List (ClassId × FieldType) := [(g_A G 0, .int), (g_A G 1, .long), (g_A G 2, .boolean), (g_A G 3, .byte), (g_A G 4, .array .int)]
def q_txt0 : String := "plate holds chute wide drain falls luck draw or and not grains brim number day "
def q_txt1 : String := ";()<>=+-*/%"
def q_len : List Nat := [79, 11]
def q_byt : List (List Int32) := [[112, 108, 97, 116, 101, 32, 104, 111, 108, 100, 115, 32, 99, 104, 117, 116, 101, 32, 119, 105, 100, 101, 32, 100, 114, 97, 105, 110, 32, 102, 97, 108, 108, 115, 32, 108, 117, 99, 107, 32, 100, 114, 97, 119, 32, 111, 114, 32, 97, 110, 100, 32, 110, 111, 116, 32, 103, 114, 97, 105, 110, 115, 32, 98, 114, 105, 109, 32, 110, 117, 109, 98, 101, 114, 32, 100, 97, 121, 32], [59, 40, 41, 60, 62, 61, 43, 45, 42, 47, 37]]
/-- what a state's tables hold, from the law's start on -/
def q_X (G : GT) (U : State) : Prop := va_K (g_D G) q_cls (q_tys G) U ∧ (∀ w ∈ q_nest, va_Nw w U) ∧ (vk_R "SandPlates$Tokens" 17 q_txt0 (g_K G 0) U ∧ vk_R "SandPlates$Tokens" 69 q_txt1 (g_K G 1) U) ∧ ∃ kA : Class, U.vm.classes[g_A G 4]? = some kA ∧ kA.kind = .array (g_A G 0) (.array .int)
/-- what its heap holds outside the cells that are made -/
def q_Y (G : GT) (U : State) (H : Heap) : Prop := vk_S 2 q_len q_byt (g_K G) (g_V G) (q_A G) U H ∧ va_Z "java/lang/String" "COMPACT_STRINGS" "Z" (.int 1) (q_A G) U H ∧ va_Zq "jdk/internal/util/Preconditions" "SIOOBE_FORMATTER" "Ljava/util/function/BiFunction;" (q_A G) U H
theorem q_nestN {w : Cond} (h : w ∈ q_nest) : ∃ a i x b, w = .methodLinkNest a i x b := by
  simp only [q_nest, List.mem_cons, List.not_mem_nil, or_false] at h
  rcases h with h | h | h | h | h | h | h | h | h | h | h | h <;> exact ⟨_, _, _, _, h⟩
theorem q_X.warm {G : GT} {s U : State} (hW : s.WarmedH U.vm) (h : q_X G s) : q_X G U := by
  obtain ⟨h1, h2, ⟨h3, h4⟩, kA, h5, h6⟩ := h
  refine ⟨va_K.moved hW.alike h1, fun w hw => ?_, ⟨h3.warm hW, h4.warm hW⟩, ?_⟩
  · have hz := h2 w hw
    obtain ⟨a, i, x, b, rfl⟩ := q_nestN hw
    exact hz.warmM hW
  · obtain ⟨k', hk', he⟩ := hW.alike.2.2 _ _ h5
    exact ⟨k', hk', by rw [he]; exact h6⟩
theorem q_X.same {G : GT} {u U : State} (hv : u.vm = U.vm) (h : q_X G u) : q_X G U := by
  obtain ⟨h1, h2, ⟨h3, h4⟩, kA, h5, h6⟩ := h
  refine ⟨va_K.moved (by rw [hv]; exact Vm.Alike.refl U.vm) h1, fun w hw => ?_, ⟨h3.same hv.symm, h4.same hv.symm⟩, kA, by rw [← hv]; exact h5, h6⟩
  have hz := h2 w hw
  obtain ⟨a, i, x, b, rfl⟩ := q_nestN hw
  exact hz.same rfl hv
theorem q_Y.moved {G : GT} {u U : State} {H : Heap} (hv : u.vm.Alike U.vm) (h : q_Y G u H) : q_Y G U H := ⟨h.1.moved hv, h.2.1.moved hv, va_Zq.moved hv h.2.2⟩
theorem q_Y.kept {G : GT} {U : State} {H H1 : Heap} (h : q_Y G U H) (hq : ∀ a : Nat, a < H.size → ¬ q_A G a → H1[a]? = H[a]?) : q_Y G U H1 := ⟨h.1.kept hq, h.2.1.kept hq, va_Zq.kept h.2.2 hq⟩
/-- the memory is what the heap holds -/
def q_R (G : GT) (ph : Bool) (m : MM) (n : Nat) (H : Heap) : Prop := va_P (g_D G) q_cls (g_ws G m n) H ∧ wfM m ∧ (ph = true → Ptr m ∧ n = 111) ∧ (ph = false → H.size = g_b G + n)
def q_Cx (G : GT) (Y : YD) (p : Program) (s : State) (mm : MethodId) (args : Array Value) (meth : Method) (c : Code) : Prop :=
  p.tables.exec = Jvm.exec ∧ c.code = Y.2.1 ∧ c.maxLocals = Y.2.2.1 ∧ s.vm.findClass Y.1.cls = some mm.cls ∧ (∀ w ∈ q_W, w.before args s = true) ∧ q_X G s ∧ q_Y G s s.heap ∧ meth.locks = false ∧ meth.sig.returnType = Y.2.2.2 ∧ meth.name = Y.1.name
def q_rm (d mc ms : Nat) : Room := { frames := d, cells := mc, slots := ms, locals := 200 * d }
def q_room (lw : Bool) (d mc ms : Nat) : Room := match lw with
  | true => room_1
  | false => q_rm d mc ms
def q_Qc (G : GT) (ph : Bool) (Q : Option MV → MM → Nat → Prop) : Array Value → State → Outcome → State → Prop := fun _ st o t =>
  (∃ (r : Option MV) (m : MM) (n : Nat), o = .returned (r.map (g_val G)) ∧ Q r m n ∧ (∀ v ∈ r, wfV v) ∧ q_R G ph m n t.heap) ∧ va_F (q_A G) st t
def q_Z (lw : Bool) (G : GT) (ph : Bool) (Q : Option MV → MM → Nat → Prop) (below : List Frame) (args : Array Value) (s : State) (mc ms : Nat) : State → Prop := match lw with
  | true => lw_Z below args s
  | false => MQ below (q_Qc G ph Q) args s mc ms (q_A G)
def q_Lw (G : GT) (s : State) (args : Array Value) : Prop := va_X (g_s G) (g_L G) (fun j => Int32.ofInt (g_x G j)) s s.heap ∧ g_s G < s.heap.size ∧ s.heap.size = g_b G ∧ args = #[Value.ref (g_s G)] ∧ g_L G ≤ 3072 ∧ ∀ j, inR (g_x G j)
def q_lvl (G : GT) (lv : List (Nat × MV)) : List (Nat × Value) := lv.map fun q => (q.1, g_val G q.2)
/-- from here the machine comes to an end with Q (lw: to the law's end) -/
def Wp (l : Launch) (G : GT) (lw : Bool) (Y : YD) (d : Nat) (ph : Bool) (Q : Option MV → MM → Nat → Prop) (pc : Nat) (lv : List (Nat × MV)) (st : List MV) (m : MM) (n bc bs : Nat) : Prop :=
  ∀ (p : Program) (e : Env) (s : State) (mm : MethodId) (args : Array Value) (below : List Frame) (meth : Method) (c : Code) (H : Heap) (locs : List Loc) (cells slots : Nat) (ls : Array Slot) (mc ms : Nat),
    q_Cx G Y p s mm args meth c → (lw = true → q_Lw G s args ∧ mc = 600000 ∧ ms = 7302250) → cells + bc = mc → slots + bs = ms → (∀ q ∈ lv, wfV q.2) → (∀ v ∈ st, wfV v) → lv_has ls Y.2.2.1 (q_lvl G lv) → q_R G ph m n H → va_S (q_A G) s.heap H locs →
    W p l e (q_room lw d mc ms) s mm args below meth c H locs cells slots (q_Z lw G ph Q below args s mc ms) (F0 mm pc ls (st.map (g_val G)))
section Steps
variable {l : Launch} {G : GT} {lw : Bool} {Y : YD} {d : Nat} {ph : Bool} {Q : Option MV → MM → Nat → Prop} {pc pc' : Nat} {lv lv' : List (Nat × MV)} {st st' : List MV} {m : MM} {n bc bs : Nat}
/-- a step that touches the stack alone -/
theorem Wp.go (hw : (∀ v ∈ st, wfV v) → (∀ q ∈ lv, wfV q.2) → wfM m → ∀ v ∈ st', wfV v)
    (hs : ∀ (p : Program) (e : Env) (s : State) (mm : MethodId) (args : Array Value) (below : List Frame) (meth : Method) (c : Code) (H : Heap) (locs : List Loc) (cells slots : Nat) (ls : Array Slot) (R : Room) (Z : State → Prop),
      p.tables.exec = Jvm.exec → c.code = Y.2.1 → s.vm.findClass Y.1.cls = some mm.cls → (∀ w ∈ q_W, w.before args s = true) → q_X G s → (∀ v ∈ st, wfV v) → (∀ q ∈ lv, wfV q.2) → lv_has ls Y.2.2.1 (q_lvl G lv) → q_R G ph m n H →
      W p l e R s mm args below meth c H locs cells slots Z (F0 mm pc' ls (st'.map (g_val G))) → W p l e R s mm args below meth c H locs cells slots Z (F0 mm pc ls (st.map (g_val G))))
    (K : Wp l G lw Y d ph Q pc' lv st' m n bc bs) : Wp l G lw Y d ph Q pc lv st m n bc bs := by
  intro p e s mm args below meth c H locs cells slots ls mc ms hC hL e1 e2 w1 w2 hl hR hS
  exact hs p e s mm args below meth c H locs cells slots ls _ _ hC.1 hC.2.1 hC.2.2.2.1 hC.2.2.2.2.1 hC.2.2.2.2.2.1 w2 w1 hl hR (K p e s mm args below meth c H locs cells slots ls mc ms hC hL e1 e2 w1 (hw w2 w1 hR.2.1) hl hR hS)
/-- a branch -/
theorem Wp.br {pc2 : Nat} {C : Prop} (hw : ∀ v ∈ st', v ∈ st)
    (hs : ∀ (p : Program) (e : Env) (s : State) (mm : MethodId) (args : Array Value) (below : List Frame) (meth : Method) (c : Code) (H : Heap) (locs : List Loc) (cells slots : Nat) (ls : Array Slot) (R : Room) (Z : State → Prop),
      p.tables.exec = Jvm.exec → c.code = Y.2.1 → (∀ v ∈ st, wfV v) →
      (C → W p l e R s mm args below meth c H locs cells slots Z (F0 mm pc' ls (st'.map (g_val G)))) → (¬ C → W p l e R s mm args below meth c H locs cells slots Z (F0 mm pc2 ls (st'.map (g_val G)))) → W p l e R s mm args below meth c H locs cells slots Z (F0 mm pc ls (st.map (g_val G))))
    (K1 : C → Wp l G lw Y d ph Q pc' lv st' m n bc bs) (K2 : ¬ C → Wp l G lw Y d ph Q pc2 lv st' m n bc bs) : Wp l G lw Y d ph Q pc lv st m n bc bs := by
  intro p e s mm args below meth c H locs cells slots ls mc ms hC hL e1 e2 w1 w2 hl hR hS
  exact hs p e s mm args below meth c H locs cells slots ls _ _ hC.1 hC.2.1 w2 (fun h => K1 h p e s mm args below meth c H locs cells slots ls mc ms hC hL e1 e2 w1 (fun v hv => w2 v (hw v hv)) hl hR hS) (fun h => K2 h p e s mm args below meth c H locs cells slots ls mc ms hC hL e1 e2 w1 (fun v hv => w2 v (hw v hv)) hl hR hS)
/-- what the memory and the locals hold is in range -/
theorem Wp.wf (K : wfM m → (ph = true → Ptr m) → (∀ q ∈ lv, wfV q.2) → (∀ v ∈ st, wfV v) → Wp l G lw Y d ph Q pc lv st m n bc bs) : Wp l G lw Y d ph Q pc lv st m n bc bs := by
  intro p e s mm args below meth c H locs cells slots ls mc ms hC hL e1 e2 w1 w2 hl hR hS
  exact K hR.2.1 (fun h => (hR.2.2.1 h).1) w1 w2 p e s mm args below meth c H locs cells slots ls mc ms hC hL e1 e2 w1 w2 hl hR hS
theorem wf_cons {v : MV} {st : List MV} (h : wfV v) (hs : ∀ w ∈ st, wfV w) : ∀ w ∈ v :: st, wfV w := fun w hw => by
  rcases List.mem_cons.mp hw with rfl | h1
  · exact h
  · exact hs w h1
theorem wf_tl {v : MV} {st : List MV} (hs : ∀ w ∈ v :: st, wfV w) : ∀ w ∈ st, wfV w := fun w hw => hs w (List.mem_cons_of_mem _ hw)
theorem wf_hd {v : MV} {st : List MV} (hs : ∀ w ∈ v :: st, wfV w) : wfV v := hs v List.mem_cons_self
theorem lvl_at {ls : Array Slot} {nL : Nat} (hl : lv_has ls nL (q_lvl G lv)) (k : Nat) {i : Nat} {v : MV} (hk : lv[k]? = some (i, v)) : ls[i]? = some (.val (g_val G v)) :=
  lv_at hl k (i := i) (v := g_val G v) (by simp [q_lvl, hk])
theorem Wp.iconst {z : Int} (hd : decode Y.2.1 pc = .ok (.iconst z, 1)) (hr : inR z) (K : Wp l G lw Y d ph Q (pc + 1) lv (.inl z :: st) m n bc bs) : Wp l G lw Y d ph Q pc lv st m n bc bs :=
  Wp.go (fun w _ _ => wf_cons (v := .inl z) hr w) (fun _ _ _ _ _ _ _ _ _ _ _ _ _ _ _ hx hb _ _ _ _ _ _ _ k => lv_iconst hx hb hd rfl k) K
theorem Wp.bipush {z : Int} (hd : decode Y.2.1 pc = .ok (.bipush z, 2)) (hr : inR z) (hv : (Int8.ofInt z).toInt32 = Int32.ofInt z) (K : Wp l G lw Y d ph Q (pc + 2) lv (.inl z :: st) m n bc bs) : Wp l G lw Y d ph Q pc lv st m n bc bs :=
  Wp.go (fun w _ _ => wf_cons (v := .inl z) hr w) (fun _ _ _ _ _ _ _ _ _ _ _ _ _ _ _ hx hb _ _ _ _ _ _ _ k => lv_bipush hx hb hd hv k) K
theorem Wp.sipush {z : Int} (hd : decode Y.2.1 pc = .ok (.sipush z, 3)) (hr : inR z) (hv : (Int16.ofInt z).toInt32 = Int32.ofInt z) (K : Wp l G lw Y d ph Q (pc + 3) lv (.inl z :: st) m n bc bs) : Wp l G lw Y d ph Q pc lv st m n bc bs :=
  Wp.go (fun w _ _ => wf_cons (v := .inl z) hr w) (fun _ _ _ _ _ _ _ _ _ _ _ _ _ _ _ hx hb _ _ _ _ _ _ _ k => lv_sipush hx hb hd hv k) K
theorem Wp.ldc {z : Int} {v : Int32} {idx : Nat} (hd : decode Y.2.1 pc = .ok (.ldc idx, 2)) (hk : Cond.constant Y.1.cls idx v ∈ q_W) (hr : inR z) (hv : v = Int32.ofInt z) (K : Wp l G lw Y d ph Q (pc + 2) lv (.inl z :: st) m n bc bs) : Wp l G lw Y d ph Q pc lv st m n bc bs :=
  Wp.go (fun w _ _ => wf_cons (v := .inl z) hr w) (fun _ _ _ _ _ _ _ _ _ _ _ _ _ _ _ hx hb ho hts _ _ _ _ _ k => lv_ldc hx hb ho (hts _ hk) hd (by rw [hv]; exact k)) K
theorem Wp.ldcw {z : Int} {v : Int32} {idx : Nat} (hd : decode Y.2.1 pc = .ok (.ldc_w idx, 3)) (hk : Cond.constant Y.1.cls idx v ∈ q_W) (hr : inR z) (hv : v = Int32.ofInt z) (K : Wp l G lw Y d ph Q (pc + 3) lv (.inl z :: st) m n bc bs) : Wp l G lw Y d ph Q pc lv st m n bc bs :=
  Wp.go (fun w _ _ => wf_cons (v := .inl z) hr w) (fun _ _ _ _ _ _ _ _ _ _ _ _ _ _ _ hx hb ho hts _ _ _ _ _ k => lv_ldcw hx hb ho (hts _ hk) hd (by rw [hv]; exact k)) K
theorem Wp.ldc2 {z : Int} {v : Int64} {idx : Nat} (hd : decode Y.2.1 pc = .ok (.ldc2_w idx, 3)) (hk : Cond.constantLong Y.1.cls idx v ∈ q_W) (hr : inL z) (hv : v = Int64.ofInt z) (K : Wp l G lw Y d ph Q (pc + 3) lv (.inr (.inl z) :: st) m n bc bs) : Wp l G lw Y d ph Q pc lv st m n bc bs :=
  Wp.go (fun w _ _ => wf_cons (v := .inr (.inl z)) hr w) (fun _ _ _ _ _ _ _ _ _ _ _ _ _ _ _ hx hb ho hts _ _ _ _ _ k => lv_ldc2 hx hb ho (hts _ hk) hd (by rw [hv]; exact k)) K
theorem Wp.lconst {z : Fin 2} {x : Int} (hd : decode Y.2.1 pc = .ok (.lconst z, 1)) (hr : inL x) (hv : Int64.ofNat (z : Nat) = Int64.ofInt x) (K : Wp l G lw Y d ph Q (pc + 1) lv (.inr (.inl x) :: st) m n bc bs) : Wp l G lw Y d ph Q pc lv st m n bc bs :=
  Wp.go (fun w _ _ => wf_cons (v := .inr (.inl x)) hr w) (fun _ _ _ _ _ _ _ _ _ _ _ _ _ _ _ hx hb _ _ _ _ _ _ _ k => lv_lconst hx hb hd hv k) K
theorem Wp.iload_n {j : Fin 4} (k i : Nat) {z : Int} (hd : decode Y.2.1 pc = .ok (.iload_n j, 1)) (hi : (j : Nat) = i) (hk : lv[k]? = some (i, .inl z)) (K : Wp l G lw Y d ph Q (pc + 1) lv (.inl z :: st) m n bc bs) : Wp l G lw Y d ph Q pc lv st m n bc bs :=
  Wp.go (fun w w1 _ => wf_cons (w1 _ (List.mem_of_getElem? hk)) w) (fun _ _ _ _ _ _ _ _ _ _ _ _ _ _ _ hx hb _ _ _ _ _ hl _ kk => lv_iload_n hx hb hd hi (lvl_at hl k hk) kk) K
theorem Wp.iload (k i : Nat) {z : Int} (hd : decode Y.2.1 pc = .ok (.iload i, 2)) (hk : lv[k]? = some (i, .inl z)) (K : Wp l G lw Y d ph Q (pc + 2) lv (.inl z :: st) m n bc bs) : Wp l G lw Y d ph Q pc lv st m n bc bs :=
  Wp.go (fun w w1 _ => wf_cons (w1 _ (List.mem_of_getElem? hk)) w) (fun _ _ _ _ _ _ _ _ _ _ _ _ _ _ _ hx hb _ _ _ _ _ hl _ kk => lv_iload hx hb hd (lvl_at hl k hk) kk) K
theorem Wp.lload_n {j : Fin 4} (k i : Nat) {z : Int} (hd : decode Y.2.1 pc = .ok (.lload_n j, 1)) (hi : (j : Nat) = i) (hk : lv[k]? = some (i, .inr (.inl z))) (K : Wp l G lw Y d ph Q (pc + 1) lv (.inr (.inl z) :: st) m n bc bs) : Wp l G lw Y d ph Q pc lv st m n bc bs :=
  Wp.go (fun w w1 _ => wf_cons (w1 _ (List.mem_of_getElem? hk)) w) (fun _ _ _ _ _ _ _ _ _ _ _ _ _ _ _ hx hb _ _ _ _ _ hl _ kk => lv_lload_n hx hb hd hi (lvl_at hl k hk) kk) K
theorem Wp.lload (k i : Nat) {z : Int} (hd : decode Y.2.1 pc = .ok (.lload i, 2)) (hk : lv[k]? = some (i, .inr (.inl z))) (K : Wp l G lw Y d ph Q (pc + 2) lv (.inr (.inl z) :: st) m n bc bs) : Wp l G lw Y d ph Q pc lv st m n bc bs :=
  Wp.go (fun w w1 _ => wf_cons (w1 _ (List.mem_of_getElem? hk)) w) (fun _ _ _ _ _ _ _ _ _ _ _ _ _ _ _ hx hb _ _ _ _ _ hl _ kk => lv_lload hx hb hd (lvl_at hl k hk) kk) K
theorem Wp.aload_n {j : Fin 4} (k i : Nat) {r : Nat} (hd : decode Y.2.1 pc = .ok (.aload_n j, 1)) (hi : (j : Nat) = i) (hk : lv[k]? = some (i, .inr (.inr r))) (K : Wp l G lw Y d ph Q (pc + 1) lv (.inr (.inr r) :: st) m n bc bs) : Wp l G lw Y d ph Q pc lv st m n bc bs :=
  Wp.go (fun w w1 _ => wf_cons (w1 _ (List.mem_of_getElem? hk)) w) (fun _ _ _ _ _ _ _ _ _ _ _ _ _ _ _ hx hb _ _ _ _ _ hl _ kk => lv_aload_n hx hb hd hi (lvl_at hl k hk) kk) K
theorem Wp.aload (k i : Nat) {r : Nat} (hd : decode Y.2.1 pc = .ok (.aload i, 2)) (hk : lv[k]? = some (i, .inr (.inr r))) (K : Wp l G lw Y d ph Q (pc + 2) lv (.inr (.inr r) :: st) m n bc bs) : Wp l G lw Y d ph Q pc lv st m n bc bs :=
  Wp.go (fun w w1 _ => wf_cons (w1 _ (List.mem_of_getElem? hk)) w) (fun _ _ _ _ _ _ _ _ _ _ _ _ _ _ _ hx hb _ _ _ _ _ hl _ kk => lv_aload hx hb hd (lvl_at hl k hk) kk) K
theorem Wp.iadd {x y : Int} (hd : decode Y.2.1 pc = .ok (.iadd, 1)) (hr : inR (x + y)) (K : Wp l G lw Y d ph Q (pc + 1) lv (.inl (x + y) :: st) m n bc bs) : Wp l G lw Y d ph Q pc lv (.inl y :: .inl x :: st) m n bc bs :=
  Wp.go (fun w _ _ => wf_cons (v := .inl (x + y)) hr (wf_tl (wf_tl w))) (fun _ _ _ _ _ _ _ _ _ _ _ _ _ _ _ hx hb _ _ _ _ _ _ _ k => lv_iadd hx hb hd (by rw [← Int32.ofInt_add]; exact k)) K
theorem Wp.isub {x y : Int} (hd : decode Y.2.1 pc = .ok (.isub, 1)) (hr : inR (x - y)) (K : Wp l G lw Y d ph Q (pc + 1) lv (.inl (x - y) :: st) m n bc bs) : Wp l G lw Y d ph Q pc lv (.inl y :: .inl x :: st) m n bc bs :=
  Wp.go (fun w _ _ => wf_cons (v := .inl (x - y)) hr (wf_tl (wf_tl w))) (fun _ _ _ _ _ _ _ _ _ _ _ _ _ _ _ hx hb _ _ _ _ _ _ _ k => lv_isub hx hb hd (by rw [← Int32.ofInt_sub]; exact k)) K
theorem Wp.imul {x y : Int} (hd : decode Y.2.1 pc = .ok (.imul, 1)) (hr : inR (x * y)) (K : Wp l G lw Y d ph Q (pc + 1) lv (.inl (x * y) :: st) m n bc bs) : Wp l G lw Y d ph Q pc lv (.inl y :: .inl x :: st) m n bc bs :=
  Wp.go (fun w _ _ => wf_cons (v := .inl (x * y)) hr (wf_tl (wf_tl w))) (fun _ _ _ _ _ _ _ _ _ _ _ _ _ _ _ hx hb _ _ _ _ _ _ _ k => lv_imul hx hb hd (by rw [← Int32.ofInt_mul]; exact k)) K
theorem Wp.ineg {x : Int} (hd : decode Y.2.1 pc = .ok (.ineg, 1)) (hr : inR (-x)) (K : Wp l G lw Y d ph Q (pc + 1) lv (.inl (-x) :: st) m n bc bs) : Wp l G lw Y d ph Q pc lv (.inl x :: st) m n bc bs :=
  Wp.go (fun w _ _ => wf_cons (v := .inl (-x)) hr (wf_tl w)) (fun _ _ _ _ _ _ _ _ _ _ _ _ _ _ _ hx hb _ _ _ _ _ _ _ k => lv_ineg hx hb hd (by rw [← Int32.ofInt_neg]; exact k)) K
/-- numbers that wrap -/
def w32 (z : Int) : Int := z.bmod 4294967296
def w64 (z : Int) : Int := z.bmod 18446744073709551616
theorem inR_w32 (z : Int) : inR (w32 z) := by
  have := inR_toInt (Int32.ofInt z)
  rwa [show (Int32.ofInt z).toInt = w32 z from Int32.toInt_ofInt] at this
theorem inL_w64 (z : Int) : inL (w64 z) := by
  have := inL_toInt (Int64.ofInt z)
  rwa [show (Int64.ofInt z).toInt = w64 z from Int64.toInt_ofInt] at this
theorem of_w32 (z : Int) : Int32.ofInt (w32 z) = Int32.ofInt z := by
  rw [show w32 z = (Int32.ofInt z).toInt from Int32.toInt_ofInt.symm, Int32.ofInt_toInt]
theorem of_w64 (z : Int) : Int64.ofInt (w64 z) = Int64.ofInt z := by
  rw [show w64 z = (Int64.ofInt z).toInt from Int64.toInt_ofInt.symm, Int64.ofInt_toInt]
theorem w32_id {z : Int} (h : inR z) : w32 z = z := by
  rw [show w32 z = (Int32.ofInt z).toInt from Int32.toInt_ofInt.symm, toI h]
theorem w64_id {z : Int} (h : inL z) : w64 z = z := by
  rw [show w64 z = (Int64.ofInt z).toInt from Int64.toInt_ofInt.symm, toL h]
theorem Wp.iaddw {x y : Int} (hd : decode Y.2.1 pc = .ok (.iadd, 1)) (K : Wp l G lw Y d ph Q (pc + 1) lv (.inl (w32 (x + y)) :: st) m n bc bs) : Wp l G lw Y d ph Q pc lv (.inl y :: .inl x :: st) m n bc bs :=
  Wp.go (fun w _ _ => wf_cons (v := .inl (w32 (x + y))) (inR_w32 _) (wf_tl (wf_tl w))) (fun _ _ _ _ _ _ _ _ _ _ _ _ _ _ _ hx hb _ _ _ _ _ _ _ k => lv_iadd hx hb hd (by rw [← Int32.ofInt_add, ← of_w32]; exact k)) K
theorem Wp.isubw {x y : Int} (hd : decode Y.2.1 pc = .ok (.isub, 1)) (K : Wp l G lw Y d ph Q (pc + 1) lv (.inl (w32 (x - y)) :: st) m n bc bs) : Wp l G lw Y d ph Q pc lv (.inl y :: .inl x :: st) m n bc bs :=
  Wp.go (fun w _ _ => wf_cons (v := .inl (w32 (x - y))) (inR_w32 _) (wf_tl (wf_tl w))) (fun _ _ _ _ _ _ _ _ _ _ _ _ _ _ _ hx hb _ _ _ _ _ _ _ k => lv_isub hx hb hd (by rw [← Int32.ofInt_sub, ← of_w32]; exact k)) K
theorem Wp.imulw {x y : Int} (hd : decode Y.2.1 pc = .ok (.imul, 1)) (K : Wp l G lw Y d ph Q (pc + 1) lv (.inl (w32 (x * y)) :: st) m n bc bs) : Wp l G lw Y d ph Q pc lv (.inl y :: .inl x :: st) m n bc bs :=
  Wp.go (fun w _ _ => wf_cons (v := .inl (w32 (x * y))) (inR_w32 _) (wf_tl (wf_tl w))) (fun _ _ _ _ _ _ _ _ _ _ _ _ _ _ _ hx hb _ _ _ _ _ _ _ k => lv_imul hx hb hd (by rw [← Int32.ofInt_mul, ← of_w32]; exact k)) K
theorem Wp.idiv {x y : Int} (hd : decode Y.2.1 pc = .ok (.idiv, 1)) (h0 : y ≠ 0) (K : Wp l G lw Y d ph Q (pc + 1) lv (.inl (w32 (x.tdiv y)) :: st) m n bc bs) : Wp l G lw Y d ph Q pc lv (.inl y :: .inl x :: st) m n bc bs :=
  Wp.go (fun w _ _ => wf_cons (v := .inl (w32 (x.tdiv y))) (inR_w32 _) (wf_tl (wf_tl w))) (fun _ _ _ _ _ _ _ _ _ _ _ _ _ _ _ hx hb _ _ _ w _ _ _ k => by
    have hy : inR y := wf_hd w
    have hxx : inR x := wf_hd (wf_tl w)
    refine lv_idiv hx hb hd (fun h => h0 ?_) ?_
    · have := congrArg Int32.toInt h
      rw [toI hy] at this
      simpa using this
    · have e : Int32.ofInt x / Int32.ofInt y = Int32.ofInt (w32 (x.tdiv y)) := by
        apply Int32.toInt_inj.mp
        rw [Int32.toInt_div, toI hxx, toI hy, toI (inR_w32 _)]
        rfl
      rw [e]
      exact k) K
theorem Wp.irem {x y : Int} (hd : decode Y.2.1 pc = .ok (.irem, 1)) (h0 : y ≠ 0) (K : Wp l G lw Y d ph Q (pc + 1) lv (.inl (x.tmod y) :: st) m n bc bs) : Wp l G lw Y d ph Q pc lv (.inl y :: .inl x :: st) m n bc bs := by
  have hm : inR x → inR y → (Int32.ofInt x % Int32.ofInt y).toInt = x.tmod y := fun h1 h2 => by rw [Int32.toInt_mod, toI h1, toI h2]
  exact Wp.go (fun w _ _ => wf_cons (v := .inl (x.tmod y)) (by rw [← hm (wf_hd (wf_tl w)) (wf_hd w)]; exact inR_toInt _) (wf_tl (wf_tl w))) (fun _ _ _ _ _ _ _ _ _ _ _ _ _ _ _ hx hb _ _ _ w _ _ _ k => by
    have hy : inR y := wf_hd w
    have hxx : inR x := wf_hd (wf_tl w)
    refine lv_irem hx hb hd (fun h => h0 ?_) ?_
    · have := congrArg Int32.toInt h
      rw [toI hy] at this
      simpa using this
    · have e : Int32.ofInt x % Int32.ofInt y = Int32.ofInt (x.tmod y) := by
        rw [← hm hxx hy, Int32.ofInt_toInt]
      first | (rw [e]; exact k) | (rw [irem_eq_mod, e]; exact k)) K
end Steps
