/-! While things are made: room left over, a long in a row, a row of rows. -/
section Make0
variable {l : Launch} {G : GT} {lw : Bool} {Y : YD} {d : Nat} {ph : Bool} {Q : Option MV → MM → Nat → Prop} {pc : Nat} {lv : List (Nat × MV)} {st : List MV} {m : MM} {n bc bs : Nat}
theorem Wp.slack {bc1 bs1 : Nat} (h1 : bc1 ≤ bc) (h2 : bs1 ≤ bs) (K : Wp l G lw Y d ph Q pc lv st m n bc1 bs1) : Wp l G lw Y d ph Q pc lv st m n bc bs := by
  intro p e s mm args below meth c H locs cells slots ls mc ms hC hL e1 e2 w1 w2 hl hR hS
  refine W.widen (k := mc - bc1) (n := ms - bs1) (by omega) (by omega) ?_
  exact K p e s mm args below meth c H locs (mc - bc1) (ms - bs1) ls mc ms hC hL (by omega) (by omega) w1 w2 hl hR hS
/-- lastore while things are made -/
theorem Wp.last1 {a len : Nat} {i z : Int} (hd : decode Y.2.1 pc = .ok (.lastore, 1)) (ha : q_lay a = .inr (1, len)) (hn : a < n) (h0 : 0 ≤ i) (h1 : i < len)
    (K : Wp l G lw Y d false Q (pc + 1) lv st (up m a i z) n bc bs) : Wp l G lw Y d false Q pc lv (.inr (.inl z) :: .inl i :: .inr (.inr a) :: st) m n bc bs := by
  intro p e s mm args below meth c H locs cells slots ls mc ms hC hL e1 e2 w1 w2 hl hR hS
  have ha1 := q_lay_arr ha (by omega)
  have hri : inR i := wf_hd (wf_tl w2)
  have hzz : inL z := wf_hd w2
  have he : (g_ws G m n)[a]? = some (g_b G + a, .inl (g_A G 1, len, .inr (.inl fun j => Int64.ofInt (m a j)))) := by
    rw [g_ws_get hn, ha]
    rfl
  show W _ _ _ _ _ _ _ _ _ _ _ _ _ _ _ (F0 mm pc ls (.long (Int64.ofInt z) :: .int (Int32.ofInt i) :: .ref (g_ad G a) :: st.map (g_val G)))
  rw [q_adb (by omega)]
  have hty : (q_tys G)[1]? = some (g_A G 1, .long) := rfl
  have hK := hC.2.2.2.2.2.1.1
  have hin : ¬ (Int32.ofInt i < 0 ∨ (arrV (g_A G 1) len (fun j => .long (Int64.ofInt (m a j)))).slots.size ≤ (Int32.ofInt i).toNatClampNeg) := by
    rw [arrV_size]
    exact q_vin h0 h1 hri
  refine W.last hC.1 hC.2.1 (hR.1 a _ he) ((hK.2 1 _ hty).1 len (fun j => .long (Int64.ofInt (m a j)))) (fun q => by cases q) hin rfl rfl hd fun H1 e3 z1 oq => ?_
  have hP1 : va_P (g_D G) q_cls ((g_ws G m n).set a (g_b G + a, .inl (g_A G 1, len, .inr (.inl (vp_updL (fun j : Nat => Int64.ofInt (m a j)) i.toNat (Int64.ofInt z)))))) H1 := by
    refine hR.1.set g_ws_D he ?_ oq
    refine e3.trans ?_
    show some ((arrV (g_A G 1) len (fun j : Nat => .long (Int64.ofInt (m a j)))).setSlot (Int32.ofInt i).toNatClampNeg (.long (Int64.ofInt z))) = some (arrV (g_A G 1) len (fun j : Nat => .long (vp_updL (fun j : Nat => Int64.ofInt (m a j)) i.toNat (Int64.ofInt z) j)))
    rw [toN hri, arrV_store]
    congr 2
    funext q
    by_cases hq : q = i.toNat
    · subst hq
      simp [updV, vp_updL]
    · simp [updV, vp_updL, hq]
  have e9 : g_con G 1 (fun t => if t = i then z else m a t) = .inr (.inl (vp_updL (fun j : Nat => Int64.ofInt (m a j)) i.toNat (Int64.ofInt z))) := by
    show Sum.inr (Sum.inl _) = Sum.inr (Sum.inl _)
    rw [show vp_updL (fun j : Nat => Int64.ofInt (m a j)) i.toNat (Int64.ofInt z) = fun j : Nat => if j = i.toNat then Int64.ofInt z else Int64.ofInt (m a j) from rfl, upd_of (f := m a) (g := Int64.ofInt) h0]
  have hws : (g_ws G m n).set a (g_b G + a, .inl (g_A G 1, len, .inr (.inl (vp_updL (fun j : Nat => Int64.ofInt (m a j)) i.toNat (Int64.ofInt z))))) = g_ws G (up m a i z) n := by
    rw [← g_ws_set (m := m) (m' := up m a i z) hn (fun b hb => up_ne hb), up_eq, ha, ← e9]
    rfl
  rw [hws] at hP1
  refine K p e s mm args below meth c H1 _ cells slots ls mc ms hC hL e1 e2 w1 (wf_tl (wf_tl (wf_tl w2))) hl ⟨hP1, wfM_up hR.2.1 ?_, (fun h => by cases h), fun _ => z1.trans (hR.2.2.2 rfl)⟩ (hS.put z1 oq (show g_b G ≤ g_b G + a by omega))
  unfold q_st
  rw [ha]
  exact hzz
end Make0
/-! six rows of 46, and the row of them -/
def ga_f (h i j : Nat) : Value := if j < i then .ref (h + 1 + j) else .null
def ga_S (T : State) (cA cI : ClassId) : Nat → State
  | 0 => T.pushCell (arrV cA 6 (fun _ => .null))
  | i + 1 => ((ga_S T cA cI i).pushCell (arrV cI 46 (fun _ => .int 0))).setCell T.heap.size (arrV cA 6 (ga_f T.heap.size (i + 1)))
theorem ga_f0 (h : Nat) : ga_f h 0 = fun _ => .null := by
  funext j
  exact if_neg (Nat.not_lt_zero j)
theorem ga_fs (cA : ClassId) (h i : Nat) : (arrV cA 6 (ga_f h i)).setSlot i (.ref (h + 1 + i)) = arrV cA 6 (ga_f h (i + 1)) := by
  rw [arrV_store]
  congr 1
  funext j
  unfold updV ga_f
  by_cases q : j = i
  · rw [if_pos q, if_pos (by omega), q]
  · rw [if_neg q]
    by_cases r : j < i
    · rw [if_pos r, if_pos (by omega)]
    · rw [if_neg r, if_neg (by omega)]
theorem ga_facts (T : State) (cA cI : ClassId) : ∀ i : Nat, (ga_S T cA cI i).heap.size = T.heap.size + 1 + i ∧ (ga_S T cA cI i).heap[T.heap.size]? = some (arrV cA 6 (ga_f T.heap.size i)) ∧ (ga_S T cA cI i).vm = T.vm ∧ (ga_S T cA cI i).slotsUsed = T.slotsUsed + 6 + i * 46 ∧ (∀ q, q < T.heap.size → (ga_S T cA cI i).heap[q]? = T.heap[q]?) ∧ ∀ j, j < i → (ga_S T cA cI i).heap[T.heap.size + 1 + j]? = some (arrV cI 46 (fun _ => .int 0))
  | 0 => by
    refine ⟨by simp [ga_S], ?_, rfl, by simp [ga_S, arrV_size], fun q hq => State.heap_pushCell_of_lt _ _ hq, fun j hj => absurd hj (Nat.not_lt_zero j)⟩
    rw [ga_f0]
    exact State.heap_pushCell_size _ _
  | i + 1 => by
    obtain ⟨a1, a2, a3, a4, a5, a6⟩ := ga_facts T cA cI i
    have hlt : T.heap.size < (ga_S T cA cI i).heap.size := by omega
    have hb : ((ga_S T cA cI i).pushCell (arrV cI 46 (fun _ => .int 0))).heap[T.heap.size]? = some (arrV cA 6 (ga_f T.heap.size i)) := by
      rw [State.heap_pushCell_of_lt (h := hlt)]
      exact a2
    refine ⟨?_, State.heap_setCell_self hb, by simp [ga_S, a3], ?_, fun q hq => ?_, fun j hj => ?_⟩
    · simp [ga_S, State.setCell, a1]
      omega
    · simp [ga_S, a4, arrV_size]
      omega
    · show (((ga_S T cA cI i).pushCell (arrV cI 46 (fun _ => .int 0))).setCell T.heap.size _).heap[q]? = _
      rw [State.heap_setCell_other (Nat.ne_of_gt hq), State.heap_pushCell_of_lt (h := Nat.lt_trans hq hlt)]
      exact a5 q hq
    · show (((ga_S T cA cI i).pushCell (arrV cI 46 (fun _ => .int 0))).setCell T.heap.size _).heap[T.heap.size + 1 + j]? = _
      rw [State.heap_setCell_other (show T.heap.size ≠ T.heap.size + 1 + j by omega)]
      rcases Nat.lt_or_ge j i with r | r
      · have hj2 : T.heap.size + 1 + j < (ga_S T cA cI i).heap.size := by omega
        rw [State.heap_pushCell_of_lt (h := hj2)]
        exact a6 j r
      · have e : T.heap.size + 1 + j = (ga_S T cA cI i).heap.size := by omega
        rw [e]
        exact State.heap_pushCell_size _ _
theorem ga_top (T : State) (f : JFrame) (cA cI : ClassId) : ∀ i : Nat, ga_S (T.setTop f) cA cI i = (ga_S T cA cI i).setTop f
  | 0 => rfl
  | i + 1 => by simp only [ga_S, ga_top T f cA cI i, State.heap_setTop, State.pushCell_setTop, State.setCell_setTop]
section Make1
variable {E : CtlPost} {e : Env} {d : Bool} {acts : List Action} {s : State}
/-- one row is made -/
theorem ga_row {c comp : ClassId} {k : Class} {ty : FieldType} {N : Nat} {v : Value} (hk : s.vm.classes[c]? = some k) (hkind : k.kind = .array comp ty) (hlimit : ¬ N > e.platform.arrayLengthLimit) (hheap : ¬ N * componentBytes ty > e.platform.maxHeapBytes) (hf : fits ty v = true) (hv : v.isDefault = true) (h1 : s.heap.size < e.platform.maxCells) (h2 : s.slotsUsed + N ≤ e.platform.maxSlots) {Q : Addr → Pre} (hq : Q s.heap.size d acts (s.pushCell (arrV c N (fun _ => v)))) : wp (Jvm.newArray c N v) Q E e d acts s := by
  have a1 : ∀ i w, (Array.replicate N v)[i]? = some w → s.fitsSlot c .none i w = true := fun i w hw => by
    rw [Array.getElem?_replicate] at hw
    split at hw
    · cases hw
      simp [State.fitsSlot, State.slotType?, hk, hkind, hf]
    · cases hw
  have a2 : allocActs (Array.replicate N v) s.heap.size acts = acts := by
    unfold allocActs
    rw [if_pos]
    rw [Array.all_replicate]
    split <;> simp [hv]
  rw [← arrV_new] at hq
  simp only [Jvm.newArray, Jvm.arrayFits, wp_bind', Jvm.W.ask, Jvm.W.ite, hlimit, if_false, wp_pure', Jvm.W.theClass, hk, hkind, hheap, Jvm.W.alloc, Jvm.W.stop, Option.some.injEq, exists_eq_left', Array.size_replicate, a2]
  rw [if_neg (by omega)]
  exact ⟨h1, h2, a1, hq⟩
theorem ga_n6 : ¬ (6 : Int32) < 0 := by decide
theorem ga_n46 : ¬ (46 : Int32) < 0 := by decide
theorem ga_t6 : (6 : Int32).toNatClampNeg = 6 := by decide
theorem ga_t46 : (46 : Int32).toNatClampNeg = 46 := by decide
theorem ga_in {cI cc : ClassId} {kI : Class} (hkI : s.vm.classes[cI]? = some kI) (hI : kI.kind = .array cc .int) (hl : ¬ 46 > e.platform.arrayLengthLimit) (hh : ¬ 46 * componentBytes .int > e.platform.maxHeapBytes) (h1 : s.heap.size < e.platform.maxCells) (h2 : s.slotsUsed + 46 ≤ e.platform.maxSlots) {Q : Addr → Pre} (hq : Q s.heap.size d acts (s.pushCell (arrV cI 46 (fun _ => .int 0)))) : wp (multianewarray.make cI [46]) Q E e d acts s := by
  rw [multianewarray.make]
  simp only [wp_bind', Jvm.W.ite, ga_n46, if_false, wp_pure', Jvm.W.theClass, hkI, hI, Option.some.injEq, exists_eq_left']
  rw [ga_t46]
  exact ga_row (v := .int 0) hkI hI hl hh rfl rfl h1 h2 hq
theorem ga_make {cA cI cc : ClassId} {kA kI : Class} (hkA : s.vm.classes[cA]? = some kA) (hA : kA.kind = .array cI (.array .int)) (hkI : s.vm.classes[cI]? = some kI) (hI : kI.kind = .array cc .int) (hl6 : ¬ 6 > e.platform.arrayLengthLimit) (hh6 : ¬ 6 * componentBytes (.array .int) > e.platform.maxHeapBytes) (hl : ¬ 46 > e.platform.arrayLengthLimit) (hh : ¬ 46 * componentBytes .int > e.platform.maxHeapBytes) (hc : s.heap.size + 7 ≤ e.platform.maxCells) (hs : s.slotsUsed + 282 ≤ e.platform.maxSlots) {Q : Addr → Pre} (hq : ∀ d' acts', Q s.heap.size d' acts' (ga_S s cA cI 6)) : wp (multianewarray.make cA [6, 46]) Q E e d acts s := by
  have hfind : ([(46 : Int32)].find? (· < 0)) = none := by decide
  rw [multianewarray.make]
  simp only [wp_bind', Jvm.W.ite, ga_n6, if_false, wp_pure', Jvm.W.theClass, hkA, hA, Option.some.injEq, exists_eq_left']
  rw [ga_t6]
  refine ga_row (v := .null) hkA hA hl6 hh6 rfl rfl (by omega) (by omega) ?_
  simp only [hfind]
  rw [ite_self, wp_bind', Std.Legacy.Range.forIn_eq_forIn_range']
  have hsz : ([:6] : Std.Legacy.Range).size = 6 := by simp [Std.Legacy.Range.size]
  rw [hsz]
  show wp (forIn (List.range' 0 6 1) PUnit.unit _) _ E e d acts _
  refine wp_forIn_inv (fun rest s' => ∃ i, i ≤ 6 ∧ rest = List.range' i (6 - i) ∧ s' = ga_S s cA cI i) _ _ ⟨0, Nat.zero_le _, rfl, rfl⟩ ?_ ?_
  · rintro x rest s' d' acts' Q' ⟨i, hi, hr, rfl⟩ next
    have hlt : i < 6 := by
      rcases Nat.lt_or_ge i 6 with q | q
      · exact q
      · rw [show 6 - i = 0 by omega] at hr
        cases hr
    rw [show 6 - i = (6 - (i + 1)) + 1 by omega, List.range'_succ] at hr
    obtain ⟨rfl, hr2⟩ := List.cons.inj hr
    obtain ⟨a1, a2, a3, a4, a5, a6⟩ := ga_facts s cA cI x
    simp only [wp_bind']
    refine ga_in (by rw [a3]; exact hkI) hI hl hh (by omega) (by omega) ?_
    have hlt0 : s.heap.size < (ga_S s cA cI x).heap.size := by omega
    simp only [wp_bind', Jvm.W.writeLoc, wp_pure']
    refine ⟨arrV cA 6 (ga_f s.heap.size x), by rw [State.heap_pushCell_of_lt (h := hlt0)]; exact a2, (fun q => by cases q), by rw [arrV_size]; exact hlt, ?_, next _ _ _ ⟨x + 1, hlt, hr2, ?_⟩⟩
    · show State.fitsSlot _ cA .none x _ = true
      simp [State.fitsSlot, State.slotType?, a3, hkA, hA, fits]
    · rw [a1, ga_fs]
      rfl
  · rintro s' d' acts' ⟨i, hi, hr, rfl⟩
    have h6 : i = 6 := by
      rcases Nat.lt_or_ge i 6 with q | q
      · rw [show 6 - i = (6 - (i + 1)) + 1 by omega, List.range'_succ] at hr
        cases hr
      · omega
    rw [h6]
    simp only [wp_pure']
    exact hq _ _
end Make1
