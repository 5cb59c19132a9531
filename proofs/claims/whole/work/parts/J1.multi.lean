/-! new int[6][46] -/
theorem ga_link : Cond.classLink "SandPlates$Fire" 15 "[[I" ∈ q_W := q_Wt 314 (by decide +kernel) rfl
theorem ga_nm : "[" ++ (FieldType.array .int).toString = "[[I" := by decide +kernel
theorem ga_ext {cA : ClassId} {N : Nat} {f g : Nat → Value} (h : ∀ j, j < N → f j = g j) : arrV cA N f = arrV cA N g := by
  unfold arrV
  congr 1
  congr 1
  funext j
  exact h j.val j.isLt
section Make2
variable {p : Program} {l : Launch} {e : Env} {R : Room} {s : State} {m : MethodId} {args : Array Value} {below : List Frame} {meth : Method} {c : Code} {T : State} {H : Heap} {locs : List Loc} {cells slots : Nat} {Q : State → Prop} {cc : ByteArray}
theorem ga_stand (X : Stand p l e R s m args below meth c T locs cells slots) (cA cI : ClassId) : ∀ i : Nat, Stand p l e R s m args below meth c (ga_S T cA cI i) (locs ++ (List.range i).map fun j => (⟨T.heap.size, j⟩ : Loc)) (cells + 1 + i) (slots + 6 + i * 46)
  | 0 => by
    have h := X.pushed (arrV cA 6 (fun _ => .null))
    rw [arrV_size] at h
    simpa [ga_S] using h
  | i + 1 => by
    have Xi := ga_stand X cA cI i
    obtain ⟨a1, a2, a3, a4, a5, a6⟩ := ga_facts T cA cI i
    have hlt : T.heap.size < (ga_S T cA cI i).heap.size := by omega
    have hb : ((ga_S T cA cI i).pushCell (arrV cI 46 (fun _ => .int 0))).heap[T.heap.size]? = some (arrV cA 6 (ga_f T.heap.size i)) := by
      rw [State.heap_pushCell_of_lt (h := hlt)]
      exact a2
    have h := (Xi.pushed (arrV cI 46 (fun _ => .int 0))).stored hb i (.ref (T.heap.size + 1 + i))
    rw [arrV_size, ga_fs] at h
    have e2 : (locs ++ (List.range (i + 1)).map fun j => (⟨T.heap.size, j⟩ : Loc)) = (locs ++ (List.range i).map fun j => (⟨T.heap.size, j⟩ : Loc)) ++ [⟨T.heap.size, i⟩] := by simp [List.range_succ, List.append_assoc]
    have e3 : slots + 6 + (i + 1) * 46 = slots + 6 + i * 46 + 46 := by omega
    rw [e2, e3]
    exact h
theorem ga_multi (hexec : p.tables.exec = Jvm.exec) (hb : c.code = cc) {own : String} {index : Nat} {cA cI cc0 : ClassId} {kA kI : Class} (hown : s.vm.findClass own = some m.cls) (hclink : (Cond.classLink own index "[[I").before args s = true) (hnA : s.vm.findClass "[[I" = some cA) (hkA : s.vm.classes[cA]? = some kA) (hkindA : kA.kind = .array cI (.array .int)) (hkI : s.vm.classes[cI]? = some kI) (hkindI : kI.kind = .array cc0 .int)
    {g : JFrame} (hg : g.method = m) {rest : List Value} (hstack : g.stack = .int 46 :: .int 6 :: rest) (hdg : decode cc g.pc = .ok (.multianewarray index 2, 4)) (hcells : cells + 7 ≤ R.cells) (hslots : slots + 282 ≤ R.slots)
    (kk : ∀ H1 : Heap, H1.size = H.size + 7 → H1[H.size]? = some (arrV cA 6 (ga_f H.size 6)) → (∀ j, j < 6 → H1[H.size + 1 + j]? = some (arrV cI 46 (fun _ => .int 0))) → (∀ q, q < H.size → H1[q]? = H[q]?) → W p l e R s m args below meth c H1 locs (cells + 7) (slots + 282) Q { g with pc := g.pc + 4, stack := .ref H.size :: rest }) : W p l e R s m args below meth c H locs cells slots Q g := by
  intro T hT X
  subst hT
  subst hb
  subst hg
  have hpl : e.platform.magicAccessors = ({} : Platform).magicAccessors := by rw [X.admits.platform]
  obtain ⟨c0, hc0, hcl⟩ := Cond.classLink_spec hown hclink e.platform hpl
  have eA : c0 = cA := Option.some.inj (hc0.symm.trans hnA)
  rw [eA] at hcl
  obtain ⟨hg₁, hwarm₁, hready₁⟩ := State.classEntry (e := e) X.warmed hcl
  generalize T.vm.noted g.method.cls index (.cls cA) = vm₁ at hg₁ hwarm₁ hready₁
  have hal : s.vm.Alike vm₁ := hwarm₁.alike
  obtain ⟨kA₁, hkA₁, heA⟩ := hal.2.2 _ _ hkA
  obtain ⟨kI₁, hkI₁, heI⟩ := hal.2.2 _ _ hkI
  have hkA2 : kA₁.kind = .array cI (.array .int) := by rw [heA]; exact hkindA
  have hkI2 : kI₁.kind = .array cc0 .int := by rw [heI]; exact hkindI
  have X₁ := X.noted hwarm₁
  obtain ⟨hr1, hr2⟩ := X.roomAbove hcells hslots
  have XF : Stand p l e R s g.method args below meth c (ga_S (T.setVm vm₁) cA cI 6) locs (cells + 1 + 6) (slots + 6 + 6 * 46) := (ga_stand X₁ cA cI 6).dropFresh (fun x hx => by
    obtain ⟨j, -, rfl⟩ := List.mem_map.mp hx
    exact X.heapGrown)
  obtain ⟨a1, a2, a3, a4, a5, a6⟩ := ga_facts (T.setVm vm₁) cA cI 6
  obtain ⟨t1, s1, s2⟩ := kk (ga_S (T.setVm vm₁) cA cI 6).heap a1 a2 a6 a5 (ga_S (T.setVm vm₁) cA cI 6) rfl XF
  refine ⟨t1, ?_, s2⟩
  have hl6 : ¬ 6 > e.platform.arrayLengthLimit := by rw [Launch.admits_arrayLengthLimit X.admits]; omega
  have hl : ¬ 46 > e.platform.arrayLengthLimit := by rw [Launch.admits_arrayLengthLimit X.admits]; omega
  have hh6 : ¬ 6 * componentBytes (.array .int) > e.platform.maxHeapBytes := by
    rw [Launch.admits_maxHeapBytes X.admits]
    show ¬ 6 * 4 > 536870912
    omega
  have hh : ¬ 46 * componentBytes .int > e.platform.maxHeapBytes := by
    rw [Launch.admits_maxHeapBytes X.admits]
    show ¬ 46 * 4 > 536870912
    omega
  jvm_step X.here [hexec, hdg]
  simp only [multianewarray.sem, wp_bind', Jvm.W.resolveClassAt_links (State.method?_setTop g X.here.top) hg₁]
  rw [Jvm.W.popN, if_neg (by decide)]
  refine ⟨g, State.topJava?_setTop' (s := T.setVm vm₁) g X.here.top, [.int 6, .int 46], rest, rfl, hstack, ?_⟩
  simp only [List.mapM_cons, List.mapM_nil, wp_bind', wp_pure']
  refine ga_make (kA := kA₁) (kI := kI₁) (cc := cc0) hkA₁ hkA2 hkI₁ hkI2 hl6 hh6 hl hh (by show T.heap.size + 7 ≤ _; omega) (by show T.slotsUsed + 282 ≤ _; omega) (fun d' acts' => ?_)
  have eS : ((T.setTop g).setVm vm₁).setTop { g with stack := rest } = (T.setVm vm₁).setTop { g with stack := rest } := by
    show ((T.setVm vm₁).setTop g).setTop _ = _
    rw [State.setTop_setTop]
  rw [eS, ga_top]
  simp only [wp_bind', Jvm.W.mark, Jvm.W.pushRef, State.topJava?_setTop' _ XF.here.top, Option.some.injEq, exists_eq_left', State.setTop_setTop, State.heap_setTop]
  intro acts
  simp [jvm, XF.here.top]
  exact s1
end Make2
def gaM (m : MM) (n : Nat) : MM := fun b => if b = n then (fun i => (n : Int) + 1 + i) else if n < b ∧ b < n + 7 then (fun _ => 0) else m b
section Make3
variable {l : Launch} {G : GT} {lw : Bool} {Y : YD} {d : Nat} {Q : Option MV → MM → Nat → Prop} {pc : Nat} {lv : List (Nat × MV)} {st : List MV} {m : MM} {n bc bs : Nat}
theorem gaM_eq : gaM m n n = fun i => (n : Int) + 1 + i := by unfold gaM; rw [if_pos rfl]
theorem gaM_in {b : Nat} (h : n < b ∧ b < n + 7) : gaM m n b = fun _ => 0 := by unfold gaM; rw [if_neg (by omega), if_pos h]
theorem gaM_ne {b : Nat} (h : b < n ∨ n + 7 ≤ b) : gaM m n b = m b := by unfold gaM; rw [if_neg (by omega), if_neg (by omega)]
theorem Wp.multi {idx : Nat} (hd : decode Y.2.1 pc = .ok (.multianewarray idx 2, 4)) (hcl : Cond.classLink Y.1.cls idx "[[I" ∈ q_W) (hL : q_lay n = .inr (4, 6)) (hL2 : ∀ j, j < 6 → q_lay (n + 1 + j) = .inr (0, 46)) (hn : n + 7 ≤ 111) (h1 : 7 ≤ bc) (h2 : 282 ≤ bs)
    (K : Wp l G lw Y d false Q (pc + 4) lv (.inr (.inr n) :: st) (gaM m n) (n + 7) (bc - 7) (bs - 282)) : Wp l G lw Y d false Q pc lv (.inl 46 :: .inl 6 :: st) m n bc bs := by
  intro p e s mm args below meth cc H locs cells slots ls mc ms hC hLw e1 e2 w1 w2 hl hR hS
  have hts := hC.2.2.2.2.1
  have hrc := q_roomC (d := d) (fun h => (hLw h).2)
  have hsz := hR.2.2.2 rfl
  obtain ⟨hK, -, -, kA, hkA, hkindA⟩ := hC.2.2.2.2.2.1
  have t4 : (q_tys G)[4]? = some (g_A G 4, .array .int) := rfl
  have hnA : s.vm.findClass ("[" ++ (FieldType.array .int).toString) = some (g_A G 4) := (hK.2 4 _ t4).2
  rw [ga_nm] at hnA
  have t0 : (q_tys G)[0]? = some (g_A G 0, .int) := rfl
  have hnI : s.vm.findClass ("[" ++ FieldType.int.toString) = some (g_A G 0) := (hK.2 0 _ t0).2
  obtain ⟨cI, kI, cc0, hcI, hkI, hkindI⟩ := Cond.arrayClass_spec (hts _ ac_int)
  have eI : cI = g_A G 0 := Option.some.inj (hcI.symm.trans hnI)
  rw [eI] at hkI
  show W _ _ _ _ _ _ _ _ _ _ _ _ _ _ _ (F0 mm pc ls (.int 46 :: .int 6 :: st.map (g_val G)))
  refine ga_multi hC.1 hC.2.1 hC.2.2.2.1 (hts _ hcl) hnA hkA hkindA hkI hkindI (g := F0 mm pc ls (.int 46 :: .int 6 :: st.map (g_val G))) rfl rfl hd (by rw [hrc.1]; omega) (by rw [hrc.2]; omega) (fun H1 z1 o1 i1 r1 => ?_)
  rw [hsz] at z1 o1 i1 r1
  have hP1 : va_P (g_D G) q_cls (g_ws G (gaM m n) (n + 7)) H1 := by
    intro k x hx
    have hk : k < n + 7 := by
      have := (List.getElem?_eq_some_iff.mp hx).1
      simpa [g_ws] using this
    rw [g_ws_get hk] at hx
    cases hx
    rcases Nat.lt_or_ge k n with q | q
    · have h9 := hR.1 k _ (g_ws_get (m := m) q)
      rw [gaM_ne (Or.inl q)]
      exact h9.kept (r1 _ (by show g_b G + k < g_b G + n; omega))
    · by_cases r : k = n
      · subst r
        rw [hL, gaM_eq]
        show H1[g_b G + k]? = some (vp_cell (g_A G 4) (6, _))
        rw [o1]
        show some (arrV (g_A G 4) 6 (ga_f (g_b G + k) 6)) = some (arrV (g_A G 4) 6 (fun j : Nat => va_rf (if (k : Int) + 1 + (j : Int) < 0 then none else some (g_ad G ((k : Int) + 1 + (j : Int)).toNat))))
        congr 1
        refine ga_ext (fun j hj => ?_)
        show ga_f (g_b G + k) 6 j = va_rf (if (k : Int) + 1 + (j : Int) < 0 then none else some (g_ad G ((k : Int) + 1 + (j : Int)).toNat))
        rw [if_neg (by omega), show ((k : Int) + 1 + (j : Int)).toNat = k + 1 + j by omega, q_adb (by omega)]
        unfold ga_f
        rw [if_pos hj, show g_b G + k + 1 + j = g_b G + (k + 1 + j) by omega]
        rfl
      · obtain ⟨j, rfl⟩ : ∃ j, k = n + 1 + j := ⟨k - (n + 1), by omega⟩
        rw [hL2 j (by omega), gaM_in (by omega)]
        show H1[g_b G + (n + 1 + j)]? = some (vp_cell (g_A G 0) (46, _))
        rw [show g_b G + (n + 1 + j) = g_b G + n + 1 + j by omega, i1 j (by omega)]
        rfl
  have := K p e s mm args below meth cc H1 locs (cells + 7) (slots + 282) ls mc ms hC hLw (by omega) (by omega) w1 (wf_cons (v := .inr (.inr n)) trivial (wf_tl (wf_tl w2))) hl ⟨hP1, fun b i => ?_, (fun h => by cases h), fun _ => by omega⟩ ⟨Nat.le_trans hS.1 (by omega), fun x q1 q2 => (r1 x (by have := hS.1; omega)).trans (hS.2.1 x q1 q2), hS.2.2⟩
  · rw [show (List.map (g_val G) (.inr (.inr n) :: st)) = .ref (g_b G + n) :: List.map (g_val G) st from congrArg (fun q => Value.ref q :: List.map (g_val G) st) (q_adb (by omega))] at this
    rw [hsz]
    exact this
  · by_cases q : b = n
    · subst q
      unfold q_st
      rw [hL]
      trivial
    · by_cases r : n < b ∧ b < n + 7
      · rw [gaM_in r]
        exact Rg0 _
      · rw [gaM_ne (by omega)]
        exact hR.2.1 b i
end Make3
