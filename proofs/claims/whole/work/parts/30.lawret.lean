def Y_Law : YD := (x, code, 4, ret)
/-- the law's own end, with 1 on the stack, nothing written that was there before, its room as the claim has it -/
theorem lw_ret {p : Program} {l : Launch} {e : Env} {s : State} {m : MethodId} {below : List Frame} {meth : Method} {c : Code} {b : Nat} (hx : p.tables.exec = Jvm.exec) (hb : c.code = code) (hr : meth.sig.returnType = ret) (hlocks : meth.locks = false) {pc : Nat} {H : Heap} {ls : Array Slot} (hdg : decode code pc = .ok (.ireturn, 1)) : W p l e room_1 s m #[Value.ref b] below meth c H [] 600000 7302250 (lw_Z below #[Value.ref b] s) (F0 m pc ls [.int 1]) := by
  intro T hT X
  obtain ⟨fs, hret, hrun, hended, hW, hframe⟩ := X.leave (v := some (.int 1)) (hlocks := hlocks) (fun h => by rw [hr] at h; cases h)
  have hmeth' : T.vm.method? m = some meth := X.method'
  refine ⟨T.setFrames fs, ?_, .returned (some (.int 1)), hrun, hended, rfl, ⟨_, rfl⟩, hW, hframe⟩
  jvm_step X.here [X.here.top, hx, hb, hdg, hmeth', hr, ret, narrow_b1]
  (try refine ⟨rfl, ?_⟩); (try refine ⟨rfl, ?_⟩)
  first | (intro acts; rw [hret _ acts rfl rfl rfl]) | rw [hret _ _ rfl rfl rfl]
  exact Steps.refl _

theorem Wq.lawret {l : Launch} {G : GT} {d pc : Nat} {Q : Option MV → MM → Nat → Prop} {lv : List (Nat × MV)} {m : MM} (hd : decode Y_Law.2.1 pc = .ok (.ireturn, 1)) : Wq l G true Y_Law d Q pc lv [.inl 1] m := by
  intro p e s mm args below meth c H locs cells slots ls mc ms hC hL e1 e2 w1 w2 hl hR hS
  obtain ⟨⟨hX, hb, hz, ha, hL9, hx⟩, rfl, rfl⟩ := hL rfl
  subst ha
  refine va_forget (fun q hq => ?_) ?_
  · have : g_b G ≤ q.base := hS.2.2 q hq
    omega
  · refine W.widen (k := 600000) (n := 7302250) (by omega) (by omega) ?_
    exact lw_ret hC.1 hC.2.1 hC.2.2.2.2.2.2.2.2.1 hC.2.2.2.2.2.2.2.1 hd
