/-- a frame of a method that makes nothing -/
abbrev Wq (l : Launch) (G : GT) (lw : Bool) (Y : YD) (d : Nat) (Q : Option MV → MM → Nat → Prop) (pc : Nat) (lv : List (Nat × MV)) (st : List MV) (m : MM) : Prop := Wp l G lw Y d true Q pc lv st m 111 0 0
section Plain
variable {l : Launch} {G : GT} {lw : Bool} {Y : YD} {d : Nat} {Q : Option MV → MM → Nat → Prop} {pc pc' : Nat} {lv lv' : List (Nat × MV)} {st st' : List MV} {m : MM}
theorem CI.of {np : Nat} {av : List MV} {P : Int → MM → Prop} (lv : List (Nat × MV)) (hf : q_fact Y np) (ha : (av.map q_cat).sum ≤ Y.2.2.1) (hl : q_la 0 av = lv) (K : Wq l G false Y d (QI P) 0 lv [] m) : CI l G Y d av m P := q_Ok.of hf ha (by rw [hl]; exact K)
theorem CV.of {np : Nat} {av : List MV} {P : MM → Prop} (lv : List (Nat × MV)) (hf : q_fact Y np) (ha : (av.map q_cat).sum ≤ Y.2.2.1) (hl : q_la 0 av = lv) (K : Wq l G false Y d (QV P) 0 lv [] m) : CV l G Y d av m P := q_Ok.of hf ha (by rw [hl]; exact K)
theorem CJ.of {np : Nat} {av : List MV} {P : Int → MM → Prop} (lv : List (Nat × MV)) (hf : q_fact Y np) (ha : (av.map q_cat).sum ≤ Y.2.2.1) (hl : q_la 0 av = lv) (K : Wq l G false Y d (QJ P) 0 lv [] m) : CJ l G Y d av m P := q_Ok.of hf ha (by rw [hl]; exact K)
theorem Wq.iret {z : Int} {P : Int → MM → Prop} (hd : decode Y.2.1 pc = .ok (.ireturn, 1)) (hr : Y.2.2.2 = some .int) (hq : P z m) : Wq l G false Y d (QI P) pc lv [.inl z] m := Wp.iret hd hr (fun _ => ⟨z, rfl, rfl, hq⟩)
theorem Wq.zret {z : Int} {P : Int → MM → Prop} (hd : decode Y.2.1 pc = .ok (.ireturn, 1)) (hr : Y.2.2.2 = some .boolean) (hz : z = 0 ∨ z = 1) (hq : P z m) : Wq l G false Y d (QI P) pc lv [.inl z] m := Wp.zret hd hr hz ⟨z, rfl, rfl, hq⟩
theorem Wq.lret {z : Int} {P : Int → MM → Prop} (hd : decode Y.2.1 pc = .ok (.lreturn, 1)) (hr : Y.2.2.2 = some .long) (hq : P z m) : Wq l G false Y d (QJ P) pc lv [.inr (.inl z)] m := Wp.lret hd hr (fun _ => ⟨z, rfl, rfl, hq⟩)
theorem Wq.vret {P : MM → Prop} (hd : decode Y.2.1 pc = .ok (.return_, 1)) (hr : Y.2.2.2 = none) (hq : P m) : Wq l G false Y d (QV P) pc lv [] m := Wp.vret hd hr ⟨rfl, rfl, hq⟩
theorem Wq.VI {Y2 : YD} {np idx a c d2 : Nat} {P : Int → MM → Prop} (av : List MV) (hd : decode Y.2.1 pc = .ok (.invokevirtual idx, 3)) (hM : q_MV Y2 np) (hl : Cond.methodLink Y.1.cls idx Y2.1 ∈ q_W) (hnp : av.length = np) (hL : q_lay a = .inl c) (hcl : (q_cls[c]?).map (fun q => q.1) = some Y2.1.cls) (hlw : lw = true → d ≤ 400) (hst : (st.map q_cat).sum ≤ 8)
    (hd2 : d2 < d) (ho : CI l G Y2 d2 (.inr (.inr a) :: av) m P) (K : ∀ (z : Int) (m1 : MM), P z m1 → inR z → wfM m1 → Wq l G lw Y d Q (pc + 3) lv (.inl z :: st) m1) : Wq l G lw Y d Q pc lv (av.reverse ++ .inr (.inr a) :: st) m :=
  Wp.callV av hd hM hl ho hnp hL hcl (Or.inl rfl) hd2 hlw hst (Nat.le_refl 0) (Nat.le_refl 0) (fun r m1 n1 h => by
    obtain ⟨z, rfl, rfl, h⟩ := h
    exact Wp.wf (fun hw _ _ w => K z m1 h (wf_hd w) hw))
theorem Wq.VV {Y2 : YD} {np idx a c d2 : Nat} {P : MM → Prop} (av : List MV) (hd : decode Y.2.1 pc = .ok (.invokevirtual idx, 3)) (hM : q_MV Y2 np) (hl : Cond.methodLink Y.1.cls idx Y2.1 ∈ q_W) (hnp : av.length = np) (hL : q_lay a = .inl c) (hcl : (q_cls[c]?).map (fun q => q.1) = some Y2.1.cls) (hlw : lw = true → d ≤ 400) (hst : (st.map q_cat).sum ≤ 8)
    (hd2 : d2 < d) (ho : CV l G Y2 d2 (.inr (.inr a) :: av) m P) (K : ∀ (m1 : MM), P m1 → wfM m1 → Wq l G lw Y d Q (pc + 3) lv st m1) : Wq l G lw Y d Q pc lv (av.reverse ++ .inr (.inr a) :: st) m :=
  Wp.callV av hd hM hl ho hnp hL hcl (Or.inl rfl) hd2 hlw hst (Nat.le_refl 0) (Nat.le_refl 0) (fun r m1 n1 h => by
    obtain ⟨rfl, rfl, h⟩ := h
    exact Wp.wf (fun hw _ _ _ => K m1 h hw))
theorem Wq.VJ {Y2 : YD} {np idx a c d2 : Nat} {P : Int → MM → Prop} (av : List MV) (hd : decode Y.2.1 pc = .ok (.invokevirtual idx, 3)) (hM : q_MV Y2 np) (hl : Cond.methodLink Y.1.cls idx Y2.1 ∈ q_W) (hnp : av.length = np) (hL : q_lay a = .inl c) (hcl : (q_cls[c]?).map (fun q => q.1) = some Y2.1.cls) (hlw : lw = true → d ≤ 400) (hst : (st.map q_cat).sum ≤ 8)
    (hd2 : d2 < d) (ho : CJ l G Y2 d2 (.inr (.inr a) :: av) m P) (K : ∀ (z : Int) (m1 : MM), P z m1 → inL z → wfM m1 → Wq l G lw Y d Q (pc + 3) lv (.inr (.inl z) :: st) m1) : Wq l G lw Y d Q pc lv (av.reverse ++ .inr (.inr a) :: st) m :=
  Wp.callV av hd hM hl ho hnp hL hcl (Or.inl rfl) hd2 hlw hst (Nat.le_refl 0) (Nat.le_refl 0) (fun r m1 n1 h => by
    obtain ⟨z, rfl, rfl, h⟩ := h
    exact Wp.wf (fun hw _ _ w => K z m1 h (wf_hd w) hw))
theorem Wq.SI {Y2 : YD} {np idx d2 : Nat} {P : Int → MM → Prop} (av : List MV) (hd : decode Y.2.1 pc = .ok (.invokestatic idx, 3)) (hM : q_MS Y2 np) (hl : Cond.methodLink Y.1.cls idx Y2.1 ∈ q_W) (hnp : av.length = np) (hlw : lw = true → d ≤ 400) (hst : (st.map q_cat).sum ≤ 8)
    (hd2 : d2 < d) (ho : CI l G Y2 d2 av m P) (K : ∀ (z : Int) (m1 : MM), P z m1 → inR z → wfM m1 → Wq l G lw Y d Q (pc + 3) lv (.inl z :: st) m1) : Wq l G lw Y d Q pc lv (av.reverse ++ st) m :=
  Wp.callS av hd hM hl ho hnp hd2 hlw hst (Nat.le_refl 0) (Nat.le_refl 0) (fun r m1 n1 h => by
    obtain ⟨z, rfl, rfl, h⟩ := h
    exact Wp.wf (fun hw _ _ w => K z m1 h (wf_hd w) hw))
theorem Wq.SV {Y2 : YD} {np idx d2 : Nat} {P : MM → Prop} (av : List MV) (hd : decode Y.2.1 pc = .ok (.invokestatic idx, 3)) (hM : q_MS Y2 np) (hl : Cond.methodLink Y.1.cls idx Y2.1 ∈ q_W) (hnp : av.length = np) (hlw : lw = true → d ≤ 400) (hst : (st.map q_cat).sum ≤ 8)
    (hd2 : d2 < d) (ho : CV l G Y2 d2 av m P) (K : ∀ (m1 : MM), P m1 → wfM m1 → Wq l G lw Y d Q (pc + 3) lv st m1) : Wq l G lw Y d Q pc lv (av.reverse ++ st) m :=
  Wp.callS av hd hM hl ho hnp hd2 hlw hst (Nat.le_refl 0) (Nat.le_refl 0) (fun r m1 n1 h => by
    obtain ⟨rfl, rfl, h⟩ := h
    exact Wp.wf (fun hw _ _ _ => K m1 h hw))
theorem Wq.SJ {Y2 : YD} {np idx d2 : Nat} {P : Int → MM → Prop} (av : List MV) (hd : decode Y.2.1 pc = .ok (.invokestatic idx, 3)) (hM : q_MS Y2 np) (hl : Cond.methodLink Y.1.cls idx Y2.1 ∈ q_W) (hnp : av.length = np) (hlw : lw = true → d ≤ 400) (hst : (st.map q_cat).sum ≤ 8)
    (hd2 : d2 < d) (ho : CJ l G Y2 d2 av m P) (K : ∀ (z : Int) (m1 : MM), P z m1 → inL z → wfM m1 → Wq l G lw Y d Q (pc + 3) lv (.inr (.inl z) :: st) m1) : Wq l G lw Y d Q pc lv (av.reverse ++ st) m :=
  Wp.callS av hd hM hl ho hnp hd2 hlw hst (Nat.le_refl 0) (Nat.le_refl 0) (fun r m1 n1 h => by
    obtain ⟨z, rfl, rfl, h⟩ := h
    exact Wp.wf (fun hw _ _ w => K z m1 h (wf_hd w) hw))
theorem Wq.SNJ {Y2 : YD} {np idx d2 : Nat} {P : Int → MM → Prop} (av : List MV) (hd : decode Y.2.1 pc = .ok (.invokestatic idx, 3)) (hM : q_MS Y2 np) (hl : Cond.methodLinkNest Y.1.cls idx Y2.1 "SandPlates" ∈ q_nest) (hnp : av.length = np) (hlw : lw = true → d ≤ 400) (hst : (st.map q_cat).sum ≤ 8)
    (hd2 : d2 < d) (ho : CJ l G Y2 d2 av m P) (K : ∀ (z : Int) (m1 : MM), P z m1 → inL z → wfM m1 → Wq l G lw Y d Q (pc + 3) lv (.inr (.inl z) :: st) m1) : Wq l G lw Y d Q pc lv (av.reverse ++ st) m :=
  Wp.callSN av hd hM hl ho hnp hd2 hlw hst (Nat.le_refl 0) (Nat.le_refl 0) (fun r m1 n1 h => by
    obtain ⟨z, rfl, rfl, h⟩ := h
    exact Wp.wf (fun hw _ _ w => K z m1 h (wf_hd w) hw))
/-- consequence -/
theorem CI.imp {av : List MV} {P P' : Int → MM → Prop} (h : CI l G Y d av m P) (hi : ∀ z m', P z m' → P' z m') : CI l G Y d av m P' := by
  intro p e ha hc hk s mm args below hf happ hpre htr
  obtain ⟨k, o, h1, h2, h3, ⟨⟨r, m1, n1, e1, ⟨z, e2, e3, hp⟩, e4, e5⟩, e6⟩, e7⟩ := h p e ha hc hk s mm args below hf happ hpre htr
  exact ⟨k, o, h1, h2, h3, ⟨⟨r, m1, n1, e1, ⟨z, e2, e3, hi z m1 hp⟩, e4, e5⟩, e6⟩, e7⟩
theorem CV.imp {av : List MV} {P P' : MM → Prop} (h : CV l G Y d av m P) (hi : ∀ m', P m' → P' m') : CV l G Y d av m P' := by
  intro p e ha hc hk s mm args below hf happ hpre htr
  obtain ⟨k, o, h1, h2, h3, ⟨⟨r, m1, n1, e1, ⟨e2, e3, hp⟩, e4, e5⟩, e6⟩, e7⟩ := h p e ha hc hk s mm args below hf happ hpre htr
  exact ⟨k, o, h1, h2, h3, ⟨⟨r, m1, n1, e1, ⟨e2, e3, hi m1 hp⟩, e4, e5⟩, e6⟩, e7⟩
end Plain
