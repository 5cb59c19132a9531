/-! The memory while it is made, as a list of cells. -/
abbrev Cd := (Nat × List (Int × Int)) ⊕ Nat
def KV (j : Int) : Int := cvN 8 (KC j)
def cdF : Cd → Int → Int
  | .inl (c, l), i => match l.lookup i with
    | some z => z
    | none => q_dm c i
  | .inr 0, _ => 0
  | .inr 1, i => ((47 : Nat) : Int) + 1 + i
  | .inr (t + 2), j => if 0 ≤ j ∧ j < (t : Int) then KV j else 0
def mkM (a0 : Nat) (L : List Cd) (m0 : MM) : MM := fun b => if b < a0 then m0 b else match L[b - a0]? with
  | some c => cdF c
  | none => m0 b
theorem mk_at {a0 t : Nat} {L : List Cd} {m0 : MM} {x : Cd} (h : L[t]? = some x) : mkM a0 L m0 (a0 + t) = cdF x := by
  unfold mkM
  rw [if_neg (by omega), show a0 + t - a0 = t by omega, h]
theorem mk_lo {a0 b : Nat} {L : List Cd} {m0 : MM} (h : b < a0) : mkM a0 L m0 b = m0 b := by
  unfold mkM
  rw [if_pos h]
theorem mk_hi {a0 b : Nat} {L : List Cd} {m0 : MM} (h : a0 + L.length ≤ b) : mkM a0 L m0 b = m0 b := by
  unfold mkM
  rw [if_neg (by omega), List.getElem?_eq_none (by omega)]
/-- two memories are the same: below, in the list, above -/
theorem mk_ext {a0 : Nat} {L : List Cd} {m0 m1 : MM} (h1 : ∀ b, b < a0 ∨ a0 + L.length ≤ b → m1 b = m0 b) (h2 : ∀ t x, L[t]? = some x → m1 (a0 + t) = cdF x) : m1 = mkM a0 L m0 := by
  funext b
  rcases Nat.lt_or_ge b a0 with q | q
  · rw [mk_lo q, h1 b (Or.inl q)]
  · rcases Nat.lt_or_ge b (a0 + L.length) with r | r
    · obtain ⟨t, rfl⟩ : ∃ t, b = a0 + t := ⟨b - a0, by omega⟩
      have ht : t < L.length := by omega
      rw [h2 t L[t] (List.getElem?_eq_getElem ht), mk_at (List.getElem?_eq_getElem ht)]
    · rw [mk_hi r, h1 b (Or.inr r)]
theorem mk_app {a0 n : Nat} {L : List Cd} {m0 : MM} (c : Cd) (hn : n = a0 + L.length) : upO (mkM a0 L m0) n (cdF c) = mkM a0 (L ++ [c]) m0 := by
  subst hn
  refine mk_ext (fun b hb => ?_) (fun t x hx => ?_)
  · rw [List.length_append, List.length_singleton] at hb
    unfold upO
    rw [if_neg (by omega)]
    rcases hb with q | q
    · exact mk_lo q
    · exact mk_hi (by omega)
  · unfold upO
    rcases Nat.lt_or_ge t L.length with q | q
    · rw [if_neg (by omega)]
      rw [List.getElem?_append_left q] at hx
      exact mk_at hx
    · rw [List.getElem?_append_right q] at hx
      have ht : t - L.length < 1 := by
        have := (List.getElem?_eq_some_iff.mp hx).1
        simpa using this
      rw [show t - L.length = 0 by omega] at hx
      cases hx
      rw [if_pos (by omega)]
theorem mk_set {a0 a t : Nat} {L : List Cd} {m0 : MM} {x y : Cd} {ki z : Int} (ha : a = a0 + t) (ht : L[t]? = some x) (hf : (fun j => if j = ki then z else cdF x j) = cdF y) : up (mkM a0 L m0) a ki z = mkM a0 (L.set t y) m0 := by
  subst ha
  have hlt : t < L.length := (List.getElem?_eq_some_iff.mp ht).1
  refine mk_ext (fun b hb => ?_) (fun t2 x2 hx => ?_)
  · rw [List.length_set] at hb
    rw [up_ne (by omega)]
    rcases hb with q | q
    · exact mk_lo q
    · exact mk_hi q
  · by_cases q : t2 = t
    · subst q
      rw [List.getElem?_set_self hlt] at hx
      cases hx
      rw [up_eq, mk_at ht]
      exact hf
    · rw [List.getElem?_set_ne (fun r => q r.symm)] at hx
      rw [up_ne (by omega)]
      exact mk_at hx
theorem mk_put {a0 a t c : Nat} {l : List (Int × Int)} {L : List Cd} {m0 : MM} {ki z : Int} (ha : a = a0 + t) (ht : L[t]? = some (.inl (c, l))) : up (mkM a0 L m0) a ki z = mkM a0 (L.set t (.inl (c, (ki, z) :: l))) m0 := by
  refine mk_set ha ht ?_
  funext j
  by_cases q : j = ki
  · subst q
    rw [if_pos rfl]
    show z = match List.lookup j ((j, z) :: l) with
      | some z => z
      | none => q_dm c j
    rw [List.lookup_cons_self]
  · rw [if_neg q]
    show _ = match List.lookup j ((ki, z) :: l) with
      | some z => z
      | none => q_dm c j
    rw [List.lookup_cons, show (j == ki) = false from beq_eq_false_iff_ne.mpr q]
    rfl
theorem mk_call {a0 a t : Nat} {L L1 : List Cd} {m0 : MM} (ha : a = a0 + t) (ht : L.length = t + 1) (h1 : 1 ≤ L1.length) : mkM a L1 (mkM a0 L m0) = mkM a0 (L.take t ++ L1) m0 := by
  subst ha
  have hlen : (L.take t).length = t := by rw [List.length_take]; omega
  refine mk_ext (fun b hb => ?_) (fun t2 x hx => ?_)
  · rw [List.length_append, hlen] at hb
    rcases hb with q | q
    · rw [mk_lo (by omega), mk_lo q]
    · rw [mk_hi (by omega), mk_hi (by omega)]
  · rcases Nat.lt_or_ge t2 t with q | q
    · rw [List.getElem?_append_left (by omega), List.getElem?_take_of_lt q] at hx
      rw [mk_lo (by omega)]
      exact mk_at hx
    · rw [List.getElem?_append_right (by omega), hlen] at hx
      rw [show a0 + t2 = a0 + t + (t2 - t) by omega]
      exact mk_at hx
theorem mk_one {a c : Nat} {m : MM} (h : m a = q_dm c) : mkM a [.inl (c, [])] m = m := by
  refine (mk_ext (fun b _ => rfl) (fun t x hx => ?_)).symm
  have ht : t < 1 := (List.getElem?_eq_some_iff.mp hx).1
  rw [show t = 0 by omega] at hx ⊢
  cases hx
  exact h
theorem mk_multi {a0 : Nat} {L : List Cd} {m0 : MM} (hn : 47 = a0 + L.length) : gaM (mkM a0 L m0) 47 = mkM a0 (L ++ [.inr 1, .inr 0, .inr 0, .inr 0, .inr 0, .inr 0, .inr 0]) m0 := by
  refine mk_ext (fun b hb => ?_) (fun t x hx => ?_)
  · rw [List.length_append] at hb
    have hb2 : b < a0 ∨ a0 + L.length + 7 ≤ b := by
      rcases hb with q | q
      · exact Or.inl q
      · exact Or.inr (by simpa [Nat.add_assoc] using q)
    rw [gaM_ne (by omega)]
    rcases hb2 with q | q
    · exact mk_lo q
    · exact mk_hi (by omega)
  · rcases Nat.lt_or_ge t L.length with q | q
    · rw [List.getElem?_append_left q] at hx
      rw [gaM_ne (by omega)]
      exact mk_at hx
    · rw [List.getElem?_append_right q] at hx
      have h7 : t - L.length < 7 := (List.getElem?_eq_some_iff.mp hx).1
      by_cases r : t = L.length
      · rw [r, Nat.sub_self] at hx
        cases hx
        rw [show a0 + t = 47 by omega, gaM_eq]
        rfl
      · rw [gaM_in (by omega)]
        have h9 : t - L.length = 1 ∨ t - L.length = 2 ∨ t - L.length = 3 ∨ t - L.length = 4 ∨ t - L.length = 5 ∨ t - L.length = 6 := by omega
        rcases h9 with e | e | e | e | e | e <;> rw [e] at hx <;> cases hx <;> rfl
section Make4
variable {l : Launch} {G : GT} {lw : Bool} {Y : YD} {d : Nat} {Q : Option MV → MM → Nat → Prop} {pc : Nat} {lv : List (Nat × MV)} {st : List MV} {m0 : MM} {L : List Cd} {a0 n bc bs : Nat}
theorem Wp.kI (len n1 bc1 bs1 : Nat) (L' : List Cd) {z : Int} (hz : (len : Int) = z) (hd : decode Y.2.1 pc = .ok (.newarray .int, 2)) (hL : q_lay n = .inr (0, len)) (hb : len < 10000 ∧ n < 111 ∧ n = a0 + L.length ∧ n + 1 = n1 ∧ bc1 + 1 = bc ∧ bs1 + len = bs) (hl : L ++ [.inr 0] = L')
    (K : Wp l G lw Y d false Q (pc + 2) lv (.inr (.inr n) :: st) (mkM a0 L' m0) n1 bc1 bs1) : Wp l G lw Y d false Q pc lv (.inl z :: st) (mkM a0 L m0) n bc bs := by
  subst hz hl
  obtain ⟨h1, h2, h3, rfl, rfl, rfl⟩ := hb
  refine Wp.newI len hd h1 hL h2 (by omega) (by omega) ?_
  rw [show (fun _ => 0 : Int → Int) = cdF (.inr 0) from rfl, mk_app _ h3, show bc1 + 1 - 1 = bc1 by omega, show bs1 + len - len = bs1 by omega]
  exact K
theorem Wp.kJ (len n1 bc1 bs1 : Nat) (L' : List Cd) {z : Int} (hz : (len : Int) = z) (hd : decode Y.2.1 pc = .ok (.newarray .long, 2)) (hL : q_lay n = .inr (1, len)) (hb : len < 10000 ∧ n < 111 ∧ n = a0 + L.length ∧ n + 1 = n1 ∧ bc1 + 1 = bc ∧ bs1 + len = bs) (hl : L ++ [.inr 0] = L')
    (K : Wp l G lw Y d false Q (pc + 2) lv (.inr (.inr n) :: st) (mkM a0 L' m0) n1 bc1 bs1) : Wp l G lw Y d false Q pc lv (.inl z :: st) (mkM a0 L m0) n bc bs := by
  subst hz hl
  obtain ⟨h1, h2, h3, rfl, rfl, rfl⟩ := hb
  refine Wp.newJ len hd h1 hL h2 (by omega) (by omega) ?_
  rw [show (fun _ => 0 : Int → Int) = cdF (.inr 0) from rfl, mk_app _ h3, show bc1 + 1 - 1 = bc1 by omega, show bs1 + len - len = bs1 by omega]
  exact K
theorem Wp.kZ (len n1 bc1 bs1 : Nat) (L' : List Cd) {z : Int} (hz : (len : Int) = z) (hd : decode Y.2.1 pc = .ok (.newarray .boolean, 2)) (hL : q_lay n = .inr (2, len)) (hb : len < 10000 ∧ n < 111 ∧ n = a0 + L.length ∧ n + 1 = n1 ∧ bc1 + 1 = bc ∧ bs1 + len = bs) (hl : L ++ [.inr 0] = L')
    (K : Wp l G lw Y d false Q (pc + 2) lv (.inr (.inr n) :: st) (mkM a0 L' m0) n1 bc1 bs1) : Wp l G lw Y d false Q pc lv (.inl z :: st) (mkM a0 L m0) n bc bs := by
  subst hz hl
  obtain ⟨h1, h2, h3, rfl, rfl, rfl⟩ := hb
  refine Wp.newZ len hd h1 hL h2 (by omega) (by omega) ?_
  rw [show (fun _ => 0 : Int → Int) = cdF (.inr 0) from rfl, mk_app _ h3, show bc1 + 1 - 1 = bc1 by omega, show bs1 + len - len = bs1 by omega]
  exact K
theorem Wp.kB (len n1 bc1 bs1 : Nat) (L' : List Cd) {z : Int} (hz : (len : Int) = z) (hd : decode Y.2.1 pc = .ok (.newarray .byte, 2)) (hL : q_lay n = .inr (3, len)) (hb : len < 10000 ∧ n < 111 ∧ n = a0 + L.length ∧ n + 1 = n1 ∧ bc1 + 1 = bc ∧ bs1 + len = bs) (hl : L ++ [.inr 0] = L')
    (K : Wp l G lw Y d false Q (pc + 2) lv (.inr (.inr n) :: st) (mkM a0 L' m0) n1 bc1 bs1) : Wp l G lw Y d false Q pc lv (.inl z :: st) (mkM a0 L m0) n bc bs := by
  subst hz hl
  obtain ⟨h1, h2, h3, rfl, rfl, rfl⟩ := hb
  refine Wp.newB len hd h1 hL h2 (by omega) (by omega) ?_
  rw [show (fun _ => 0 : Int → Int) = cdF (.inr 0) from rfl, mk_app _ h3, show bc1 + 1 - 1 = bc1 by omega, show bs1 + len - len = bs1 by omega]
  exact K
theorem Wp.kM (bc1 bs1 : Nat) (L' : List Cd) {idx : Nat} (hd : decode Y.2.1 pc = .ok (.multianewarray idx 2, 4)) (hcl : Cond.classLink Y.1.cls idx "[[I" ∈ q_W) (hb : 47 = a0 + L.length ∧ bc1 + 7 = bc ∧ bs1 + 282 = bs) (hl : L ++ [.inr 1, .inr 0, .inr 0, .inr 0, .inr 0, .inr 0, .inr 0] = L')
    (K : Wp l G lw Y d false Q (pc + 4) lv (.inr (.inr 47) :: st) (mkM a0 L' m0) 54 bc1 bs1) : Wp l G lw Y d false Q pc lv (.inl 46 :: .inl 6 :: st) (mkM a0 L m0) 47 bc bs := by
  subst hl
  obtain ⟨h3, rfl, rfl⟩ := hb
  refine Wp.multi hd hcl rfl (fun j hj => ?_) (by decide) (by omega) (by omega) ?_
  · have h9 : j = 0 ∨ j = 1 ∨ j = 2 ∨ j = 3 ∨ j = 4 ∨ j = 5 := by omega
    rcases h9 with rfl | rfl | rfl | rfl | rfl | rfl <;> rfl
  · rw [mk_multi h3, show bc1 + 7 - 7 = bc1 by omega, show bs1 + 282 - 282 = bs1 by omega]
    exact K
theorem Wp.kN {c idx : Nat} (N n1 bc1 bs1 : Nat) (L' : List Cd) {C : String} {T : u_T} (hd : decode Y.2.1 pc = .ok (.new idx, 3)) (hcl : Cond.classLink Y.1.cls idx C ∈ q_W) (hc : q_cls[c]? = some (C, T, N)) (hL : q_lay n = .inl c) (hb : n = a0 + L.length ∧ n + 1 = n1 ∧ bc1 + 1 = bc ∧ bs1 + N = bs) (hl : L ++ [.inl (c, [])] = L')
    (K : Wp l G lw Y d false Q (pc + 3) lv (.inr (.inr n) :: st) (mkM a0 L' m0) n1 bc1 bs1) : Wp l G lw Y d false Q pc lv st (mkM a0 L m0) n bc bs := by
  subst hl
  obtain ⟨h3, rfl, rfl, rfl⟩ := hb
  refine Wp.new1 N hd hcl hc hL (by omega) (by omega) ?_
  rw [show q_dm c = cdF (.inl (c, [])) from rfl, mk_app _ h3, show bc1 + 1 - 1 = bc1 by omega, show bs1 + N - N = bs1 by omega]
  exact K
theorem Wp.kP {a c k idx : Nat} (t : Nat) (l0 : List (Int × Int)) (z ki : Int) (L' : List Cd) {v : MV} (hki : (k : Int) = ki) (hd : decode Y.2.1 pc = .ok (.putfield idx, 3)) (hF : q_FL Y.1.cls idx c k) {C : String} {T : u_T} {N : Nat} (hT : q_cls[c]? = some (C, T, N)) (hfin : (T k).2.2.2 = false ∨ ((T k).2.2.2 = true ∧ Y.1.name = "<init>" ∧ (T k).1 = Y.1.cls)) (hL : q_lay a = .inl c) (hb : a = a0 + t ∧ a < n) (hv : g_fv G (q_ft c k) z = g_val G v) (hz : wfV v → Rg (q_ft c k) z) (ht : L[t]? = some (.inl (c, l0))) (hl : L.set t (.inl (c, (ki, z) :: l0)) = L')
    (K : Wp l G lw Y d false Q (pc + 3) lv st (mkM a0 L' m0) n bc bs) : Wp l G lw Y d false Q pc lv (v :: .inr (.inr a) :: st) (mkM a0 L m0) n bc bs := by
  subst hl
  refine Wp.put1 ki hki hd hF (fun C' T' N' h => ?_) hL hb.2 hv hz ?_
  · have h2 := Option.some.inj (h.symm.trans hT)
    cases h2
    exact hfin
  rw [mk_put hb.1 ht]
  exact K
/-- what a constructor leaves -/
def KQ (a N : Nat) (L1 : List Cd) (m : MM) : Option MV → MM → Nat → Prop := fun r m' n' => r = none ∧ n' = N ∧ m' = mkM a L1 m
def KO (l : Launch) (G : GT) (Y : YD) (d a c bc bs N : Nat) (L1 : List Cd) : Prop := ∀ m : MM, m a = q_dm c → q_Ok l G false Y d [.inr (.inr a)] m (a + 1) bc bs (KQ a N L1 m)
theorem KO.of {a c N : Nat} {L1 : List Cd} (hM : q_MI Y 0) (hl : 1 ≤ Y.2.2.1) (K : ∀ m, Wp l G false Y d false (KQ a N L1 m) 0 [(0, .inr (.inr a))] [] (mkM a [.inl (c, [])] m) (a + 1) bc bs) : KO l G Y d a c bc bs N L1 := by
  intro m hm
  have h := K m
  rw [mk_one hm] at h
  exact q_Ok.of hM.1 hl h
theorem Wp.kC {Y2 : YD} {idx a c : Nat} (t d2 bc2 bs2 N bc1 bs1 : Nat) (L1 L' : List Cd) (hd : decode Y.2.1 pc = .ok (.invokespecial idx, 3)) (hM : q_MI Y2 0) (hret : Y2.2.2.2 = none) (hl : Cond.methodLink Y.1.cls idx Y2.1 ∈ q_W ∨ Cond.methodLinkNest Y.1.cls idx Y2.1 "SandPlates" ∈ q_nest) (ho : KO l G Y2 d2 a c bc2 bs2 N L1) (hlw : lw = true → d ≤ 400) (hst : (st.map q_cat).sum ≤ 8) (hx : L[t]? = some (.inl (c, []))) (hb : a < 1000 ∧ d2 < d ∧ a = a0 + t ∧ L.length = t + 1 ∧ 1 ≤ L1.length ∧ n = a + 1 ∧ bc1 + bc2 = bc ∧ bs1 + bs2 = bs) (hL : L.take t ++ L1 = L')
    (K : Wp l G lw Y d false Q (pc + 3) lv st (mkM a0 L' m0) N bc1 bs1) : Wp l G lw Y d false Q pc lv (.inr (.inr a) :: st) (mkM a0 L m0) n bc bs := by
  subst hL
  obtain ⟨h1, h2, h3, h4, h5, rfl, rfl, rfl⟩ := hb
  have hm : mkM a0 L m0 a = q_dm c := by rw [h3, mk_at hx]; rfl
  refine Wp.callI hd hM hret hl (ho _ hm) h1 h2 hlw hst (by omega) (by omega) (fun r m1 n1 hq => ?_)
  obtain ⟨rfl, rfl, rfl⟩ := hq
  rw [mk_call h3 h4 h5, show bc1 + bc2 - bc2 = bc1 by omega, show bs1 + bs2 - bs2 = bs1 by omega]
  exact K
end Make4
