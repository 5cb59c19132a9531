section Steps3
variable {l : Launch} {G : GT} {lw : Bool} {Y : YD} {d : Nat} {ph : Bool} {Q : Option MV → MM → Nat → Prop} {pc pc' : Nat} {lv lv' : List (Nat × MV)} {st st' : List MV} {m : MM} {n bc bs : Nat}
/-- a place set: those that stay, in the order of their numbers -/
def q_ins (i : Nat) (v : MV) : List (Nat × MV) → List (Nat × MV)
  | [] => [(i, v)]
  | q :: t => if i < q.1 then (i, v) :: q :: t else q :: q_ins i v t
theorem q_ins_mem {i : Nat} {v : MV} : ∀ (l : List (Nat × MV)) (q : Nat × MV), q ∈ q_ins i v l → q = (i, v) ∨ q ∈ l
  | [], q, h => Or.inl (by simpa [q_ins] using h)
  | a :: t, q, h => by
    unfold q_ins at h
    split at h
    · rcases List.mem_cons.mp h with h | h
      · exact Or.inl h
      · exact Or.inr h
    · rcases List.mem_cons.mp h with h | h
      · exact Or.inr (by rw [h]; exact List.mem_cons_self)
      · rcases q_ins_mem t q h with h | h
        · exact Or.inl h
        · exact Or.inr (List.mem_cons_of_mem _ h)
def q_s1 (i : Nat) (v : MV) (lv : List (Nat × MV)) : List (Nat × MV) := q_ins i v (lv.filter (fun q => !(q.1 == i) && !(q.1 + 1 == i && q_cat q.2 == 2)))
def q_s2 (i : Nat) (v : MV) (lv : List (Nat × MV)) : List (Nat × MV) := q_ins i v (lv.filter (fun q => !(q.1 == i) && (!(q.1 == i + 1) && !(q.1 + 1 == i && q_cat q.2 == 2))))
theorem lvl_sub {ls : Array Slot} {nL : Nat} {w : List (Nat × Value)} (h : lv_has ls nL w) (hs : ∀ q ∈ lv, (q.1, g_val G q.2) ∈ w) : lv_has ls nL (q_lvl G lv) :=
  ⟨h.1, h.2.1, fun q hq => by
    obtain ⟨a, ha, rfl⟩ := List.mem_map.mp hq
    exact h.2.2 _ (hs a ha)⟩
theorem q_s1_sub {i : Nat} {v : MV} : ∀ q ∈ q_s1 i v lv, (q.1, g_val G q.2) ∈ (i, g_val G v) :: (q_lvl G lv).filter (fun q => !(q.1 == i) && !(q.1 + 1 == i && q.2.category == 2)) := by
  intro q hq
  rcases q_ins_mem _ _ hq with rfl | h
  · exact List.mem_cons_self
  · obtain ⟨h1, h2⟩ := List.mem_filter.mp h
    refine List.mem_cons_of_mem _ (List.mem_filter.mpr ⟨List.mem_map.mpr ⟨q, h1, rfl⟩, ?_⟩)
    simpa only [q_cat_val] using h2
theorem q_s2_sub {i : Nat} {v : MV} : ∀ q ∈ q_s2 i v lv, (q.1, g_val G q.2) ∈ (i, g_val G v) :: (q_lvl G lv).filter (fun q => !(q.1 == i) && (!(q.1 == i + 1) && !(q.1 + 1 == i && q.2.category == 2))) := by
  intro q hq
  rcases q_ins_mem _ _ hq with rfl | h
  · exact List.mem_cons_self
  · obtain ⟨h1, h2⟩ := List.mem_filter.mp h
    refine List.mem_cons_of_mem _ (List.mem_filter.mpr ⟨List.mem_map.mpr ⟨q, h1, rfl⟩, ?_⟩)
    simpa only [q_cat_val] using h2
theorem q_s1_wf {i : Nat} {v : MV} (hv : wfV v) (h : ∀ q ∈ lv, wfV q.2) : ∀ q ∈ q_s1 i v lv, wfV q.2 := by
  intro q hq
  rcases q_ins_mem _ _ hq with rfl | h1
  · exact hv
  · exact h q (List.mem_filter.mp h1).1
theorem q_s2_wf {i : Nat} {v : MV} (hv : wfV v) (h : ∀ q ∈ lv, wfV q.2) : ∀ q ∈ q_s2 i v lv, wfV q.2 := by
  intro q hq
  rcases q_ins_mem _ _ hq with rfl | h1
  · exact hv
  · exact h q (List.mem_filter.mp h1).1
/-- a step that sets a local -/
theorem Wp.sto {w : List (Nat × Value)} (hw : (∀ v ∈ st, wfV v) → (∀ q ∈ lv, wfV q.2) → ∀ q ∈ lv', wfV q.2) (hst : ∀ v ∈ st', v ∈ st) (hsub : ∀ q ∈ lv', (q.1, g_val G q.2) ∈ w)
    (hs : ∀ (p : Program) (e : Env) (s : State) (mm : MethodId) (args : Array Value) (below : List Frame) (meth : Method) (c : Code) (H : Heap) (locs : List Loc) (cells slots : Nat) (ls : Array Slot) (R : Room) (Z : State → Prop),
      p.tables.exec = Jvm.exec → c.code = Y.2.1 → lv_has ls Y.2.2.1 (q_lvl G lv) →
      (∀ ls' : Array Slot, lv_has ls' Y.2.2.1 w → W p l e R s mm args below meth c H locs cells slots Z (F0 mm pc' ls' (st'.map (g_val G)))) → W p l e R s mm args below meth c H locs cells slots Z (F0 mm pc ls (st.map (g_val G))))
    (K : Wp l G lw Y d ph Q pc' lv' st' m n bc bs) : Wp l G lw Y d ph Q pc lv st m n bc bs := by
  intro p e s mm args below meth c H locs cells slots ls mc ms hC hL e1 e2 w1 w2 hl hR hS
  exact hs p e s mm args below meth c H locs cells slots ls _ _ hC.1 hC.2.1 hl (fun ls' hl' => K p e s mm args below meth c H locs cells slots ls' mc ms hC hL e1 e2 (hw w2 w1) (fun v hv => w2 v (hst v hv)) (lvl_sub hl' hsub) hR hS)
theorem Wp.istore_n {j : Fin 4} {z : Int} (i : Nat) (lv' : List (Nat × MV)) (hd : decode Y.2.1 pc = .ok (.istore_n j, 1)) (hi : (j : Nat) = i) (hn : i < Y.2.2.1) (h : q_s1 i (.inl z) lv = lv') (K : Wp l G lw Y d ph Q (pc + 1) lv' st m n bc bs) : Wp l G lw Y d ph Q pc lv (.inl z :: st) m n bc bs :=
  Wp.sto (fun w1 w2 => by rw [← h]; exact q_s1_wf (wf_hd w1) w2) (fun _ hv => List.mem_cons_of_mem _ hv) (by rw [← h]; exact q_s1_sub (G := G)) (fun _ _ _ _ _ _ _ _ _ _ _ _ _ _ _ hx hb hl k => lv_istore_n hx hb hd hi hl hn rfl k) K
theorem Wp.istore {z : Int} (i : Nat) (lv' : List (Nat × MV)) (hd : decode Y.2.1 pc = .ok (.istore i, 2)) (hn : i < Y.2.2.1) (h : q_s1 i (.inl z) lv = lv') (K : Wp l G lw Y d ph Q (pc + 2) lv' st m n bc bs) : Wp l G lw Y d ph Q pc lv (.inl z :: st) m n bc bs :=
  Wp.sto (fun w1 w2 => by rw [← h]; exact q_s1_wf (wf_hd w1) w2) (fun _ hv => List.mem_cons_of_mem _ hv) (by rw [← h]; exact q_s1_sub (G := G)) (fun _ _ _ _ _ _ _ _ _ _ _ _ _ _ _ hx hb hl k => lv_istore hx hb hd hl hn rfl k) K
theorem Wp.astore_n {j : Fin 4} {r : Nat} (i : Nat) (lv' : List (Nat × MV)) (hd : decode Y.2.1 pc = .ok (.astore_n j, 1)) (hi : (j : Nat) = i) (hn : i < Y.2.2.1) (h : q_s1 i (.inr (.inr r)) lv = lv') (K : Wp l G lw Y d ph Q (pc + 1) lv' st m n bc bs) : Wp l G lw Y d ph Q pc lv (.inr (.inr r) :: st) m n bc bs :=
  Wp.sto (fun w1 w2 => by rw [← h]; exact q_s1_wf (wf_hd w1) w2) (fun _ hv => List.mem_cons_of_mem _ hv) (by rw [← h]; exact q_s1_sub (G := G)) (fun _ _ _ _ _ _ _ _ _ _ _ _ _ _ _ hx hb hl k => lv_astore_n hx hb hd hi hl hn rfl k) K
theorem Wp.astore {r : Nat} (i : Nat) (lv' : List (Nat × MV)) (hd : decode Y.2.1 pc = .ok (.astore i, 2)) (hn : i < Y.2.2.1) (h : q_s1 i (.inr (.inr r)) lv = lv') (K : Wp l G lw Y d ph Q (pc + 2) lv' st m n bc bs) : Wp l G lw Y d ph Q pc lv (.inr (.inr r) :: st) m n bc bs :=
  Wp.sto (fun w1 w2 => by rw [← h]; exact q_s1_wf (wf_hd w1) w2) (fun _ hv => List.mem_cons_of_mem _ hv) (by rw [← h]; exact q_s1_sub (G := G)) (fun _ _ _ _ _ _ _ _ _ _ _ _ _ _ _ hx hb hl k => lv_astore hx hb hd hl hn rfl k) K
theorem Wp.lstore_n {j : Fin 4} {z : Int} (i : Nat) (lv' : List (Nat × MV)) (hd : decode Y.2.1 pc = .ok (.lstore_n j, 1)) (hi : (j : Nat) = i) (hn : i + 1 < Y.2.2.1) (h : q_s2 i (.inr (.inl z)) lv = lv') (K : Wp l G lw Y d ph Q (pc + 1) lv' st m n bc bs) : Wp l G lw Y d ph Q pc lv (.inr (.inl z) :: st) m n bc bs :=
  Wp.sto (fun w1 w2 => by rw [← h]; exact q_s2_wf (wf_hd w1) w2) (fun _ hv => List.mem_cons_of_mem _ hv) (by rw [← h]; exact q_s2_sub (G := G)) (fun _ _ _ _ _ _ _ _ _ _ _ _ _ _ _ hx hb hl k => lv_lstore_n hx hb hd hi hl hn rfl k) K
theorem Wp.lstore {z : Int} (i : Nat) (lv' : List (Nat × MV)) (hd : decode Y.2.1 pc = .ok (.lstore i, 2)) (hn : i + 1 < Y.2.2.1) (h : q_s2 i (.inr (.inl z)) lv = lv') (K : Wp l G lw Y d ph Q (pc + 2) lv' st m n bc bs) : Wp l G lw Y d ph Q pc lv (.inr (.inl z) :: st) m n bc bs :=
  Wp.sto (fun w1 w2 => by rw [← h]; exact q_s2_wf (wf_hd w1) w2) (fun _ hv => List.mem_cons_of_mem _ hv) (by rw [← h]; exact q_s2_sub (G := G)) (fun _ _ _ _ _ _ _ _ _ _ _ _ _ _ _ hx hb hl k => lv_lstore hx hb hd hl hn rfl k) K
theorem Wp.iinc {z c : Int} (k i : Nat) (lv' : List (Nat × MV)) (hd : decode Y.2.1 pc = .ok (.iinc i c, 3)) (hk : lv[k]? = some (i, .inl z)) (hr : inR (z + c)) (hn : i < Y.2.2.1) (h : q_s1 i (.inl (z + c)) lv = lv') (K : Wp l G lw Y d ph Q (pc + 3) lv' st m n bc bs) : Wp l G lw Y d ph Q pc lv st m n bc bs :=
  Wp.sto (fun _ w2 => by rw [← h]; exact q_s1_wf (v := .inl (z + c)) hr w2) (fun _ hv => hv) (by rw [← h]; exact q_s1_sub (G := G)) (fun _ _ _ _ _ _ _ _ _ _ _ _ _ _ _ hx hb hl kk => lv_iinc (v := Int32.ofInt (z + c)) hx hb hd hl (k := k) (x := Int32.ofInt z) (by simp [q_lvl, hk]; rfl) (by rw [Int32.ofInt_add]) hn rfl kk) K
/-- fewer locals -/
theorem Wp.sub (lv' : List (Nat × MV)) (h : ∀ q ∈ lv', q ∈ lv) (K : Wp l G lw Y d ph Q pc lv' st m n bc bs) : Wp l G lw Y d ph Q pc lv st m n bc bs := by
  intro p e s mm args below meth c H locs cells slots ls mc ms hC hL e1 e2 w1 w2 hl hR hS
  exact K p e s mm args below meth c H locs cells slots ls mc ms hC hL e1 e2 (fun q hq => w1 q (h q hq)) w2 (lvl_sub hl (fun q hq => List.mem_map.mpr ⟨q, h q hq, rfl⟩)) hR hS
theorem q_vis {a : Nat} {H : Heap} (hR : q_R G ph m n H) (h : a < 111) (hv : ph = true ∨ a < n) : a < n := by
  rcases hv with hv | hv
  · rw [(hR.2.2.1 hv).2]; exact h
  · exact hv
theorem q_adb {r : Nat} (h : r < 1000) : g_ad G r = g_b G + r := by simp [g_ad, h]
/-- getfield -/
theorem Wp.get {a c k idx : Nat} {v : MV} (hd : decode Y.2.1 pc = .ok (.getfield idx, 3)) (hF : q_FL Y.1.cls idx c k) (hL : q_lay a = .inl c) (hn : ph = true ∨ a < n) (hv : wfM m → (ph = true → Ptr m) → g_fv G (q_ft c k) (m a k) = g_val G v ∧ wfV v)
    (K : Wp l G lw Y d ph Q (pc + 3) lv (v :: st) m n bc bs) : Wp l G lw Y d ph Q pc lv (.inr (.inr a) :: st) m n bc bs := by
  intro p e s mm args below meth cc H locs cells slots ls mc ms hC hLw e1 e2 w1 w2 hl hR hS
  obtain ⟨C, T, N, hc, hk, hlink⟩ := hF
  obtain ⟨hin, hN, -⟩ := q_cf c C T N hc
  have ha := q_lay_obj hL
  have han := q_vis hR ha hn
  obtain ⟨hv1, hv2⟩ := hv hR.2.1 (fun h => (hR.2.2.1 h).1)
  have he : (g_ws G m n)[a]? = some (g_b G + a, .inr (c, (List.range (q_nf c)).map fun k => g_fv G (q_ft c k) (m a k))) := by
    rw [g_ws_get han, hL]; rfl
  show W _ _ _ _ _ _ _ _ _ _ _ _ _ _ _ (F0 mm pc ls (.ref (g_ad G a) :: st.map (g_val G)))
  rw [q_adb (by omega)]
  refine va_get hC.1 hC.2.1 hC.2.2.2.2.1 hin hC.2.2.2.1 hC.2.2.2.2.2.1.1 hR.1 a he hc k hk (hC.2.2.2.2.1 _ hlink) (fun _ h => h) (v := g_val G v) ?_ hd ?_
  · rw [List.getElem?_map, List.getElem?_range (by omega)]
    exact congrArg some hv1
  · exact K p e s mm args below meth cc H locs cells slots ls mc ms hC hLw e1 e2 w1 (wf_cons hv2 (wf_tl w2)) hl hR hS
theorem Rg_int {t : Nat} {z : Int} (ht : t = 0 ∨ t = 3) (h : Rg t z) : inR z := by
  rcases ht with rfl | rfl
  · exact h
  · have h : z = 0 ∨ z = 1 := h
    omega
theorem Wp.getI {a c k idx : Nat} (hd : decode Y.2.1 pc = .ok (.getfield idx, 3)) (hF : q_FL Y.1.cls idx c k) (hL : q_lay a = .inl c) (hn : ph = true ∨ a < n) (ht : q_ft c k = 0 ∨ q_ft c k = 3)
    (K : Wp l G lw Y d ph Q (pc + 3) lv (.inl (m a k) :: st) m n bc bs) : Wp l G lw Y d ph Q pc lv (.inr (.inr a) :: st) m n bc bs := by
  refine Wp.get (v := .inl (m a k)) hd hF hL hn (fun h _ => ⟨?_, ?_⟩) K
  · rcases ht with h | h <;> rw [h] <;> rfl
  · have h1 := h a k
    unfold q_st at h1
    rw [hL] at h1
    exact Rg_int ht (by simpa using h1)
theorem Wp.getL {a c k idx : Nat} (hd : decode Y.2.1 pc = .ok (.getfield idx, 3)) (hF : q_FL Y.1.cls idx c k) (hL : q_lay a = .inl c) (hn : ph = true ∨ a < n) (ht : q_ft c k = 1)
    (K : Wp l G lw Y d ph Q (pc + 3) lv (.inr (.inl (m a k)) :: st) m n bc bs) : Wp l G lw Y d ph Q pc lv (.inr (.inr a) :: st) m n bc bs := by
  refine Wp.get (v := .inr (.inl (m a k))) hd hF hL hn (fun h _ => ⟨?_, ?_⟩) K
  · rw [ht]; rfl
  · have h1 := h a k
    unfold q_st at h1
    rw [hL] at h1
    simp only [Int.toNat_natCast, ht] at h1
    exact h1
theorem Wp.getR {a c k idx : Nat} (r : Nat) (hd : decode Y.2.1 pc = .ok (.getfield idx, 3)) (hF : q_FL Y.1.cls idx c k) (hL : q_lay a = .inl c) (hn : ph = true ∨ a < n) (ht : q_ft c k = 2) (hr : m a k = r)
    (K : Wp l G lw Y d ph Q (pc + 3) lv (.inr (.inr r) :: st) m n bc bs) : Wp l G lw Y d ph Q pc lv (.inr (.inr a) :: st) m n bc bs := by
  refine Wp.get (v := .inr (.inr r)) hd hF hL hn (fun h _ => ⟨?_, trivial⟩) K
  rw [ht, hr]
  show (if (r : Int) < 0 then Value.null else .ref (g_ad G (r : Int).toNat)) = .ref (g_ad G r)
  rw [if_neg (by omega), Int.toNat_natCast]
theorem Wp.getP {a c k idx : Nat} (r : Nat) (hd : decode Y.2.1 pc = .ok (.getfield idx, 3)) (hF : q_FL Y.1.cls idx c k) (hL : q_lay a = .inl c) (ht : q_ft c k = 2) (hp : q_pt a k = some r)
    (K : Wp l G lw Y d true Q (pc + 3) lv (.inr (.inr r) :: st) m n bc bs) : Wp l G lw Y d true Q pc lv (.inr (.inr a) :: st) m n bc bs := by
  refine Wp.get (v := .inr (.inr r)) hd hF hL (Or.inl rfl) (fun _ h => ⟨?_, trivial⟩) K
  rw [ht, h rfl a k r hp]
  show (if (r : Int) < 0 then Value.null else .ref (g_ad G (r : Int).toNat)) = .ref (g_ad G r)
  rw [if_neg (by omega), Int.toNat_natCast]
end Steps3
