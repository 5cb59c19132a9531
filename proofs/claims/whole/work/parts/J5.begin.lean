/-! All is made: the memory at the law's loop keeps the invariant. -/
theorem lk_mem {i : Int} {r : Nat} : ∀ {l : List (Int × Nat)}, l.lookup i = some r → (i, r) ∈ l
  | [], h => by cases h
  | (k, v) :: l, h => by
    rw [List.lookup_cons] at h
    by_cases q : i = k
    · subst q
      rw [beq_self_eq_true] at h
      cases h
      exact List.mem_cons_self
    · rw [beq_eq_false_iff_ne.mpr q] at h
      exact List.mem_cons_of_mem _ (lk_mem h)
def LcA : List Cd := LcS ++ LcM
theorem LcA_len : LcA.length = 111 := by decide +kernel
theorem mS_at {m0 : MM} {a : Nat} (ha : a < 111) : mkM 0 LcA m0 a = cdF (LcA.getD a (.inr 0)) := by
  have h : LcA[a]? = some (LcA.getD a (.inr 0)) := by
    rw [List.getD_eq_getElem?_getD, List.getElem?_eq_getElem (by rw [LcA_len]; exact ha)]
    rfl
  have := mk_at (a0 := 0) (m0 := m0) h
  rw [Nat.zero_add] at this
  exact this
theorem mS_v {m0 : MM} (a : Nat) (i z : Int) (ha : a < 111) (h : cdF (LcA.getD a (.inr 0)) i = z) : mkM 0 LcA m0 a i = z := by
  rw [mS_at ha, h]
theorem mS_0 {m0 : MM} (a : Nat) (ha : a < 111) (h : LcA.getD a (.inr 0) = .inr 0) (i : Int) : mkM 0 LcA m0 a i = 0 := by
  rw [mS_at ha, h]
  rfl
theorem mS_tab : ∀ a : Fin 111, ∀ q ∈ q_pL.getD a.val [], cdF (LcA.getD a.val (.inr 0)) q.1 = ((q.2 : Nat) : Int) := by decide +kernel
theorem mS_len : q_pL.length ≤ 111 := by decide +kernel
theorem mS_ptr {m0 : MM} : Ptr (mkM 0 LcA m0) := by
  intro a i r h
  unfold q_pt at h
  rcases Nat.lt_or_ge a 111 with q | q
  · rw [mS_at q]
    exact mS_tab ⟨a, q⟩ (i, r) (lk_mem h)
  · have hl := mS_len
    rw [List.getD_eq_getElem?_getD, List.getElem?_eq_none (by omega)] at h
    cases h
def z1 : Int → Int := fun _ => 0
def z2 : Int → Int → Int := fun _ _ => 0
theorem in0 {i : Int} (h : In 0 i) : False := by
  obtain ⟨h1, h2⟩ := h
  omega
theorem bw0 : BW 0 z1 z2 z1 := ⟨by decide, fun i h => (in0 h).elim, fun i j h _ => (in0 h).elim, fun i h => (in0 h).elim, fun i h => (in0 h).elim, fun _ => 0, fun i h => (in0 h).elim⟩
theorem st0 {s : Int → Int} (h : ∀ i, 0 ≤ i → i < 8 → s i = 0) : StO 0 0 s :=
  ⟨fun i hi => (in0 hi).elim, by show (0 : Int) ≤ 495 + 20 * 0; decide, ⟨by rw [h 5 (by decide) (by decide)]; decide, by rw [h 5 (by decide) (by decide)]; decide⟩, ⟨by rw [h 6 (by decide) (by decide)]; decide, by rw [h 6 (by decide) (by decide)]; decide⟩, ⟨by rw [h 7 (by decide) (by decide)]; decide, by rw [h 7 (by decide) (by decide)]; decide⟩, fun i _ i0 i1 => h i i0 (by omega)⟩
theorem inv0 {m0 m1 m2 : MM} (h1 : ClM 0 (mkM 0 LcA m0) m1) (h2 : BgM 0 z1 z2 z1 m1 m2) : Inv 0 m2 := by
  obtain ⟨f1, ⟨n73, n74, n75, n76, n77, n78⟩, n81, n80, e30⟩ := h1
  obtain ⟨f2, hBM, ⟨-, g90, g97⟩, hGM, ⟨e45, e46, e60, e48⟩, e110⟩ := h2
  have K : ∀ a, a < 111 → a ≠ 70 → a ∉ [73, 74, 75, 76, 77, 78, 80, 81] → a ∉ [90, 92, 93, 94, 95, 99, 110] → m2 a = cdF (LcA.getD a (.inr 0)) := fun a ha h7 s1 s2 => by
    rw [f2.1 a s2 h7, f1.1 a s1 h7, mS_at ha]
  have M : ∀ i : Int, i ∉ [(30 : Int)] → i ∉ [(41 : Int), 42, 45, 46, 48, 60] → m2 70 i = cdF (LcA.getD 70 (.inr 0)) i := fun i s1 s2 => by
    rw [f2.2 i s2, f1.2 i s1, mS_at (by decide)]
  have e28 : m2 70 28 = 0 := (M 28 (by decide) (by decide)).trans (by decide +kernel)
  have e28' : m1 70 28 = 0 := by
    rw [f1.2 28 (by decide), mS_at (by decide)]
    decide +kernel
  have z73 : ∀ a, a ∈ [74, 75, 76, 77, 78] → m2 a 0 = 0 := fun a ha => by
    simp only [List.mem_cons, List.not_mem_nil, or_false] at ha
    rw [f2.1 a (by simp only [List.mem_cons, List.not_mem_nil, or_false]; omega) (by omega)]
    rcases ha with rfl | rfl | rfl | rfl | rfl
    · exact n74.1 0 (by decide) (by decide)
    · exact n75.1 0 (by decide) (by decide)
    · exact n76.1 0 (by decide) (by decide)
    · exact n77.1 0 (by decide) (by decide)
    · exact n78.1 0 (by decide) (by decide)
  have v : ∀ (a : Nat) (i z : Int), a < 70 → cdF (LcA.getD a (.inr 0)) i = z → m2 a i = z := fun a i z ha h => by
    rw [K a (by omega) (by omega) (by simp only [List.mem_cons, List.not_mem_nil, or_false]; omega) (by simp only [List.mem_cons, List.not_mem_nil, or_false]; omega)]
    exact h
  have w : ∀ (i z : Int), i ∉ [(30 : Int)] → i ∉ [(41 : Int), 42, 45, 46, 48, 60] → cdF (LcA.getD 70 (.inr 0)) i = z → m2 70 i = z := fun i z s1 s2 h => (M i s1 s2).trans h
  have b78 : bt (m2 78 (m2 70 28)) 0 ≠ 1 := by
    rw [e28, z73 78 (by decide)]
    decide +kernel
  have z25 : ∀ i, m2 25 i = 0 := fun i => v 25 i 0 (by decide) rfl
  have z29 : ∀ i, m2 29 i = 0 := fun i => v 29 i 0 (by decide) rfl
  have z31 : ∀ i, m2 31 i = 0 := fun i => v 31 i 0 (by decide) rfl
  have x281 : m2 28 1 = 0 := v 28 1 0 (by decide) (by decide +kernel)
  have x282 : m2 28 2 = 0 := v 28 2 0 (by decide) (by decide +kernel)
  have x01 : m2 0 1 = 0 := v 0 1 0 (by decide) (by decide +kernel)
  have x671 : m2 67 1 = 0 := v 67 1 0 (by decide) (by decide +kernel)
  have x5510 : m2 55 10 = 0 := v 55 10 0 (by decide) (by decide +kernel)
  have x5511 : m2 55 11 = 0 := v 55 11 0 (by decide) (by decide +kernel)
  have x72 : m2 7 2 = 0 := v 7 2 0 (by decide) (by decide +kernel)
  refine ⟨0, z1, z2, z1, 7, 16, [], 0, z1, ⟨bw0, ⟨Or.inl rfl, v 0 5 _ (by decide) (by decide +kernel), v 7 0 _ (by decide) (by decide +kernel), fun i h => (in0 h).elim, fun i h => (in0 h).elim, fun i j h _ => (in0 h).elim⟩, hBM, ⟨v 0 6 _ (by decide) (by decide +kernel), Or.inr rfl, by decide⟩, fun i h => (in0 h).elim⟩, ?_, ?_, ?_, ?_, ?_, ?_⟩
  · refine ⟨⟨v 13 2 _ (by decide) (by decide +kernel), by decide, fun j s h => by simp at h⟩, Or.inl rfl, Or.inr ⟨b78, rfl⟩, ⟨x72, by rw [e28]; exact z73 76 (by decide), by decide, by decide⟩, ⟨?_, ?_, fun q => absurd q b78⟩⟩
    · rw [e28, z73 74 (by decide)]
      exact v 7 1 _ (by decide) (by decide +kernel)
    · rw [e28, z73 75 (by decide)]
      exact v 7 4 _ (by decide) (by decide +kernel)
  · refine ⟨⟨?_, ?_⟩, ⟨?_, by omega, by omega⟩, fun t t0 t1 => by omega, fun j j0 j1 => ?_⟩
    · rw [v 0 3 0 (by decide) (by decide +kernel), w 4 0 (by decide) (by decide) (by decide +kernel)]
    · rw [v 0 4 (-1) (by decide) (by decide +kernel), w 5 (-1) (by decide) (by decide) (by decide +kernel)]
    · rw [x01, w 2 0 (by decide) (by decide) (by decide +kernel)]
    · refine v 4 j _ (by decide) ?_
      show (if 0 ≤ j ∧ j < ((15 : Nat) : Int) then KV j else 0) = cvN 8 (KC j)
      rw [if_pos ⟨j0, by omega⟩]
      rfl
  · refine ⟨fun i i0 i1 => ?_, st0 (fun i _ _ => z25 i), ⟨⟨by omega, by omega, by omega, by omega, by omega⟩, fun i i0 i1 => ?_, fun k k0 k1 => by omega, fun k k0 k1 => by omega⟩, fun j j0 j1 => st0 (fun i _ _ => z29 _), fun x x0 x1 => ⟨?_, fun q => absurd (z31 x) q⟩⟩
    · rw [z25 i]
      by_cases q : i = 7
      · rw [q, g97, e28']
        exact (n77.1 0 (by decide) (by decide)).symm
      · exact (g90 i i0 (by omega) in0).symm
    · rw [z25 i]
      exact z29 _
    · rw [z31 x, e110 x x0 x1]
  · exact ⟨⟨by rw [x671, e48], by omega, by omega⟩, fun i i0 i1 => by omega⟩
  · refine ⟨⟨fun i h => (in0 h).elim, fun i h => (in0 h).elim, fun q => absurd (v 55 9 0 (by decide) (by decide +kernel)) q, ⟨by omega, by omega⟩, fun i i0 i1 => absurd i1 (by omega)⟩, ⟨fun i h => (in0 h).elim, fun i h => (in0 h).elim, ⟨by omega, by omega⟩, fun i i0 i1 => absurd i1 (by omega)⟩, by omega, ⟨?_, by omega, by omega⟩, fun i i0 i1 => absurd i1 (by omega)⟩
    rw [x5511, w 61 0 (by decide) (by decide) (by decide +kernel)]
  · exact ⟨⟨⟨v 38 1 _ (by decide) (by decide +kernel), fun q => absurd q (by decide)⟩, v 38 6 _ (by decide) (by decide +kernel)⟩, ⟨v 38 5 _ (by decide) (by decide +kernel), fun i i0 i1 => by
      have e : pcF 0 z2 z1 0 = 0 := rfl
      omega⟩, ⟨fun i h => (in0 h).elim, z1, fun i h => (in0 h).elim⟩, fun q => absurd (v 45 3 0 (by decide) (by decide +kernel)) q, hGM⟩
section Begin0
variable {l : Launch} {G : GT} {Q : Option MV → MM → Nat → Prop}
/-- the reference's constructor -/
theorem kk_M_70 {m : MM} (h70 : m 70 = q_dm 11) (hp : Ptr (mkM 70 LcM m)) : q_Ok l G false Y_M_init 6 [.inr (.inr 70)] m 71 40 6624 (fun r m' n' => r = none ∧ n' = 111 ∧ Ptr m' ∧ ∃ m1, ClM 0 (mkM 70 LcM m) m1 ∧ BgM 0 z1 z2 z1 m1 m') := by
  refine q_Ok.of k_M_init.1 (by decide) ?_
  have K := fun h => kk_M (l := l) (G := G) (m := m) (Q := fun r m' n' => r = none ∧ n' = 111 ∧ Ptr m' ∧ ∃ m1, ClM 0 (mkM 70 LcM m) m1 ∧ BgM 0 z1 z2 z1 m1 m') h
  rw [mk_one h70] at K
  refine K ?_
  have e29 : mkM 70 LcM m 70 29 = 0 := by
    have h := mk_at (a0 := 70) (t := 0) (L := LcM) (m0 := m) (x := LcM.getD 0 (.inr 0)) rfl
    rw [Nat.add_zero] at h
    rw [h]
    decide +kernel
  have e28 : mkM 70 LcM m 70 28 = 0 := by
    have h := mk_at (a0 := 70) (t := 0) (L := LcM) (m0 := m) (x := LcM.getD 0 (.inr 0)) rfl
    rw [Nat.add_zero] at h
    rw [h]
    decide +kernel
  generalize hS : mkM 70 LcM m = mS at hp e29 e28 ⊢
  refine Wp.aload_n 0 0 dk_M_init_321 rfl rfl ?_
  refine Wp.callV (c := 11) (d2 := 0) (bc1 := 0) (bs1 := 0) (st := []) [] dk_M_init_322 k_M_clearBank ml_M_137 (q_Ok.low hp (c_clearBank (d := 0) ⟨e29, by decide, by decide⟩)) rfl rfl rfl (Or.inr (by decide)) (by decide) (fun h => by cases h) (Nat.le_of_ble_eq_true rfl) (Nat.le_refl 0) (Nat.le_refl 0) (fun r m1 n1 h => ?_)
  obtain ⟨⟨rfl, -, hc⟩, rfl, hp1⟩ := h
  have e281 : m1 70 28 = 0 := by rw [hc.1.2 28 (by decide)]; exact e28
  have X : BM 0 z1 z2 (m1 92) m1 := ⟨by omega, by rw [e281]; exact hc.2.1.1.1 0 (by decide) (by decide), fun i h => (in0 h).elim, fun i h => (in0 h).elim, fun i j h _ => (in0 h).elim⟩
  show Wp l G false Y_M_init 6 false _ 325 [(0, .inr (.inr 70))] [] m1 111 0 0
  refine Wp.aload_n 0 0 dk_M_init_325 rfl rfl ?_
  refine Wp.callV (c := 11) (d2 := 4) (bc1 := 0) (bs1 := 0) (st := []) [] dk_M_init_326 k_M_startAnew ml_M_140 (q_Ok.low hp1 (c_startAnew (d := 0) bw0 X)) rfl rfl rfl (Or.inr (by decide)) (by decide) (fun h => by cases h) (Nat.le_of_ble_eq_true rfl) (Nat.le_refl 0) (Nat.le_refl 0) (fun r m2 n2 h => ?_)
  obtain ⟨⟨rfl, -, hb⟩, rfl, hp2⟩ := h
  exact Wp.vret dk_M_init_329 rfl ⟨rfl, rfl, hp2, m1, hc, hb⟩
theorem dl_Law_0 : decode Y_Law.2.1 0 = .ok (.new 7, 3) := by decide +kernel
theorem dl_Law_3 : decode Y_Law.2.1 3 = .ok (.dup, 1) := by decide +kernel
theorem dl_Law_4 : decode Y_Law.2.1 4 = .ok (.invokespecial 9, 3) := by decide +kernel
theorem dl_Law_7 : decode Y_Law.2.1 7 = .ok (.astore_n 1, 1) := by decide +kernel
theorem dl_Law_8 : decode Y_Law.2.1 8 = .ok (.new 10, 3) := by decide +kernel
theorem dl_Law_11 : decode Y_Law.2.1 11 = .ok (.dup, 1) := by decide +kernel
theorem dl_Law_12 : decode Y_Law.2.1 12 = .ok (.invokespecial 12, 3) := by decide +kernel
theorem dl_Law_15 : decode Y_Law.2.1 15 = .ok (.astore_n 2, 1) := by decide +kernel
theorem dl_Law_16 : decode Y_Law.2.1 16 = .ok (.iconst 0, 1) := by decide +kernel
theorem dl_Law_17 : decode Y_Law.2.1 17 = .ok (.istore_n 3, 1) := by decide +kernel
/-- the law, from its first step -/
theorem law_all (hG : GVok G) {m0 : MM} : Wp l G true Y_Law 400 false Q 0 [(0, .inr (.inr 1000))] [] m0 0 600000 7302250 := by
  have e0 : m0 = mkM 0 [] m0 := mk_ext (fun b _ => rfl) (fun t x hx => by simp at hx)
  rw [e0]
  refine Wp.kN (c := 10) 20 1 599999 7302230 [.inl (10, [])] dl_Law_0 cl_Law_7 rfl rfl (by decide) rfl ?_
  refine Wp.dup dl_Law_3 rfl ?_
  refine Wp.kC 0 6 69 4730 70 599930 7297500 LcS LcS dl_Law_4 k_S_init rfl (Or.inl ml_Law_9) (kk_S_0 hG) (fun _ => Nat.le_refl 400) (Nat.le_of_ble_eq_true rfl) rfl (by decide) rfl ?_
  refine Wp.astore_n 1 [(0, .inr (.inr 1000)), (1, .inr (.inr 0))] dl_Law_7 rfl (by decide) rfl ?_
  refine Wp.kN (c := 11) 64 71 599929 7297436 (LcS ++ [.inl (11, [])]) dl_Law_8 cl_Law_10 rfl rfl (by decide) rfl ?_
  refine Wp.dup dl_Law_11 rfl ?_
  have h70 : mkM 0 (LcS ++ [.inl (11, [])]) m0 70 = q_dm 11 := by
    have h := mk_at (a0 := 0) (t := 70) (L := LcS ++ [.inl (11, [])]) (m0 := m0) (x := .inl (11, [])) rfl
    rw [Nat.zero_add] at h
    rw [h]
    rfl
  have eS : mkM 70 LcM (mkM 0 (LcS ++ [.inl (11, [])]) m0) = mkM 0 LcA m0 := mk_call (a0 := 0) (t := 70) rfl (by decide +kernel) (by decide)
  have hp : Ptr (mkM 70 LcM (mkM 0 (LcS ++ [.inl (11, [])]) m0)) := by
    rw [eS]
    exact mS_ptr
  have ho := kk_M_70 (l := l) (G := G) h70 hp
  rw [eS] at ho
  refine Wp.callI (d2 := 6) (bc1 := 40) (bs1 := 6624) dl_Law_12 k_M_init rfl (Or.inl ml_Law_12) ho (by decide) (by decide) (fun _ => Nat.le_refl 400) (Nat.le_of_ble_eq_true rfl) (by decide) (by decide) (fun r m1 n1 h => ?_)
  obtain ⟨rfl, rfl, hp1, m2, h1, h2⟩ := h
  have hI := inv0 h1 h2
  show Wp l G true Y_Law 400 false Q 15 [(0, .inr (.inr 1000)), (1, .inr (.inr 0))] [.inr (.inr 70)] m1 111 (599929 - 40) (7297436 - 6624)
  refine Wp.astore_n 2 [(0, .inr (.inr 1000)), (1, .inr (.inr 0)), (2, .inr (.inr 70))] dl_Law_15 rfl (by decide) rfl ?_
  refine Wp.iconst dl_Law_16 (by decide) ?_
  refine Wp.istore_n 3 [(0, .inr (.inr 1000)), (1, .inr (.inr 0)), (2, .inr (.inr 70)), (3, .inl 0)] dl_Law_17 rfl (by decide) rfl ?_
  refine Wp.made hp1 ?_
  refine Wp.slack (bc1 := 0) (bs1 := 0) (Nat.zero_le _) (Nat.zero_le _) ?_
  exact law_go hG 513 0 m1 (by decide) (by decide) hI
end Begin0
