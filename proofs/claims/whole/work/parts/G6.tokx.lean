/-! the key words and the tokens of the class -/
theorem nmv_0 : NmV 482854663269 := by
  refine ⟨fun t : Int => ([112, 108, 97, 116, 101] : List Int).getD t.toNat 0, 0, 5, by decide, fun t t0 t1 => ?_, by decide +kernel⟩
  have h : t = 0 ∨ t = 1 ∨ t = 2 ∨ t = 3 ∨ t = 4 := by omega
  rcases h with rfl | rfl | rfl | rfl | rfl <;> exact ⟨by decide +kernel, by decide +kernel⟩
theorem nmv_1 : NmV 448545973363 := by
  refine ⟨fun t : Int => ([104, 111, 108, 100, 115] : List Int).getD t.toNat 0, 0, 5, by decide, fun t t0 t1 => ?_, by decide +kernel⟩
  have h : t = 0 ∨ t = 1 ∨ t = 2 ∨ t = 3 ∨ t = 4 := by omega
  rcases h with rfl | rfl | rfl | rfl | rfl <;> exact ⟨by decide +kernel, by decide +kernel⟩
theorem nmv_2 : NmV 426954290277 := by
  refine ⟨fun t : Int => ([99, 104, 117, 116, 101] : List Int).getD t.toNat 0, 0, 5, by decide, fun t t0 t1 => ?_, by decide +kernel⟩
  have h : t = 0 ∨ t = 1 ∨ t = 2 ∨ t = 3 ∨ t = 4 := by omega
  rcases h with rfl | rfl | rfl | rfl | rfl <;> exact ⟨by decide +kernel, by decide +kernel⟩
theorem nmv_3 : NmV 2003395685 := by
  refine ⟨fun t : Int => ([119, 105, 100, 101] : List Int).getD t.toNat 0, 0, 4, by decide, fun t t0 t1 => ?_, by decide +kernel⟩
  have h : t = 0 ∨ t = 1 ∨ t = 2 ∨ t = 3 := by omega
  rcases h with rfl | rfl | rfl | rfl <;> exact ⟨by decide +kernel, by decide +kernel⟩
theorem nmv_4 : NmV 431415716206 := by
  refine ⟨fun t : Int => ([100, 114, 97, 105, 110] : List Int).getD t.toNat 0, 0, 5, by decide, fun t t0 t1 => ?_, by decide +kernel⟩
  have h : t = 0 ∨ t = 1 ∨ t = 2 ∨ t = 3 ∨ t = 4 := by omega
  rcases h with rfl | rfl | rfl | rfl | rfl <;> exact ⟨by decide +kernel, by decide +kernel⟩
theorem nmv_5 : NmV 439721159795 := by
  refine ⟨fun t : Int => ([102, 97, 108, 108, 115] : List Int).getD t.toNat 0, 0, 5, by decide, fun t t0 t1 => ?_, by decide +kernel⟩
  have h : t = 0 ∨ t = 1 ∨ t = 2 ∨ t = 3 ∨ t = 4 := by omega
  rcases h with rfl | rfl | rfl | rfl | rfl <;> exact ⟨by decide +kernel, by decide +kernel⟩
theorem nmv_6 : NmV 1819632491 := by
  refine ⟨fun t : Int => ([108, 117, 99, 107] : List Int).getD t.toNat 0, 0, 4, by decide, fun t t0 t1 => ?_, by decide +kernel⟩
  have h : t = 0 ∨ t = 1 ∨ t = 2 ∨ t = 3 := by omega
  rcases h with rfl | rfl | rfl | rfl <;> exact ⟨by decide +kernel, by decide +kernel⟩
theorem nmv_7 : NmV 1685217655 := by
  refine ⟨fun t : Int => ([100, 114, 97, 119] : List Int).getD t.toNat 0, 0, 4, by decide, fun t t0 t1 => ?_, by decide +kernel⟩
  have h : t = 0 ∨ t = 1 ∨ t = 2 ∨ t = 3 := by omega
  rcases h with rfl | rfl | rfl | rfl <;> exact ⟨by decide +kernel, by decide +kernel⟩
theorem nmv_8 : NmV 28530 := by
  refine ⟨fun t : Int => ([111, 114] : List Int).getD t.toNat 0, 0, 2, by decide, fun t t0 t1 => ?_, by decide +kernel⟩
  have h : t = 0 ∨ t = 1 := by omega
  rcases h with rfl | rfl <;> exact ⟨by decide +kernel, by decide +kernel⟩
theorem nmv_9 : NmV 6385252 := by
  refine ⟨fun t : Int => ([97, 110, 100] : List Int).getD t.toNat 0, 0, 3, by decide, fun t t0 t1 => ?_, by decide +kernel⟩
  have h : t = 0 ∨ t = 1 ∨ t = 2 := by omega
  rcases h with rfl | rfl | rfl <;> exact ⟨by decide +kernel, by decide +kernel⟩
theorem nmv_10 : NmV 7237492 := by
  refine ⟨fun t : Int => ([110, 111, 116] : List Int).getD t.toNat 0, 0, 3, by decide, fun t t0 t1 => ?_, by decide +kernel⟩
  have h : t = 0 ∨ t = 1 ∨ t = 2 := by omega
  rcases h with rfl | rfl | rfl <;> exact ⟨by decide +kernel, by decide +kernel⟩
theorem nmv_11 : NmV 113740958232179 := by
  refine ⟨fun t : Int => ([103, 114, 97, 105, 110, 115] : List Int).getD t.toNat 0, 0, 6, by decide, fun t t0 t1 => ?_, by decide +kernel⟩
  have h : t = 0 ∨ t = 1 ∨ t = 2 ∨ t = 3 ∨ t = 4 ∨ t = 5 := by omega
  rcases h with rfl | rfl | rfl | rfl | rfl | rfl <;> exact ⟨by decide +kernel, by decide +kernel⟩
theorem nmv_12 : NmV 1651665261 := by
  refine ⟨fun t : Int => ([98, 114, 105, 109] : List Int).getD t.toNat 0, 0, 4, by decide, fun t t0 t1 => ?_, by decide +kernel⟩
  have h : t = 0 ∨ t = 1 ∨ t = 2 ∨ t = 3 := by omega
  rcases h with rfl | rfl | rfl | rfl <;> exact ⟨by decide +kernel, by decide +kernel⟩
theorem nmv_13 : NmV 121450625394034 := by
  refine ⟨fun t : Int => ([110, 117, 109, 98, 101, 114] : List Int).getD t.toNat 0, 0, 6, by decide, fun t t0 t1 => ?_, by decide +kernel⟩
  have h : t = 0 ∨ t = 1 ∨ t = 2 ∨ t = 3 ∨ t = 4 ∨ t = 5 := by omega
  rcases h with rfl | rfl | rfl | rfl | rfl | rfl <;> exact ⟨by decide +kernel, by decide +kernel⟩
theorem nmv_14 : NmV 6578553 := by
  refine ⟨fun t : Int => ([100, 97, 121] : List Int).getD t.toNat 0, 0, 3, by decide, fun t t0 t1 => ?_, by decide +kernel⟩
  have h : t = 0 ∨ t = 1 ∨ t = 2 := by omega
  rcases h with rfl | rfl | rfl <;> exact ⟨by decide +kernel, by decide +kernel⟩
def KC (j : Int) : Int := if j = 0 then 482854663269 else if j = 1 then 448545973363 else if j = 2 then 426954290277 else if j = 3 then 2003395685 else if j = 4 then 431415716206 else if j = 5 then 439721159795 else if j = 6 then 1819632491 else if j = 7 then 1685217655 else if j = 8 then 28530 else if j = 9 then 6385252 else if j = 10 then 7237492 else if j = 11 then 113740958232179 else if j = 12 then 1651665261 else if j = 13 then 121450625394034 else if j = 14 then 6578553 else 0
theorem KC_nm {j : Int} (h : 0 ≤ j ∧ j < 15) : NmV (KC j) := by
  have h2 : j = 0 ∨ j = 1 ∨ j = 2 ∨ j = 3 ∨ j = 4 ∨ j = 5 ∨ j = 6 ∨ j = 7 ∨ j = 8 ∨ j = 9 ∨ j = 10 ∨ j = 11 ∨ j = 12 ∨ j = 13 ∨ j = 14 := by omega
  rcases h2 with rfl | rfl | rfl | rfl | rfl | rfl | rfl | rfl | rfl | rfl | rfl | rfl | rfl | rfl | rfl
  · exact nmv_0
  · exact nmv_1
  · exact nmv_2
  · exact nmv_3
  · exact nmv_4
  · exact nmv_5
  · exact nmv_6
  · exact nmv_7
  · exact nmv_8
  · exact nmv_9
  · exact nmv_10
  · exact nmv_11
  · exact nmv_12
  · exact nmv_13
  · exact nmv_14
theorem KC_kw {j : Int} (h : 0 ≤ j ∧ j < 15) : kwF (KC j) = 100 + j := by
  have h2 : j = 0 ∨ j = 1 ∨ j = 2 ∨ j = 3 ∨ j = 4 ∨ j = 5 ∨ j = 6 ∨ j = 7 ∨ j = 8 ∨ j = 9 ∨ j = 10 ∨ j = 11 ∨ j = 12 ∨ j = 13 ∨ j = 14 := by omega
  rcases h2 with rfl | rfl | rfl | rfl | rfl | rfl | rfl | rfl | rfl | rfl | rfl | rfl | rfl | rfl | rfl <;> decide +kernel
theorem kw_KC {v : Int} (h : kwF v ≠ 2) : ∃ j, (0 ≤ j ∧ j < 15) ∧ v = KC j := by
  have hv : v ∈ KW := Classical.not_not.mp (fun q => h (kwF_in.2 q))
  unfold KW at hv
  simp only [List.mem_cons, List.not_mem_nil, or_false] at hv
  rcases hv with rfl | rfl | rfl | rfl | rfl | rfl | rfl | rfl | rfl | rfl | rfl | rfl | rfl | rfl | rfl
  · exact ⟨0, by decide, by decide +kernel⟩
  · exact ⟨1, by decide, by decide +kernel⟩
  · exact ⟨2, by decide, by decide +kernel⟩
  · exact ⟨3, by decide, by decide +kernel⟩
  · exact ⟨4, by decide, by decide +kernel⟩
  · exact ⟨5, by decide, by decide +kernel⟩
  · exact ⟨6, by decide, by decide +kernel⟩
  · exact ⟨7, by decide, by decide +kernel⟩
  · exact ⟨11, by decide, by decide +kernel⟩
  · exact ⟨12, by decide, by decide +kernel⟩
  · exact ⟨13, by decide, by decide +kernel⟩
  · exact ⟨14, by decide, by decide +kernel⟩
  · exact ⟨8, by decide, by decide +kernel⟩
  · exact ⟨9, by decide, by decide +kernel⟩
  · exact ⟨10, by decide, by decide +kernel⟩
/-- the class's key words -/
def KyX (m : MM) : Prop := ∀ j, 0 ≤ j → j < 15 → m 4 j = cvN 8 (KC j)
section TokX
variable {l : Launch} {G : GT} {d : Nat} {m : MM} {T : Int → Int} {N : Int}
theorem c_isLetterX {x : Int} : CI l G Y_Tokens_isLetter d [.inl x] m (fun z m' => (z = 0 ↔ ¬ isL x) ∧ m = m') :=
  e_Tokens_isLetter x (fun _ _ => ⟨fun c => ⟨⟨fun _ q => by have := q.1; omega, fun _ => rfl⟩, rfl⟩, fun c => ⟨fun c2 => ⟨⟨fun _ q => by have := q.2; omega, fun _ => rfl⟩, rfl⟩, fun c2 => ⟨⟨fun q => absurd q (by decide), fun q => absurd ⟨by omega, by omega⟩ q⟩, rfl⟩⟩⟩)
theorem c_isDigitX {x : Int} : CI l G Y_Tokens_isDigit d [.inl x] m (fun z m' => (z = 0 ↔ ¬ isD x) ∧ m = m') :=
  e_Tokens_isDigit x (fun _ _ => ⟨fun c => ⟨⟨fun _ q => by have := q.1; omega, fun _ => rfl⟩, rfl⟩, fun c => ⟨fun c2 => ⟨⟨fun _ q => by have := q.2; omega, fun _ => rfl⟩, rfl⟩, fun c2 => ⟨⟨fun q => absurd q (by decide), fun q => absurd ⟨by omega, by omega⟩ q⟩, rfl⟩⟩⟩)
theorem c_kindOfWord (hK : KyX m) {v : Int} (hv : NmV v) : CI l G Y_Tokens_kindOfWord d [.inr (.inr 3), .inr (.inl (cvN 8 v))] m (fun z m' => z = kwF v ∧ m = m') := by
  refine e_Tokens_kindOfWord _ (fun _ _ => ?_)
  have loop : ∀ (s : Nat) (i : Int), i + s = 15 → 0 ≤ i → (∀ t, 0 ≤ t → t < i → v ≠ KC t) → Wq l G false Y_Tokens_kindOfWord d (QI fun z m' => z = kwF v ∧ m = m') 2 [(0, .inr (.inr 3)), (1, .inr (.inl (cvN 8 v))), (3, .inl i)] [] m := by
    intro s
    induction s with
    | zero =>
      intro i hi i0 hno
      refine s_Tokens_kindOfWord_2 _ _ (fun _ _ _ => ⟨fun _ => ⟨?_, rfl⟩, fun q => absurd (show i ≥ 15 by omega) q⟩)
      refine Classical.byContradiction (fun q => ?_)
      obtain ⟨j, hj, e⟩ := kw_KC (v := v) (fun g => q g.symm)
      exact hno j hj.1 (by omega) e
    | succ s ih =>
      intro i hi i0 hno
      refine s_Tokens_kindOfWord_2 _ _ (fun _ _ _ => ?_)
      rw [hK i i0 (by omega)]
      refine ⟨fun q => absurd q (by omega), fun _ => ⟨⟨i0, by omega⟩, fun q => ⟨by omega, ih (i + 1) (by omega) (by omega) (fun t t0 t1 => ?_)⟩, fun q => ⟨?_, rfl⟩⟩⟩
      · by_cases e : t = i
        · rw [e]; exact fun g => q (by rw [g])
        · exact hno t t0 (by omega)
      · have e := cv_inj (KC_nm ⟨i0, by omega⟩) hv (Classical.not_not.mp q)
        rw [← e, KC_kw ⟨i0, by omega⟩]
        exact w32_id (by unfold inR; omega)
  exact loop 15 0 (by omega) (Int.le_refl 0) (fun t t0 t1 => by omega)
/-- the class's text and where it is -/
def TxX (T : Int → Int) (N : Int) (m : MM) : Prop := m 3 1 = (1 : Nat) ∧ m 3 2 = N ∧ 0 ≤ N ∧ N ≤ 1600 ∧ (∀ t, 0 ≤ t → t < N → m 1 t = T t ∧ 0 ≤ T t ∧ T t ≤ 255) ∧ KyX m
theorem TxX.fro {I : List Int} {m' : MM} (h : TxX T N m) (f : Fro 3 [] I m m') (h1 : (1 : Int) ∉ I) (h2 : (2 : Int) ∉ I) : TxX T N m' := by
  obtain ⟨a, b, c, e, g, k⟩ := h
  refine ⟨by rw [f.2 1 h1]; exact a, by rw [f.2 2 h2]; exact b, c, e, fun t t0 t1 => by rw [f.1 1 (by simp) (by decide)]; exact g t t0 t1, fun j j0 j1 => by rw [f.1 4 (by simp) (by decide)]; exact k j j0 j1⟩
theorem pk_top {T : Int → Int} {a : Int} : ∀ k : Nat, (∀ t : Int, a ≤ t → t < a + k → isL (T t)) → 0 ≤ pkN 32 96 T a k ∧ pkN 32 96 T a k + 1 ≤ 32 ^ k
  | 0, _ => ⟨Int.le_refl 0, Int.le_refl 1⟩
  | k + 1, h => by
    obtain ⟨h1, h2⟩ := pk_top k (fun t t0 t1 => h t t0 (by omega))
    have h3 := h (a + k) (by omega) (by omega)
    unfold isL at h3
    have e : pkN 32 96 T a (k + 1) = pkN 32 96 T a k * 32 + (T (a + k) - 96) := rfl
    rw [e, Int.pow_succ]
    exact ⟨by omega, by omega⟩
theorem pow32 {k : Nat} (hk : k ≤ 8) : (32 : Int) ^ k ≤ 1099511627776 := by
  have : k = 0 ∨ k = 1 ∨ k = 2 ∨ k = 3 ∨ k = 4 ∨ k = 5 ∨ k = 6 ∨ k = 7 ∨ k = 8 := by omega
  rcases this with rfl | rfl | rfl | rfl | rfl | rfl | rfl | rfl | rfl <;> decide
/-- a word read by the class -/
theorem c_readWordX {a : Int} (hX : TxX T N m) (ha : m 3 3 = a ∧ m 3 5 = a ∧ m 3 6 = 0) (h0 : 0 ≤ a ∧ a < N) : CV l G Y_Tokens_readWord (d + 1) [.inr (.inr 3)] m (fun m' => Fro 3 [] [3, 4, 6] m m' ∧ m' 3 3 = enW T N a ∧ m' 3 4 = (if 8 < enW T N a - a then 1 else kwF (nmF T a (enW T N a - a).toNat)) ∧ (enW T N a - a ≤ 8 → m' 3 6 = cvN 8 (nmF T a (enW T N a - a).toNat))) := by
  generalize hQ : (fun (m' : MM) => Fro 3 [] [3, 4, 6] m m' ∧ m' 3 3 = enW T N a ∧ m' 3 4 = (if 8 < enW T N a - a then 1 else kwF (nmF T a (enW T N a - a).toNat)) ∧ (enW T N a - a ≤ 8 → m' 3 6 = cvN 8 (nmF T a (enW T N a - a).toNat))) = Q
  obtain ⟨ha3, ha5, ha6⟩ := ha
  have hN := hX.2.2.2.1
  -- the end
  have fin : ∀ (m1 : MM) (e : Int), Fro 3 [] [3, 6] m m1 → m1 3 3 = e → (e - a ≤ 8 → m1 3 6 = pkN 32 96 T a (e - a).toNat) → Run (fun t => t < N ∧ isL (T t)) a e → ((w32 ((m1 3 3) - (m1 3 5))) ≤ 8 → (∃ (e11 : Nat) (P12 : Int → MM → Prop), e11 < d + 1 ∧ CI l G Y_Tokens_kindOfWord e11 [.inr (.inr 3), .inr (.inl (m1 3 6))] m1 P12 ∧ (∀ z17 m18, P12 z17 m18 → inR z17 → wfM m18 → (∀ m22, m22 = up m18 3 4 z17 → (Q m22))))) ∧ (¬ ((w32 ((m1 3 3) - (m1 3 5))) ≤ 8) → (∀ m25, m25 = up m1 3 4 1 → (Q m25))) := by
    intro m1 e f1 h3 h6 hR
    have hew : enW T N a = e := hR.eq
    have hae := hR.1
    have heN : e ≤ N := by
      rcases Int.lt_or_le N e with q | q
      · have := (hR.2.1 N (by omega) q).1; omega
      · exact q
    have h5 : m1 3 5 = a := by rw [f1.2 5 (by decide)]; exact ha5
    rw [h3, h5, w32_id (show inR (e - a) by unfold inR; omega)]
    refine ⟨fun c => ?_, fun c m2 e2 => ?_⟩
    · have hl : ∀ t : Int, a ≤ t → t < a + (e - a).toNat → isL (T t) := fun t t0 t1 => (hR.2.1 t t0 (by omega)).2
      have hnm := nm_pk (e - a).toNat (by omega) hl
      have hv : NmV (nmF T a (e - a).toNat) := ⟨T, a, _, by omega, hl, hnm.1⟩
      have hcv : m1 3 6 = cvN 8 (nmF T a (e - a).toNat) := by rw [h6 c, hnm.1, cv_pk 8 _ (by omega) hl]
      rw [hcv]
      have hK : KyX m1 := fun j j0 j1 => by rw [f1.1 4 (by simp) (by decide)]; exact hX.2.2.2.2.2 j j0 j1
      refine ⟨d, _, by omega, c_kindOfWord hK hv, fun z m2 hz _ _ m3 e3 => ?_⟩
      obtain ⟨rfl, rfl⟩ := hz
      rw [← hQ]
      refine ⟨⟨fun b hb h7 => by rw [e3, up_ne h7]; exact f1.1 b hb h7, fun i hi => ?_⟩, ?_, ?_, fun _ => ?_⟩
      · simp only [List.mem_cons, List.not_mem_nil, or_false] at hi
        rw [e3, up_off (by omega)]
        exact f1.2 i (by simp only [List.mem_cons, List.not_mem_nil, or_false]; omega)
      · rw [e3, up_off (by decide), h3, hew]
      · rw [e3, up_at, hew, if_neg (by omega)]
      · rw [e3, up_off (by decide), hew]; exact hcv
    · rw [← hQ]
      refine ⟨⟨fun b hb h7 => by rw [e2, up_ne h7]; exact f1.1 b hb h7, fun i hi => ?_⟩, ?_, ?_, fun q => ?_⟩
      · simp only [List.mem_cons, List.not_mem_nil, or_false] at hi
        rw [e2, up_off (by omega)]
        exact f1.2 i (by simp only [List.mem_cons, List.not_mem_nil, or_false]; omega)
      · rw [e2, up_off (by decide), h3, hew]
      · rw [e2, up_at, hew, if_pos (by omega)]
      · rw [hew] at q; omega
  have loop : ∀ (s : Nat) (i : Int) (m1 : MM), i + s = N → a ≤ i → Fro 3 [] [3, 6] m m1 → m1 3 3 = i → (i - a ≤ 8 → m1 3 6 = pkN 32 96 T a (i - a).toNat) → (∀ t, a ≤ t → t < i → t < N ∧ isL (T t)) → Wq l G false Y_Tokens_readWord (d + 1) (QV Q) 0 [(0, .inr (.inr 3))] [] m1 := by
    intro s
    induction s with
    | zero =>
      intro i m1 hi hai f1 h3 h6 hl
      have hf := fin m1 i f1 h3 h6 ⟨hai, hl, fun q => by have := q.1; omega⟩
      refine s_Tokens_readWord_0 (fun _ => ?_)
      have h2 : m1 3 2 = N := by rw [f1.2 2 (by decide)]; exact hX.2.1
      refine ⟨fun _ => hf, fun c => absurd (show m1 3 3 ≥ m1 3 2 by rw [h3, h2]; omega) c⟩
    | succ s ih =>
      intro i m1 hi hai f1 h3 h6 hl
      have X1 := hX.fro f1 (by decide) (by decide)
      have h2 := X1.2.1
      have ht := X1.2.2.2.2.1 i (by omega) (by omega)
      refine s_Tokens_readWord_0 (fun _ => ?_)
      have hf := fun hn => fin m1 i f1 h3 h6 ⟨hai, hl, hn⟩
      refine ⟨fun c => absurd c (by rw [h3, h2]; omega), fun _ => ⟨1, 1600, X1.1, rfl, by rw [h3]; omega, ?_⟩⟩
      have e1 : m1 1 (m1 3 3) = T i := by rw [h3]; exact ht.1
      rw [e1]
      refine ⟨d, _, by omega, c_isLetterX, fun z m2 hz _ _ => ?_⟩
      obtain ⟨hz, rfl⟩ := hz
      refine ⟨fun c => hf (fun q => hz.mp c q.2), fun c => ⟨1, 1600, X1.1, rfl, by rw [h3]; omega, fun m2 e2 m3 e3 => ?_⟩⟩
      have hil : isL (T i) := Classical.not_not.mp (fun q => c (hz.mpr q))
      have k3 : m2 3 3 = i := by rw [e2, up_off (by decide)]; exact h3
      rw [k3, w32_id (show inR (i + 1) by unfold inR; omega)] at e3
      refine ih (i + 1) m3 (by omega) (by omega) ⟨fun b hb h7 => by rw [e3, up_ne h7, e2, up_ne h7]; exact f1.1 b hb h7, fun j hj => ?_⟩ (by rw [e3, up_at]) (fun h8 => ?_) (fun t t0 t1 => ?_)
      · simp only [List.mem_cons, List.not_mem_nil, or_false] at hj
        rw [e3, up_off (by omega), e2, up_off (by omega)]
        exact f1.2 j (by simp only [List.mem_cons, List.not_mem_nil, or_false]; omega)
      · have hl' : ∀ t : Int, a ≤ t → t < a + (i - a).toNat → isL (T t) := fun t t0 t1 => (hl t t0 (by omega)).2
        have hb := pk_top (i - a).toNat hl'
        have hp := pow32 (k := (i - a).toNat) (by omega)
        rw [e3, up_off (by decide), e2, up_at, h6 (by omega), e1, show (i + 1 - a).toNat = (i - a).toNat + 1 by omega]
        show w64 (w64 (pkN 32 96 T a (i - a).toNat * 32) + w32 (w32 (T i - 97) + 1)) = pkN 32 96 T a (i - a).toNat * 32 + (T (a + ((i - a).toNat : Nat)) - 96)
        rw [show a + (((i - a).toNat : Nat) : Int) = i by omega]
        unfold isL at hil
        rw [w32_id (show inR (T i - 97) by unfold inR; omega), w32_id (show inR (T i - 97 + 1) by unfold inR; omega), w64_id (show inL (pkN 32 96 T a (i - a).toNat * 32) by unfold inL; omega), w64_id (show inL (pkN 32 96 T a (i - a).toNat * 32 + (T i - 97 + 1)) by unfold inL; omega)]
        omega
      · by_cases e : t = i
        · rw [e]; exact ⟨by omega, hil⟩
        · exact hl t t0 (by omega)
  have st := loop (N - a).toNat a m (by omega) (Int.le_refl a) Fro.rf ha3 (fun _ => by rw [ha6, Int.sub_self]; rfl) (fun t t0 t1 => by omega)
  exact CV.of [(0, .inr (.inr 3))] k_Tokens_readWord.1 (Nat.le_of_ble_eq_true rfl) rfl st
/-- a number read by the class -/
theorem c_readNumberX {a : Int} (hX : TxX T N m) (ha : m 3 3 = a ∧ m 3 5 = a ∧ m 3 6 = 0) (h0 : 0 ≤ a ∧ a < N) : CV l G Y_Tokens_readNumber (d + 1) [.inr (.inr 3)] m (fun m' => Fro 3 [] [3, 4, 6] m m' ∧ m' 3 3 = enD T N a ∧ m' 3 4 = (if 4 < enD T N a - a ∨ (enD T N a < N ∧ 97 ≤ T (enD T N a) ∧ T (enD T N a) ≤ 122) then 1 else 3) ∧ (enD T N a - a ≤ 4 → m' 3 6 = nuF T a (enD T N a - a).toNat)) := by
  generalize hQ : (fun (m' : MM) => Fro 3 [] [3, 4, 6] m m' ∧ m' 3 3 = enD T N a ∧ m' 3 4 = (if 4 < enD T N a - a ∨ (enD T N a < N ∧ 97 ≤ T (enD T N a) ∧ T (enD T N a) ≤ 122) then 1 else 3) ∧ (enD T N a - a ≤ 4 → m' 3 6 = nuF T a (enD T N a - a).toNat)) = Q
  obtain ⟨ha3, ha5, ha6⟩ := ha
  have hN := hX.2.2.2.1
  have fin : ∀ (m1 : MM) (e : Int), Fro 3 [] [3, 6] m m1 → m1 3 3 = e → (e - a ≤ 4 → m1 3 6 = nuF T a (e - a).toNat) → Run (fun t => t < N ∧ isD (T t)) a e → Wq l G false Y_Tokens_readNumber (d + 1) (QV Q) 65 [(0, .inr (.inr 3))] [] m1 := by
    intro m1 e f1 h3 h6 hR
    have hew : enD T N a = e := hR.eq
    have hae := hR.1
    have heN : e ≤ N := by
      rcases Int.lt_or_le N e with q | q
      · have := (hR.2.1 N (by omega) q).1; omega
      · exact q
    have X1 := hX.fro f1 (by decide) (by decide)
    have h2 := X1.2.1
    have h5 : m1 3 5 = a := by rw [f1.2 5 (by decide)]; exact ha5
    have leaf : ∀ (k : Int) (m2 : MM), m2 = up m1 3 4 k → k = (if 4 < e - a ∨ (e < N ∧ 97 ≤ T e ∧ T e ≤ 122) then 1 else 3) → Q m2 := by
      intro k m2 e2 hk
      rw [← hQ]
      refine ⟨⟨fun b hb h7 => by rw [e2, up_ne h7]; exact f1.1 b hb h7, fun i hi => ?_⟩, ?_, ?_, fun q => ?_⟩
      · simp only [List.mem_cons, List.not_mem_nil, or_false] at hi
        rw [e2, up_off (by omega)]
        exact f1.2 i (by simp only [List.mem_cons, List.not_mem_nil, or_false]; omega)
      · rw [e2, up_off (by decide), h3, hew]
      · rw [e2, up_at, hew]; exact hk
      · rw [hew] at q ⊢
        rw [e2, up_off (by decide)]; exact h6 q
    refine s_Tokens_readNumber_65 (fun _ => ?_)
    have hw : w32 (m1 3 3 - m1 3 5) = e - a := by rw [h3, h5]; exact w32_id (by unfold inR; omega)
    rw [hw]
    refine ⟨fun c => ?_, fun c => ⟨1, 1600, X1.1, rfl, by rw [h3]; rw [h3, h2] at c; omega, ?_⟩⟩
    · rw [h3, h2] at c
      refine ⟨fun c4 m2 e2 => leaf 1 m2 e2 (by rw [if_pos (Or.inl c4)]), fun c4 m2 e2 => leaf 3 m2 e2 ?_⟩
      rw [if_neg (fun q => by
        rcases q with q | q
        · exact c4 q
        · omega)]
    · have heN' : e < N := by rw [h3, h2] at c; omega
      have ht := X1.2.2.2.2.1 e (by omega) heN'
      have e1 : m1 1 (m1 3 3) = T e := by rw [h3]; exact ht.1
      rw [e1]
      refine ⟨d, _, by omega, c_isLetterX, fun z m2 hz _ _ => ?_⟩
      obtain ⟨hz, rfl⟩ := hz
      rw [hw]
      refine ⟨fun cz => ⟨fun c4 m2 e2 => leaf 1 m2 e2 (by rw [if_pos (Or.inl c4)]), fun c4 m2 e2 => leaf 3 m2 e2 ?_⟩, fun cz => ?_⟩
      · rw [if_neg (fun q => by
          rcases q with q | q
          · exact c4 q
          · exact hz.mp cz ⟨q.2.1, q.2.2⟩)]
      · have hil : isL (T e) := Classical.not_not.mp (fun q => cz (hz.mpr q))
        have hyes : 4 < e - a ∨ (e < N ∧ 97 ≤ T e ∧ T e ≤ 122) := Or.inr ⟨heN', hil.1, hil.2⟩
        exact ⟨fun c4 m2 e2 => leaf 1 m2 e2 (by rw [if_pos hyes]), fun c4 m2 e2 => leaf 1 m2 e2 (by rw [if_pos hyes])⟩
  have loop : ∀ (s : Nat) (i : Int) (m1 : MM), i + s = N → a ≤ i → Fro 3 [] [3, 6] m m1 → m1 3 3 = i → (i - a ≤ 4 → m1 3 6 = nuF T a (i - a).toNat) → (∀ t, a ≤ t → t < i → t < N ∧ isD (T t)) → Wq l G false Y_Tokens_readNumber (d + 1) (QV Q) 0 [(0, .inr (.inr 3))] [] m1 := by
    intro s
    induction s with
    | zero =>
      intro i m1 hi hai f1 h3 h6 hl
      have hf := fin m1 i f1 h3 h6 ⟨hai, hl, fun q => by have := q.1; omega⟩
      refine s_Tokens_readNumber_0 (fun _ => ?_)
      have h2 : m1 3 2 = N := by rw [f1.2 2 (by decide)]; exact hX.2.1
      exact ⟨fun _ => hf, fun c => absurd (show m1 3 3 ≥ m1 3 2 by rw [h3, h2]; omega) c⟩
    | succ s ih =>
      intro i m1 hi hai f1 h3 h6 hl
      have X1 := hX.fro f1 (by decide) (by decide)
      have h2 := X1.2.1
      have ht := X1.2.2.2.2.1 i (by omega) (by omega)
      refine s_Tokens_readNumber_0 (fun _ => ?_)
      have hf := fun hn => fin m1 i f1 h3 h6 ⟨hai, hl, hn⟩
      refine ⟨fun c => absurd c (by rw [h3, h2]; omega), fun _ => ⟨1, 1600, X1.1, rfl, by rw [h3]; omega, ?_⟩⟩
      have e1 : m1 1 (m1 3 3) = T i := by rw [h3]; exact ht.1
      rw [e1]
      refine ⟨d, _, by omega, c_isDigitX, fun z m2 hz _ _ => ?_⟩
      obtain ⟨hz, rfl⟩ := hz
      refine ⟨fun c => hf (fun q => hz.mp c q.2), fun c => ⟨1, 1600, X1.1, rfl, by rw [h3]; omega, fun m2 e2 m3 e3 => ?_⟩⟩
      have hil : isD (T i) := Classical.not_not.mp (fun q => c (hz.mpr q))
      have k3 : m2 3 3 = i := by rw [e2, up_off (by decide)]; exact h3
      rw [k3, w32_id (show inR (i + 1) by unfold inR; omega)] at e3
      refine ih (i + 1) m3 (by omega) (by omega) ⟨fun b hb h7 => by rw [e3, up_ne h7, e2, up_ne h7]; exact f1.1 b hb h7, fun j hj => ?_⟩ (by rw [e3, up_at]) (fun h8 => ?_) (fun t t0 t1 => ?_)
      · simp only [List.mem_cons, List.not_mem_nil, or_false] at hj
        rw [e3, up_off (by omega), e2, up_off (by omega)]
        exact f1.2 j (by simp only [List.mem_cons, List.not_mem_nil, or_false]; omega)
      · have hb := nuF_rng (T := T) (a := a) (i - a).toNat (fun t t0 t1 => (hl t t0 (by omega)).2)
        rw [e3, up_off (by decide), e2, up_at, h6 (by omega), e1, show (i + 1 - a).toNat = (i - a).toNat + 1 by omega]
        show w64 (w64 (nuF T a (i - a).toNat * 10) + w32 (T i - 48)) = (if (i - a).toNat < 4 then 10 * nuF T a (i - a).toNat + T (a + ((i - a).toNat : Nat)) - 48 else nuF T a (i - a).toNat)
        rw [if_pos (by omega), show a + (((i - a).toNat : Nat) : Int) = i by omega]
        unfold isD at hil
        obtain ⟨-, -, -, -, hb0, hb1⟩ := hb
        rw [w32_id (show inR (T i - 48) by unfold inR; omega), w64_id (show inL (nuF T a (i - a).toNat * 10) by unfold inL; omega), w64_id (show inL (nuF T a (i - a).toNat * 10 + (T i - 48)) by unfold inL; omega)]
        omega
      · by_cases e : t = i
        · rw [e]; exact ⟨by omega, hil⟩
        · exact hl t t0 (by omega)
  have st := loop (N - a).toNat a m (by omega) (Int.le_refl a) Fro.rf ha3 (fun _ => by rw [ha6, Int.sub_self]; rfl) (fun t t0 t1 => by omega)
  exact CV.of [(0, .inr (.inr 3))] k_Tokens_readNumber.1 (Nat.le_of_ble_eq_true rfl) rfl st
/-- the class is at the token behind p -/
def TpX (T : Int → Int) (N p : Int) (m : MM) : Prop := TxX T N m ∧ (0 ≤ p ∧ p ≤ N) ∧ m 3 3 = en T N p ∧ m 3 4 = kd T N p ∧ m 3 5 = plc T N p ∧ (kd T N p = 2 → m 3 6 = cvN 8 (vl T N p)) ∧ (kd T N p = 3 → m 3 6 = vl T N p)
theorem c_nextX (hG : GVok G) {p : Int} (hX : TxX T N m) (hp : m 3 3 = p ∧ 0 ≤ p ∧ p ≤ N) : CV l G Y_Tokens_next (d + 4) [.inr (.inr 3)] m (fun m' => Fro 3 [] [3, 4, 5, 6] m m' ∧ TpX T N p m') := by
  generalize hQ : (fun (m' : MM) => Fro 3 [] [3, 4, 5, 6] m m' ∧ TpX T N p m') = Q
  obtain ⟨hp3, hp0, hpN⟩ := hp
  have hN := hX.2.2.2.1
  -- the token itself
  have fin : ∀ (m1 : MM) (a : Int), Fro 3 [] [3] m m1 → m1 3 3 = a → Run (fun t => t < N ∧ (T t = 32 ∨ T t = 10)) p a → Wq l G false Y_Tokens_next (d + 4) (QV Q) 52 [(0, .inr (.inr 3))] [] m1 := by
    intro m1 a f1 h3 hR
    have hpl : plc T N p = a := hR.eq
    have hpa := hR.1
    have haN : a ≤ N := by
      rcases Int.lt_or_le N a with q | q
      · have := (hR.2.1 N (by omega) q).1; omega
      · exact q
    refine s_Tokens_next_52 (fun _ m2 e2 m3 e3 => ?_)
    have f3 : Fro 3 [] [3, 5, 6] m m3 := ⟨fun b hb h7 => by rw [e3, up_ne h7, e2, up_ne h7]; exact f1.1 b hb h7, fun i hi => by
      simp only [List.mem_cons, List.not_mem_nil, or_false] at hi
      rw [e3, up_off (by omega), e2, up_off (by omega)]
      exact f1.2 i (by simp only [List.mem_cons, List.not_mem_nil, or_false]; omega)⟩
    have X3 := hX.fro f3 (by decide) (by decide)
    have k3 : m3 3 3 = a := by rw [e3, up_off (by decide), e2, up_off (by decide)]; exact h3
    have k5 : m3 3 5 = a := by rw [e3, up_off (by decide), e2, up_at]; exact h3
    have k6 : m3 3 6 = 0 := by rw [e3, up_at]
    have k2 := X3.2.1
    rw [k3, k2]
    refine ⟨fun c => ?_, fun c m4 e4 => ?_⟩
    · have ht := X3.2.2.2.2.1 a (by omega) c
      have e1 : m3 1 a = T a := ht.1
      refine ⟨1, 1600, X3.1, rfl, by omega, ?_⟩
      rw [e1]
      refine ⟨d, _, by omega, c_isLetterX, fun z m4 hz _ _ => ?_⟩
      obtain ⟨hz, rfl⟩ := hz
      have nN : ¬ N ≤ a := by omega
      refine ⟨fun cz => ⟨1, 1600, X3.1, rfl, by rw [k3]; omega, ?_⟩, fun cz => ?_⟩
      · have nl : ¬ (97 ≤ T a ∧ T a ≤ 122) := hz.mp cz
        rw [k3, e1]
        refine ⟨d, _, by omega, c_isDigitX, fun z2 m4 hz2 _ _ => ?_⟩
        obtain ⟨hz2, rfl⟩ := hz2
        refine ⟨fun cz2 => ⟨1, 1600, X3.1, rfl, by rw [k3]; omega, ?_⟩, fun cz2 => ?_⟩
        · have nd : ¬ (48 ≤ T a ∧ T a ≤ 57) := hz2.mp cz2
          have ec : bI2c (T a) = T a := by
            obtain ⟨x, hx⟩ : ∃ x : Nat, T a = (x : Int) := ⟨(T a).toNat, by omega⟩
            have hx2 : x < 256 := by omega
            rw [hx]
            have tab : ∀ y : Fin 256, bI2c ((y.val : Nat) : Int) = (y.val : Int) := by decide +kernel
            exact tab ⟨x, hx2⟩
          rw [k3, e1, ec]
          refine ⟨d + 3, _, by omega, c_indexOf hG, fun z3 m4 hz3 _ _ => ?_⟩
          obtain ⟨hz3, rfl⟩ := hz3
          have leaf : ∀ (k : Int) (m5 m6 : MM), m5 = up m3 3 4 k → m6 = up m5 3 3 (m5 3 3 + 1) → k = (if T a ∈ SGN then T a else 1) → Q m6 := by
            intro k m5 m6 e5 e6 hk
            have j3 : m5 3 3 = a := by rw [e5, up_off (by decide)]; exact k3
            have ek : kd T N p = k := by
              unfold kd kdF
              rw [hpl, if_neg nN, if_neg nl, if_neg nd, hk]
            have kne : k ≠ 2 ∧ k ≠ 3 := by
              rw [hk]
              by_cases q : T a ∈ SGN
              · rw [if_pos q]; have := sgn_rng q; omega
              · rw [if_neg q]; decide
            have f6 : Fro 3 [] [3, 4, 5, 6] m m6 := ⟨fun b hb h7 => by rw [e6, up_ne h7, e5, up_ne h7]; exact f3.1 b hb h7, fun i hi => by
              simp only [List.mem_cons, List.not_mem_nil, or_false] at hi
              rw [e6, up_off (by omega), e5, up_off (by omega)]
              exact f3.2 i (by simp only [List.mem_cons, List.not_mem_nil, or_false]; omega)⟩
            rw [← hQ]
            refine ⟨f6, hX.fro f6 (by decide) (by decide), ⟨hp0, hpN⟩, ?_, ?_, ?_, fun q => absurd (ek.symm.trans q) kne.1, fun q => absurd (ek.symm.trans q) kne.2⟩
            · rw [e6, up_at, j3]
              unfold en enF
              rw [hpl, if_neg nN, if_neg nl, if_neg nd]
            · rw [e6, up_off (by decide), e5, up_at, ek]
            · rw [e6, up_off (by decide), e5, up_off (by decide), k5, hpl]
          refine ⟨fun c3 m5 e5 => ⟨by rw [e5, up_off (by decide), k3]; unfold inR; omega, fun m6 e6 => leaf 1 m5 m6 e5 e6 (by rw [if_neg (hz3.mp c3)])⟩, fun c3 => ⟨1, 1600, X3.1, rfl, by rw [k3]; omega, fun m5 e5 => ⟨by rw [e5, up_off (by decide), k3]; unfold inR; omega, fun m6 e6 => leaf (T a) m5 m6 (by rw [e5, k3, e1]) e6 ?_⟩⟩⟩
          rw [if_pos (Classical.not_not.mp (fun q => c3 (hz3.mpr q)))]
        · have hd : 48 ≤ T a ∧ T a ≤ 57 := Classical.not_not.mp (fun q => cz2 (hz2.mpr q))
          refine ⟨d + 1, _, by omega, c_readNumberX X3 ⟨k3, k5, k6⟩ ⟨by omega, c⟩, fun m4 h4 _ => ?_⟩
          obtain ⟨f4, g3, g4, g6⟩ := h4
          have f6 : Fro 3 [] [3, 4, 5, 6] m m4 := (f3.mono (by simp) (by simp)).tr (f4.mono (by simp) (by simp))
          have ek : kd T N p = (if 4 < enD T N a - a ∨ (enD T N a < N ∧ 97 ≤ T (enD T N a) ∧ T (enD T N a) ≤ 122) then 1 else 3) := by
            unfold kd kdF
            rw [hpl, if_neg nN, if_neg nl, if_pos hd]
          rw [← hQ]
          refine ⟨f6, hX.fro f6 (by decide) (by decide), ⟨hp0, hpN⟩, ?_, ?_, ?_, fun q => ?_, fun q => ?_⟩
          · rw [g3]; unfold en enF
            rw [hpl, if_neg nN, if_neg nl, if_pos hd]
          · rw [g4, ek]
          · rw [f4.2 5 (by decide), k5, hpl]
          · rw [ek] at q
            split at q <;> omega
          · have h4' : enD T N a - a ≤ 4 := by
              rw [ek] at q
              rcases Int.lt_or_le 4 (enD T N a - a) with g | g
              · rw [if_pos (Or.inl g)] at q; omega
              · exact g
            rw [g6 h4']
            unfold vl vlF
            rw [hpl, if_neg nl]
      · have hl : 97 ≤ T a ∧ T a ≤ 122 := Classical.not_not.mp (fun q => cz (hz.mpr q))
        refine ⟨d + 1, _, by omega, c_readWordX X3 ⟨k3, k5, k6⟩ ⟨by omega, c⟩, fun m4 h4 _ => ?_⟩
        obtain ⟨f4, g3, g4, g6⟩ := h4
        have f6 : Fro 3 [] [3, 4, 5, 6] m m4 := (f3.mono (by simp) (by simp)).tr (f4.mono (by simp) (by simp))
        have ek : kd T N p = (if 8 < enW T N a - a then 1 else kwF (nmF T a (enW T N a - a).toNat)) := by
          unfold kd kdF
          rw [hpl, if_neg nN, if_pos hl]
        rw [← hQ]
        refine ⟨f6, hX.fro f6 (by decide) (by decide), ⟨hp0, hpN⟩, ?_, ?_, ?_, fun q => ?_, fun q => ?_⟩
        · rw [g3]; unfold en enF
          rw [hpl, if_neg nN, if_pos hl]
        · rw [g4, ek]
        · rw [f4.2 5 (by decide), k5, hpl]
        · have h8 : enW T N a - a ≤ 8 := by
            rw [ek] at q
            rcases Int.lt_or_le 8 (enW T N a - a) with g | g
            · rw [if_pos g] at q; omega
            · exact g
          rw [g6 h8]
          unfold vl vlF
          rw [hpl, if_pos hl]
        · exfalso
          rw [ek] at q
          by_cases g : 8 < enW T N a - a
          · rw [if_pos g] at q; omega
          · rw [if_neg g] at q
            rcases Classical.em (nmF T a (enW T N a - a).toNat ∈ KW) with k | k
            · have := kwF_in.1 k; omega
            · have := kwF_in.2 k; omega
    · -- the end of the text
      have eN : N ≤ a := by omega
      have ek : kd T N p = 0 := by
        unfold kd kdF
        rw [hpl, if_pos eN]
      have f6 : Fro 3 [] [3, 4, 5, 6] m m4 := ⟨fun b hb h7 => by rw [e4, up_ne h7]; exact f3.1 b hb h7, fun i hi => by
        simp only [List.mem_cons, List.not_mem_nil, or_false] at hi
        rw [e4, up_off (by omega)]
        exact f3.2 i (by simp only [List.mem_cons, List.not_mem_nil, or_false]; omega)⟩
      rw [← hQ]
      refine ⟨f6, hX.fro f6 (by decide) (by decide), ⟨hp0, hpN⟩, ?_, ?_, ?_, fun q => by omega, fun q => by omega⟩
      · rw [e4, up_off (by decide), k3]
        unfold en enF
        rw [hpl, if_pos eN]; omega
      · rw [e4, up_at, ek]
      · rw [e4, up_off (by decide), k5, hpl]
  have loop : ∀ (s : Nat) (i : Int) (m1 : MM), i + s = N → p ≤ i → Fro 3 [] [3] m m1 → m1 3 3 = i → (∀ t, p ≤ t → t < i → t < N ∧ (T t = 32 ∨ T t = 10)) → Wq l G false Y_Tokens_next (d + 4) (QV Q) 0 [(0, .inr (.inr 3))] [] m1 := by
    intro s
    induction s with
    | zero =>
      intro i m1 hi hpi f1 h3 hl
      have hf := fin m1 i f1 h3 ⟨hpi, hl, fun q => by have := q.1; omega⟩
      have h2 : m1 3 2 = N := by rw [f1.2 2 (by decide)]; exact hX.2.1
      refine s_Tokens_next_0 (fun _ => ⟨fun _ => hf, fun c => absurd (show m1 3 3 ≥ m1 3 2 by rw [h3, h2]; omega) c⟩)
    | succ s ih =>
      intro i m1 hi hpi f1 h3 hl
      have X1 := hX.fro f1 (by decide) (by decide)
      have h2 := X1.2.1
      have e1 : m1 1 i = T i := (X1.2.2.2.2.1 i (by omega) (by omega)).1
      have hf := fun hn => fin m1 i f1 h3 ⟨hpi, hl, hn⟩
      have nx : (T i = 32 ∨ T i = 10) → ∀ m2, m2 = up m1 3 3 (i + 1) → Wq l G false Y_Tokens_next (d + 4) (QV Q) 0 [(0, .inr (.inr 3))] [] m2 := fun hb m2 e2 => ih (i + 1) m2 (by omega) (by omega) ⟨fun b hb h7 => by rw [e2, up_ne h7]; exact f1.1 b hb h7, fun j hj => by
        simp only [List.mem_cons, List.not_mem_nil, or_false] at hj
        rw [e2, up_off hj]
        exact f1.2 j (by simp only [List.mem_cons, List.not_mem_nil, or_false]; exact hj)⟩ (by rw [e2, up_at]) (fun t t0 t1 => by
        by_cases e : t = i
        · rw [e]; exact ⟨by omega, hb⟩
        · exact hl t t0 (by omega))
      refine s_Tokens_next_0 (fun _ => ?_)
      rw [h3, h2]
      refine ⟨fun c => absurd c (by omega), fun _ => ⟨1, 1600, X1.1, rfl, by omega, ?_⟩⟩
      rw [e1]
      refine ⟨fun c => ⟨by unfold inR; omega, fun m2 e2 => nx (Or.inl c) m2 e2⟩, fun c => ⟨1, 1600, X1.1, rfl, by omega, ?_⟩⟩
      rw [e1]
      exact ⟨fun c2 => hf (fun q => by
        rcases q.2 with g | g
        · exact c g
        · exact c2 g), fun c2 => ⟨by unfold inR; omega, fun m2 e2 => nx (Or.inr (Classical.not_not.mp c2)) m2 e2⟩⟩
  have st := loop (N - p).toNat p m (by omega) (Int.le_refl p) Fro.rf hp3 (fun t t0 t1 => by omega)
  exact CV.of [(0, .inr (.inr 3))] k_Tokens_next.1 (Nat.le_of_ble_eq_true rfl) rfl st
/-- from a token to the next -/
theorem c_nextX2 (hG : GVok G) {p : Int} (h : TpX T N p m) : CV l G Y_Tokens_next (d + 4) [.inr (.inr 3)] m (fun m' => Fro 3 [] [3, 4, 5, 6] m m' ∧ TpX T N (en T N p) m') := by
  have hr := tk_rng (T := T) h.2.1
  have h0 := h.2.1.1
  exact c_nextX hG h.1 ⟨h.2.2.1, by omega, hr.2.2.1⟩
end TokX
