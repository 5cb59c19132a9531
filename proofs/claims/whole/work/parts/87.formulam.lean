section FormM
variable {l : Launch} {G : GT} {d : Nat} {m : MM} {n : Nat} {D : Int → Int} {W : Int → Int → Int} {br : Int → Int}
theorem c_isLetterM {x : Int} : CI l G Y_M_isLetter d [.inl x] m (fun z m' => z = (if 97 ≤ x ∧ x ≤ 122 then 1 else 0) ∧ m = m') := by
  refine e_M_isLetter x (fun _ _ => ⟨fun c => ⟨?_, rfl⟩, fun c => ⟨fun c2 => ⟨?_, rfl⟩, fun c2 => ⟨?_, rfl⟩⟩⟩)
  · rw [if_neg (by omega)]
  · rw [if_neg (by omega)]
  · rw [if_pos (by omega)]
theorem cOf_letter {s : Int} (hs : 0 ≤ s ∧ s ≤ 10003) : (97 ≤ cOf s ∧ cOf s ≤ 122) ∧ cOf s ≠ 126 := by
  unfold cOf
  by_cases h : s < 10000
  · rw [if_pos h]; decide
  · rw [if_neg h]
    have : s = 10000 ∨ s = 10001 ∨ s = 10002 ∨ s = 10003 := by omega
    rcases this with rfl | rfl | rfl | rfl <;> decide
theorem cOf_join {s : Int} (hs : 10011 ≤ s ∧ s ≤ 10020) : ¬ (97 ≤ cOf s ∧ cOf s ≤ 122) ∧ cOf s ≠ 126 := by
  have h10 : s = 10011 ∨ s = 10012 ∨ s = 10013 ∨ s = 10014 ∨ s = 10015 ∨ s = 10016 ∨ s = 10017 ∨ s = 10018 ∨ s = 10019 ∨ s = 10020 := by omega
  rcases h10 with rfl | rfl | rfl | rfl | rfl | rfl | rfl | rfl | rfl | rfl <;> decide
theorem c_asked (hn : n ≤ 5) (X : BM n D W br m) (hu : In n (m 70 34)) {s x : Int} (hs : 0 ≤ s ∧ s ≤ 10003) (hx : s < 10000 → x = s) : CI l G Y_M_asked (d + 1) [.inr (.inr 70), .inl (cOf s), .inl x] m (fun z m' => z = fN s (m 90 (m 70 34)) (br (m 70 34)) (m 70 34) (m 90 6) ∧ m = m') := by
  by_cases h : s < 10000
  · have e : cOf s = 110 := by unfold cOf; rw [if_pos h]
    rw [e]
    refine e_M_asked _ _ (fun _ _ _ => ⟨fun c => absurd c (by decide), fun c => absurd c (by decide), fun c => absurd c (by decide), fun c => absurd c (by decide), fun _ _ _ _ => ⟨?_, rfl⟩⟩)
    unfold fN
    rw [if_pos h]
    exact hx h
  · have h4 : s = 10000 ∨ s = 10001 ∨ s = 10002 ∨ s = 10003 := by omega
    rcases h4 with rfl | rfl | rfl | rfl
    · refine e_M_asked _ _ (fun _ _ _ => ⟨fun c => absurd c (by decide), fun c => absurd c (by decide), fun _ => ?_, fun c => absurd c (by decide), fun _ _ c _ => absurd (by decide) c⟩)
      rw [Int.zero_add]
      exact ⟨by omega, by omega, rfl, rfl⟩
    · exact e_M_asked _ _ (fun _ _ _ => ⟨fun _ => ⟨d, _, Nat.lt_succ_self d, c_brimOf hn X hu, fun z m1 hz _ _ => hz⟩, fun c => absurd c (by decide), fun c => absurd c (by decide), fun c => absurd c (by decide), fun c _ _ _ => absurd (by decide) c⟩)
    · exact e_M_asked _ _ (fun _ _ _ => ⟨fun c => absurd c (by decide), fun c => absurd c (by decide), fun c => absurd c (by decide), fun _ => ⟨rfl, rfl⟩, fun _ _ _ c => absurd (by decide) c⟩)
    · exact e_M_asked _ _ (fun _ _ _ => ⟨fun c => absurd c (by decide), fun _ => ⟨rfl, rfl⟩, fun c => absurd c (by decide), fun c => absurd c (by decide), fun _ c _ _ => absurd (by decide) c⟩)
/-- what joins two, by the reference's sign -/
def tw (c a b : Int) : Int :=
  if c = 37 then (if b = 0 then 0 else Int.tmod a b) else if c = 38 then (if a = 0 then 0 else if b = 0 then 0 else 1) else if c = 42 then w32 (a * b) else if c = 43 then w32 (a + b) else if c = 45 then w32 (a - b) else if c = 47 then (if b = 0 then 0 else w32 (Int.tdiv a b)) else if c = 60 then (if a ≥ b then 0 else 1) else if c = 61 then (if a = b then 1 else 0) else if c = 62 then (if a ≤ b then 0 else 1) else (if a = 0 then (if b = 0 then 0 else 1) else 1)
theorem c_two {c a b : Int} : CI l G Y_M_two d [.inl c, .inl a, .inl b] m (fun z m' => z = tw c a b ∧ m = m') := by
  refine e_M_two c a b (fun _ _ _ _ => ⟨fun h => ?_, fun h => ?_, fun h => ?_, fun h => ?_, fun h => ?_, fun h => ?_, fun h => ?_, fun h => ?_, fun h => ?_, fun c1 c2 c3 c4 c5 c6 c7 c8 c9 => ?_⟩)
  · subst h
    refine ⟨fun h => ⟨h, ?_, rfl⟩, fun h => ⟨?_, rfl⟩⟩
    · show Int.tmod a b = (if b = 0 then 0 else Int.tmod a b)
      rw [if_neg h]
    · show (0 : Int) = (if b = 0 then 0 else Int.tmod a b)
      rw [if_pos (Classical.not_not.mp h)]
  · subst h
    refine ⟨fun h => ⟨?_, rfl⟩, fun h => ⟨fun h2 => ⟨?_, rfl⟩, fun h2 => ⟨?_, rfl⟩⟩⟩
    · show (0 : Int) = (if a = 0 then (0 : Int) else if b = 0 then 0 else 1)
      rw [if_pos h]
    · show (0 : Int) = (if a = 0 then (0 : Int) else if b = 0 then 0 else 1)
      rw [if_neg h, if_pos h2]
    · show (1 : Int) = (if a = 0 then (0 : Int) else if b = 0 then 0 else 1)
      rw [if_neg h, if_neg h2]
  · subst h; exact ⟨rfl, rfl⟩
  · subst h; exact ⟨rfl, rfl⟩
  · subst h; exact ⟨rfl, rfl⟩
  · subst h
    refine ⟨fun h => ⟨h, ?_, rfl⟩, fun h => ⟨?_, rfl⟩⟩
    · show w32 (Int.tdiv a b) = (if b = 0 then 0 else w32 (Int.tdiv a b))
      rw [if_neg h]
    · show (0 : Int) = (if b = 0 then 0 else w32 (Int.tdiv a b))
      rw [if_pos (Classical.not_not.mp h)]
  · subst h
    refine ⟨fun h => ⟨?_, rfl⟩, fun h => ⟨?_, rfl⟩⟩
    · show (0 : Int) = (if a ≥ b then 0 else 1)
      rw [if_pos h]
    · show (1 : Int) = (if a ≥ b then 0 else 1)
      rw [if_neg h]
  · subst h
    refine ⟨fun h => ⟨?_, rfl⟩, fun h => ⟨?_, rfl⟩⟩
    · show (0 : Int) = (if a = b then 1 else 0)
      rw [if_neg h]
    · show (1 : Int) = (if a = b then 1 else 0)
      rw [if_pos (Classical.not_not.mp h)]
  · subst h
    refine ⟨fun h => ⟨?_, rfl⟩, fun h => ⟨?_, rfl⟩⟩
    · show (0 : Int) = (if a ≤ b then 0 else 1)
      rw [if_pos h]
    · show (1 : Int) = (if a ≤ b then 0 else 1)
      rw [if_neg h]
  · have e : tw c a b = (if a = 0 then (if b = 0 then 0 else 1) else 1) := by
      unfold tw
      rw [if_neg c1, if_neg c2, if_neg c3, if_neg c4, if_neg c5, if_neg c6, if_neg c7, if_neg c8, if_neg c9]
    rw [e]
    refine ⟨fun h => ⟨?_, rfl⟩, fun h => ⟨fun h2 => ⟨?_, rfl⟩, fun h2 => ⟨?_, rfl⟩⟩⟩
    · rw [if_neg h]
    · rw [if_pos (Classical.not_not.mp h), if_pos h2]
    · rw [if_pos (Classical.not_not.mp h), if_neg h2]
theorem tw_fJ {s a b : Int} (hs : 10011 ≤ s ∧ s ≤ 10020) : tw (cOf s) a b = fJ s a b := by
  have h10 : s = 10011 ∨ s = 10012 ∨ s = 10013 ∨ s = 10014 ∨ s = 10015 ∨ s = 10016 ∨ s = 10017 ∨ s = 10018 ∨ s = 10019 ∨ s = 10020 := by omega
  rcases h10 with rfl | rfl | rfl | rfl | rfl | rfl | rfl | rfl | rfl | rfl <;> rfl
theorem c_comes (hn : n ≤ 5) (X : BM n D W br m) (hu : In n (m 70 34)) {fs : List Int} (F : MF fs m) (hf : fW fs 0 1) : CI l G Y_M_comes (d + 2) [.inr (.inr 70)] m (fun z m' => Fr [89] m m' ∧ z = fV fs (m 90 (m 70 34)) (br (m 70 34)) (m 70 34) (m 90 6)) := by
  obtain ⟨F0, F1, F2, F4, F3⟩ := F
  refine e_M_comes (fun _ => ⟨by omega, ?_⟩)
  generalize hA : m 90 (m 70 34) = gg
  generalize hB : br (m 70 34) = bb
  generalize hC : m 90 6 = tt
  have go : ∀ (r pre : List Int) (k : Int) (m1 : MM), fs = pre ++ r → 0 ≤ k → k ≤ 40 → fW r k 1 → Fr [89] m m1 → fE gg bb (m 70 34) tt r k (m1 89) 0 = fV fs gg bb (m 70 34) tt →
      Wq l G false Y_M_comes (d + 2) (QI fun z m' => Fr [89] m m' ∧ z = fV fs gg bb (m 70 34) tt) 12 [(0, .inr (.inr 70)), (1, .inl k), (2, .inl (m 82 (m 70 28) + (pre.length : Int)))] [] m1 := by
    intro r
    induction r with
    | nil =>
      intro pre k m1 hfs k0 k40 hw f he
      have hl : fs.length = pre.length := by rw [hfs, List.append_nil]
      have e70 : m1 70 = m 70 := f 70 (by decide)
      have e83 : m1 83 = m 83 := f 83 (by decide)
      refine s_M_comes_12 _ _ (fun _ _ _ => ⟨by rw [e70]; omega, fun _ => ⟨f, he⟩, fun c => absurd ?_ c⟩)
      rw [e70, e83, F2, hl]
      exact Int.le_refl _
    | cons s r ih =>
      intro pre k m1 hfs k0 k40 hw f he
      have hl : fs.length = pre.length + (r.length + 1) := by rw [hfs, List.length_append]; rfl
      have e70 : m1 70 = m 70 := f 70 (by decide)
      have e83 : m1 83 = m 83 := f 83 (by decide)
      have e86 : m1 86 = m 86 := f 86 (by decide)
      have e90 : m1 90 = m 90 := f 90 (by decide)
      have hat := F3 pre.length s (by rw [hfs]; exact fs_at)
      have es : m1 85 (m 82 (m 70 28) + (pre.length : Int)) = cOf s := by
        rw [f 85 (by decide)]
        exact hat.1
      have X1 : BM n D W br m1 := X.fro (S := [89]) (I := []) ⟨fun b hb _ => f b hb, fun i _ => by rw [e70]⟩ (by decide) (by decide) (by decide) (by decide) (by decide)
      have hn1 : m 82 (m 70 28) + ((pre ++ [s]).length : Int) = m 82 (m 70 28) + (pre.length : Int) + 1 := by rw [List.length_append, Int.add_assoc]; rfl
      have hfs2 : fs = (pre ++ [s]) ++ r := by rw [hfs]; exact fs_next
      refine s_M_comes_12 _ _ (fun _ _ _ => ⟨by rw [e70]; omega, fun c => absurd c (by rw [e70, e83]; omega), fun _ => ⟨by omega, ?_⟩⟩)
      rw [es]
      unfold fE at he
      rcases fW_rng hw with ⟨s0, s3, k4, hw2⟩ | ⟨s1, k1, hw2⟩ | ⟨s1, s2, k2, hw2⟩
      · rw [if_pos (show s < 10010 by omega)] at he
        have hlt := cOf_letter ⟨s0, s3⟩
        refine ⟨fun _ => ⟨d, _, by omega, c_isLetterM, fun z m2 hz _ _ => ?_⟩, fun c => absurd hlt.2 c⟩
        obtain ⟨rfl, rfl⟩ := hz
        rw [if_pos hlt.1]
        refine ⟨fun c => absurd c (by decide), fun _ => ⟨by omega, d + 1, _, by omega, c_asked hn X1 (by rw [e70]; exact hu) ⟨s0, s3⟩ (fun q => by rw [e86]; exact hat.2 q), fun z m2 hz _ _ => ?_⟩⟩
        obtain ⟨rfl, rfl⟩ := hz
        refine ⟨by omega, ?_⟩
        rw [e70, e90, hA, hB, hC]
        rintro m2 rfl
        refine ⟨by omega, by omega, ?_⟩
        rw [← hn1]
        refine ih (pre ++ [s]) (k + 1) _ hfs2 (by omega) (by omega) hw2 (Fr_up f (by simp)) ?_
        have er : up m1 89 k (fN s gg bb (m 70 34) tt) 89 = ud (m1 89) k (fN s gg bb (m 70 34) tt) := by
          funext j
          rw [up_row]; rfl
        rw [er]
        exact he
      · subst s1
        rw [if_neg (by decide), if_pos rfl] at he
        refine ⟨fun c => absurd (by decide) c, fun _ => ⟨by omega, by omega, by omega, ?_⟩⟩
        have fin : ∀ v : Int, v = (if m1 89 (k - 1) = 0 then 1 else 0) → ∀ m2 : MM, m2 = up m1 89 (k - 1) v → (inR (m 82 (m 70 28) + (pre.length : Int) + 1)) ∧ (Wq l G false Y_M_comes (d + 2) (QI fun z m' => Fr [89] m m' ∧ z = fV fs gg bb (m 70 34) tt) 12 [(0, .inr (.inr 70)), (1, .inl k), (2, .inl (m 82 (m 70 28) + (pre.length : Int) + 1))] [] m2) := by
          rintro v hv m2 rfl
          refine ⟨by omega, ?_⟩
          rw [← hn1]
          refine ih (pre ++ [10010]) k _ hfs2 k0 k40 hw2 (Fr_up f (by simp)) ?_
          have er : up m1 89 (k - 1) v 89 = ud (m1 89) (k - 1) (if m1 89 (k - 1) = 0 then 1 else 0) := by
            funext j
            rw [up_row, hv]; rfl
          rw [er]
          exact he
        exact ⟨fun c => ⟨by omega, fin 0 (by rw [if_neg c])⟩, fun c => ⟨by omega, fin 1 (by rw [if_pos (Classical.not_not.mp c)])⟩⟩
      · rw [if_neg (show ¬ s < 10010 by omega), if_neg (show ¬ s = 10010 by omega)] at he
        have hlt := cOf_join ⟨s1, s2⟩
        rw [show k + (-1) - 1 = k - 2 by omega, show k + (-1) = k - 1 by omega]
        refine ⟨fun _ => ⟨d, _, by omega, c_isLetterM, fun z m2 hz _ _ => ?_⟩, fun c => absurd hlt.2 c⟩
        obtain ⟨rfl, rfl⟩ := hz
        rw [if_neg hlt.1]
        refine ⟨fun _ => ⟨by omega, by omega, by omega, by omega, by omega, d, _, by omega, c_two, fun z m2 hz _ _ => ?_⟩, fun c => absurd rfl c⟩
        obtain ⟨rfl, rfl⟩ := hz
        rw [tw_fJ ⟨s1, s2⟩]
        refine ⟨by omega, ?_⟩
        rintro m2 rfl
        refine ⟨by omega, ?_⟩
        rw [← hn1]
        refine ih (pre ++ [s]) (k - 1) _ hfs2 (by omega) (by omega) hw2 (Fr_up f (by simp)) ?_
        have er : up m1 89 (k - 2) (fJ s (m1 89 (k - 2)) (m1 89 (k - 1))) 89 = ud (m1 89) (k - 2) (fJ s (m1 89 (k - 2)) (m1 89 (k - 1))) := by
          funext j
          rw [up_row]; rfl
        rw [er]
        exact he
  have := go fs [] 0 m rfl (by omega) (by omega) hf Fr.rf (fE_agree fs 0 1 _ _ (Int.le_refl _) hf (fun j j0 j1 => by omega) 0 (by decide) (by decide))
  rw [show m 82 (m 70 28) + (([] : List Int).length : Int) = m 82 (m 70 28) from Int.add_zero _] at this
  exact this
end FormM
