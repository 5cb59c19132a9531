/-! formulas of both: signs as the class writes them -/
def fJ (s a b : Int) : Int :=
  if s = 10011 then (if a = 0 then 0 else if b = 0 then 0 else 1) else if s = 10012 then (if a = 0 then (if b = 0 then 0 else 1) else 1)
  else if s = 10013 then (if a ≥ b then 0 else 1) else if s = 10014 then (if a ≤ b then 0 else 1) else if s = 10015 then (if a = b then 1 else 0)
  else if s = 10016 then w32 (a + b) else if s = 10017 then w32 (a - b) else if s = 10018 then w32 (a * b)
  else if s = 10019 then (if b = 0 then 0 else w32 (Int.tdiv a b)) else (if b = 0 then 0 else Int.tmod a b)
def fN (s g b u t : Int) : Int := if s < 10000 then s else if s = 10000 then g else if s = 10001 then b else if s = 10002 then u else t
def ud (σ : Int → Int) (k v : Int) : Int → Int := fun j => if j = k then v else σ j
/-- what lies on the pile behind these signs -/
def fE (g b u t : Int) : List Int → Int → (Int → Int) → Int → Int
  | [], _, σ => σ
  | s :: r, k, σ => if s < 10010 then fE g b u t r (k + 1) (ud σ k (fN s g b u t)) else if s = 10010 then fE g b u t r k (ud σ (k - 1) (if σ (k - 1) = 0 then 1 else 0)) else fE g b u t r (k - 1) (ud σ (k - 2) (fJ s (σ (k - 2)) (σ (k - 1))))
/-- signs that join what is there, from so many to so many -/
def fW : List Int → Int → Int → Prop
  | [], k, e => k = e
  | s :: r, k, e => if s < 10010 then (0 ≤ s ∧ s ≤ 10003) ∧ k < 40 ∧ fW r (k + 1) e else if s = 10010 then 1 ≤ k ∧ fW r k e else s ≤ 10020 ∧ 2 ≤ k ∧ fW r (k - 1) e
def fV (fs : List Int) (g b u t : Int) : Int := fE g b u t fs 0 (fun _ => 0) 0
def fOk (fs : List Int) : Prop := fs = [] ∨ fW fs 0 1
theorem fE_agree {g b u t : Int} : ∀ (fs : List Int) (k e : Int) (σ τ : Int → Int), 0 ≤ k → fW fs k e → (∀ j, 0 ≤ j → j < k → σ j = τ j) → ∀ j, 0 ≤ j → j < e → fE g b u t fs k σ j = fE g b u t fs k τ j
  | [], k, e, σ, τ, hk, hw, h, j, j0, j1 => h j j0 (by have : k = e := hw; omega)
  | s :: r, k, e, σ, τ, hk, hw, h, j, j0, j1 => by
    unfold fW at hw
    unfold fE
    by_cases c : s < 10010
    · rw [if_pos c] at hw
      rw [if_pos c, if_pos c]
      refine fE_agree r (k + 1) e _ _ (by omega) hw.2.2 (fun i i0 i1 => ?_) j j0 j1
      unfold ud
      by_cases q : i = k
      · rw [if_pos q, if_pos q]
      · rw [if_neg q, if_neg q]; exact h i i0 (by omega)
    · rw [if_neg c] at hw
      rw [if_neg c, if_neg c]
      by_cases c2 : s = 10010
      · rw [if_pos c2] at hw
        rw [if_pos c2, if_pos c2]
        refine fE_agree r k e _ _ hk hw.2 (fun i i0 i1 => ?_) j j0 j1
        unfold ud
        rw [h (k - 1) (by omega) (by omega)]
        by_cases q : i = k - 1
        · rw [if_pos q, if_pos q]
        · rw [if_neg q, if_neg q]; exact h i i0 i1
      · rw [if_neg c2] at hw
        rw [if_neg c2, if_neg c2]
        refine fE_agree r (k - 1) e _ _ (by omega) hw.2.2 (fun i i0 i1 => ?_) j j0 j1
        unfold ud
        rw [h (k - 2) (by omega) (by omega), h (k - 1) (by omega) (by omega)]
        by_cases q : i = k - 2
        · rw [if_pos q, if_pos q]
        · rw [if_neg q, if_neg q]; exact h i i0 (by omega)
/-- the class's formula -/
def CF (fs : List Int) (a : Nat) (m : MM) : Prop := m a 2 = fs.length ∧ fs.length ≤ 300 ∧ ∀ (j : Nat) (s : Int), fs[j]? = some s → m (a + 1) j = s
/-- how the reference writes a sign -/
def cOf (s : Int) : Int :=
  if s < 10000 then 110 else if s = 10000 then 103 else if s = 10001 then 98 else if s = 10002 then 117 else if s = 10003 then 100 else if s = 10010 then 126 else if s = 10011 then 38 else if s = 10012 then 124 else if s = 10013 then 60 else if s = 10014 then 62 else if s = 10015 then 61 else if s = 10016 then 43 else if s = 10017 then 45 else if s = 10018 then 42 else if s = 10019 then 47 else 37
/-- the reference's formula -/
def MF (fs : List Int) (m : MM) : Prop := (0 ≤ m 70 28 ∧ m 70 28 ≤ 1) ∧ 0 ≤ m 82 (m 70 28) ∧ m 83 (m 70 28) = m 82 (m 70 28) + fs.length ∧ m 83 (m 70 28) ≤ 1120 ∧ ∀ (j : Nat) (s : Int), fs[j]? = some s → m 85 (m 82 (m 70 28) + j) = cOf s ∧ (s < 10000 → m 86 (m 82 (m 70 28) + j) = s)
section Form
variable {l : Launch} {G : GT} {d : Nat} {m : MM}
theorem isF_far {a : Nat} (ha : isF a) : a + 1 ≠ a + 2 ∧ a ≠ a + 2 := by omega
theorem c_named {s g b u t : Int} (hs : 10000 ≤ s ∧ s ≤ 10003) : CI l G Y_Formula_named d [.inl s, .inl g, .inl b, .inl u, .inl t] m (fun z m' => z = fN s g b u t ∧ m = m') := by
  unfold fN
  refine e_Formula_named s g b u t (fun _ _ _ _ _ _ => ⟨fun c => ⟨?_, rfl⟩, fun c => ⟨?_, rfl⟩, fun c => ⟨?_, rfl⟩, fun c1 c2 c3 => ⟨?_, rfl⟩⟩)
  · rw [if_neg (by omega), if_pos c]
  · rw [if_neg (by omega), if_neg (by omega), if_pos c]
  · rw [if_neg (by omega), if_neg (by omega), if_neg (by omega), if_pos c]
  · rw [if_neg (by omega), if_neg c1, if_neg c2, if_neg c3]
theorem c_joined {s a b : Int} (hs : 10011 ≤ s ∧ s ≤ 10020) : CI l G Y_Formula_joined d [.inl s, .inl a, .inl b] m (fun z m' => z = fJ s a b ∧ m = m') := by
  have h10 : s = 10011 ∨ s = 10012 ∨ s = 10013 ∨ s = 10014 ∨ s = 10015 ∨ s = 10016 ∨ s = 10017 ∨ s = 10018 ∨ s = 10019 ∨ s = 10020 := by omega
  refine e_Formula_joined s a b (fun _ _ _ _ => ⟨fun c => ?_, fun c => ?_, fun c => ?_, fun c => ?_, fun c => ?_, fun c => ?_, fun c => ?_, fun c => ?_, fun c => ?_, fun c => ?_, fun c1 c2 c3 c4 c5 c6 c7 c8 c9 c10 => by omega⟩)
  · subst c
    show (a = 0 → (0 = (if a = 0 then (0 : Int) else if b = 0 then 0 else 1) ∧ m = m)) ∧ _
    refine ⟨fun h => ⟨by rw [if_pos h], rfl⟩, fun h => ⟨fun h2 => ⟨?_, rfl⟩, fun h2 => ⟨?_, rfl⟩⟩⟩
    · show (0 : Int) = (if a = 0 then (0 : Int) else if b = 0 then 0 else 1)
      rw [if_neg h, if_pos h2]
    · show (1 : Int) = (if a = 0 then (0 : Int) else if b = 0 then 0 else 1)
      rw [if_neg h, if_neg h2]
  · subst c
    refine ⟨fun h => ⟨?_, rfl⟩, fun h => ⟨fun h2 => ⟨?_, rfl⟩, fun h2 => ⟨?_, rfl⟩⟩⟩
    · show (1 : Int) = (if a = 0 then (if b = 0 then 0 else 1) else 1)
      rw [if_neg h]
    · show (0 : Int) = (if a = 0 then (if b = 0 then 0 else 1) else 1)
      rw [if_pos (Classical.not_not.mp h), if_pos h2]
    · show (1 : Int) = (if a = 0 then (if b = 0 then 0 else 1) else 1)
      rw [if_pos (Classical.not_not.mp h), if_neg h2]
  · subst c
    refine ⟨fun h => ⟨?_, rfl⟩, fun h => ⟨?_, rfl⟩⟩
    · show (0 : Int) = (if a ≥ b then 0 else 1)
      rw [if_pos h]
    · show (1 : Int) = (if a ≥ b then 0 else 1)
      rw [if_neg h]
  · subst c
    refine ⟨fun h => ⟨?_, rfl⟩, fun h => ⟨?_, rfl⟩⟩
    · show (0 : Int) = (if a ≤ b then 0 else 1)
      rw [if_pos h]
    · show (1 : Int) = (if a ≤ b then 0 else 1)
      rw [if_neg h]
  · subst c
    refine ⟨fun h => ⟨?_, rfl⟩, fun h => ⟨?_, rfl⟩⟩
    · show (0 : Int) = (if a = b then 1 else 0)
      rw [if_neg h]
    · show (1 : Int) = (if a = b then 1 else 0)
      rw [if_pos (Classical.not_not.mp h)]
  · subst c; exact ⟨rfl, rfl⟩
  · subst c; exact ⟨rfl, rfl⟩
  · subst c; exact ⟨rfl, rfl⟩
  · subst c
    refine ⟨fun h => ⟨h, ?_, rfl⟩, fun h => ⟨?_, rfl⟩⟩
    · show w32 (Int.tdiv a b) = (if b = 0 then 0 else w32 (Int.tdiv a b))
      rw [if_neg h]
    · show (0 : Int) = (if b = 0 then 0 else w32 (Int.tdiv a b))
      rw [if_pos (Classical.not_not.mp h)]
  · subst c
    refine ⟨fun h => ⟨h, ?_, rfl⟩, fun h => ⟨?_, rfl⟩⟩
    · show Int.tmod a b = (if b = 0 then 0 else Int.tmod a b)
      rw [if_neg h]
    · show (0 : Int) = (if b = 0 then 0 else Int.tmod a b)
      rw [if_pos (Classical.not_not.mp h)]
theorem fW_rng {s : Int} {r : List Int} {k e : Int} (h : fW (s :: r) k e) : (0 ≤ s ∧ s ≤ 10003 ∧ k < 40 ∧ fW r (k + 1) e) ∨ (s = 10010 ∧ 1 ≤ k ∧ fW r k e) ∨ (10011 ≤ s ∧ s ≤ 10020 ∧ 2 ≤ k ∧ fW r (k - 1) e) := by
  unfold fW at h
  by_cases c : s < 10010
  · rw [if_pos c] at h
    exact Or.inl ⟨h.1.1, h.1.2, h.2⟩
  · rw [if_neg c] at h
    by_cases c2 : s = 10010
    · rw [if_pos c2] at h
      exact Or.inr (Or.inl ⟨c2, h⟩)
    · rw [if_neg c2] at h
      exact Or.inr (Or.inr ⟨by omega, h⟩)
theorem fs_at {pre : List Int} {s : Int} {r : List Int} : (pre ++ s :: r)[pre.length]? = some s := by
  rw [List.getElem?_append_right (Nat.le_refl _), Nat.sub_self]
  rfl
theorem fs_next {pre : List Int} {s : Int} {r : List Int} : pre ++ s :: r = (pre ++ [s]) ++ r := by
  rw [List.append_assoc]; rfl
theorem c_worth {a : Nat} (ha : isF a) {fs : List Int} (F : CF fs a m) (hf : fOk fs) {g b u t : Int} : CI l G Y_Formula_worth (d + 1) [.inr (.inr a), .inl g, .inl b, .inl u, .inl t] m (fun z m' => Fr [a + 2] m m' ∧ z = fV fs g b u t) := by
  obtain ⟨F1, F2, F3⟩ := F
  refine e_Formula_worth g b u t a ha (fun _ _ _ _ _ => ?_)
  have go : ∀ (r pre : List Int) (k : Int) (m1 : MM), fs = pre ++ r → 0 ≤ k → k ≤ 40 → fW r k 1 → Fr [a + 2] m m1 → fE g b u t r k (m1 (a + 2)) 0 = fV fs g b u t →
      Wq l G false Y_Formula_worth (d + 1) (QI fun z m' => Fr [a + 2] m m' ∧ z = fV fs g b u t) 6 [(0, .inr (.inr a)), (1, .inl g), (2, .inl b), (3, .inl u), (4, .inl t), (5, .inl k), (6, .inl (pre.length : Int))] [] m1 := by
    intro r
    induction r with
    | nil =>
      intro pre k m1 hfs k0 k40 hw f he
      have hl : fs.length = pre.length := by rw [hfs, List.append_nil]
      have e2 : m1 a 2 = pre.length := by rw [f a (by simp), F1, hl]
      have hk : k = 1 := hw
      exact s_Formula_worth_6 _ _ _ _ _ _ a ha (fun _ _ _ _ _ _ _ => ⟨fun _ => ⟨fun c => absurd hk c, fun _ => ⟨f, he⟩⟩, fun c => absurd (show (pre.length : Int) ≥ m1 a 2 by omega) c⟩)
    | cons s r ih =>
      intro pre k m1 hfs k0 k40 hw f he
      have hl : fs.length = pre.length + (r.length + 1) := by rw [hfs, List.length_append]; rfl
      have e2 : m1 a 2 = fs.length := by rw [f a (by simp), F1]
      have es : m1 (a + 1) (pre.length : Int) = s := by
        rw [f (a + 1) (by simp)]
        exact F3 pre.length s (by rw [hfs]; exact fs_at)
      have hn : ((pre ++ [s]).length : Int) = (pre.length : Int) + 1 := by rw [List.length_append]; rfl
      have hfs2 : fs = (pre ++ [s]) ++ r := by rw [hfs]; exact fs_next
      refine s_Formula_worth_6 _ _ _ _ _ _ a ha (fun _ _ _ _ _ _ _ => ⟨fun c => absurd c (by omega), fun _ => ⟨by omega, ?_⟩⟩)
      rw [es]
      unfold fE at he
      rcases fW_rng hw with ⟨s0, s3, k4, hw2⟩ | ⟨s1, k1, hw2⟩ | ⟨s1, s2, k2, hw2⟩
      · rw [if_pos (show s < 10010 by omega)] at he
        refine ⟨fun c => absurd c (by omega), fun _ => ⟨fun _ => ?_, fun c => absurd k4 c⟩⟩
        have fin : ∀ m2 : MM, m2 = up m1 (a + 2) k (fN s g b u t) → (inR (k + 1)) ∧ ((inR ((pre.length : Int) + 1)) ∧ (Wq l G false Y_Formula_worth (d + 1) (QI fun z m' => Fr [a + 2] m m' ∧ z = fV fs g b u t) 6 [(0, .inr (.inr a)), (1, .inl g), (2, .inl b), (3, .inl u), (4, .inl t), (5, .inl (k + 1)), (6, .inl ((pre.length : Int) + 1))] [] m2)) := by
          rintro m2 rfl
          refine ⟨by omega, by omega, ?_⟩
          rw [← hn]
          refine ih (pre ++ [s]) (k + 1) _ hfs2 (by omega) (by omega) hw2 (Fr_up f (by simp)) ?_
          have er : up m1 (a + 2) k (fN s g b u t) (a + 2) = ud (m1 (a + 2)) k (fN s g b u t) := by
            funext j
            rw [up_row]; rfl
          rw [er]
          exact he
        refine ⟨fun c => ⟨d, _, Nat.lt_succ_self d, c_named ⟨c, s3⟩, fun z m2 hz _ _ => ?_⟩, fun c => ⟨⟨k0, k4⟩, ?_⟩⟩
        · obtain ⟨rfl, rfl⟩ := hz
          exact ⟨⟨k0, k4⟩, fin⟩
        · have : fN s g b u t = s := by
            unfold fN
            rw [if_pos (by omega)]
          rw [← this]
          rw [this]
          intro m2 h2
          exact fin m2 (by rw [h2, this])
      · rw [if_neg (show ¬ s < 10010 by omega), if_pos s1] at he
        refine ⟨fun _ => ⟨fun c => absurd s1 c, fun _ => ⟨fun _ => ⟨by omega, by omega, by omega, ?_⟩, fun c => absurd k1 c⟩⟩, fun c => absurd (show s ≥ 10010 by omega) c⟩
        have fin : ∀ v : Int, v = (if m1 (a + 2) (k - 1) = 0 then 1 else 0) → ∀ m2 : MM, m2 = up m1 (a + 2) (k - 1) v → (inR ((pre.length : Int) + 1)) ∧ (Wq l G false Y_Formula_worth (d + 1) (QI fun z m' => Fr [a + 2] m m' ∧ z = fV fs g b u t) 6 [(0, .inr (.inr a)), (1, .inl g), (2, .inl b), (3, .inl u), (4, .inl t), (5, .inl k), (6, .inl ((pre.length : Int) + 1))] [] m2) := by
          rintro v hv m2 rfl
          refine ⟨by omega, ?_⟩
          rw [← hn]
          refine ih (pre ++ [s]) k _ hfs2 k0 k40 hw2 (Fr_up f (by simp)) ?_
          have er : up m1 (a + 2) (k - 1) v (a + 2) = ud (m1 (a + 2)) (k - 1) (if m1 (a + 2) (k - 1) = 0 then 1 else 0) := by
            funext j
            rw [up_row, hv]; rfl
          rw [er]
          exact he
        exact ⟨fun c => ⟨by omega, fin 0 (by rw [if_neg c])⟩, fun c => ⟨by omega, fin 1 (by rw [if_pos (Classical.not_not.mp c)])⟩⟩
      · rw [if_neg (show ¬ s < 10010 by omega), if_neg (show ¬ s = 10010 by omega)] at he
        rw [show k + (-1) - 1 = k - 2 by omega, show k + (-1) = k - 1 by omega]
        refine ⟨fun _ => ⟨fun _ => ⟨fun _ => ⟨by omega, by omega, by omega, by omega, by omega, d, _, Nat.lt_succ_self d, c_joined ⟨s1, s2⟩, fun z m2 hz _ _ => ?_⟩, fun c => absurd k2 c⟩, fun c => absurd (show s ≠ 10010 by omega) c⟩, fun c => absurd (show s ≥ 10010 by omega) c⟩
        obtain ⟨rfl, rfl⟩ := hz
        refine ⟨by omega, ?_⟩
        rintro m2 rfl
        refine ⟨by omega, ?_⟩
        rw [← hn]
        refine ih (pre ++ [s]) (k - 1) _ hfs2 (by omega) (by omega) hw2 (Fr_up f (by simp)) ?_
        have er : up m1 (a + 2) (k - 2) (fJ s (m1 (a + 2) (k - 2)) (m1 (a + 2) (k - 1))) (a + 2) = ud (m1 (a + 2)) (k - 2) (fJ s (m1 (a + 2) (k - 2)) (m1 (a + 2) (k - 1))) := by
          funext j
          rw [up_row]; rfl
        rw [er]
        exact he
  rcases hf with hf | hf
  · have e2 : m a 2 = 0 := by rw [F1, hf]; rfl
    refine s_Formula_worth_6 _ _ _ _ _ _ a ha (fun _ _ _ _ _ _ _ => ⟨fun _ => ⟨fun _ => ⟨Fr.rf, by rw [hf]; rfl⟩, fun c => absurd (by decide) c⟩, fun c => absurd (show (0 : Int) ≥ m a 2 by omega) c⟩)
  · exact go fs [] 0 m rfl (by omega) (by omega) hf Fr.rf (fE_agree fs 0 1 _ _ (Int.le_refl _) hf (fun j j0 j1 => by omega) 0 (by decide) (by decide))
end Form
