/-! tokens of a text as functions of the place behind the one before -/
theorem run_ex {P : Int → Prop} {N : Int} (hP : ∀ t, P t → t < N) : ∀ (s : Nat) (p : Int), p + s = N → ∃ e, Run P p e ∧ e ≤ N
  | 0, p, h => ⟨p, ⟨Int.le_refl p, fun t t0 t1 => by omega, fun q => by have := hP p q; omega⟩, by omega⟩
  | s + 1, p, h => by
    rcases Classical.em (P p) with q | q
    · obtain ⟨e, h1, h2⟩ := run_ex hP s (p + 1) (by omega)
      refine ⟨e, ⟨by have := h1.1; omega, fun t t0 t1 => ?_, h1.2.2⟩, h2⟩
      by_cases g : t = p
      · rw [g]; exact q
      · exact h1.2.1 t (by omega) t1
    · exact ⟨p, ⟨Int.le_refl p, fun t t0 t1 => by omega, q⟩, by omega⟩
noncomputable def runE (P : Int → Prop) (p : Int) : Int := Classical.epsilon (fun e => Run P p e)
theorem Run.eq {P : Int → Prop} {p e : Int} (h : Run P p e) : runE P p = e := (Classical.epsilon_spec (p := fun e => Run P p e) ⟨e, h⟩).uniq h
theorem runE_spec {P : Int → Prop} {N p : Int} (hP : ∀ t, P t → t < N) (hp : p ≤ N) : Run P p (runE P p) ∧ runE P p ≤ N := by
  obtain ⟨e, h1, h2⟩ := run_ex hP (N - p).toNat p (by omega)
  rw [h1.eq]
  exact ⟨h1, h2⟩
def blk (T : Int → Int) (N t : Int) : Prop := t < N ∧ (T t = 32 ∨ T t = 10)
noncomputable def plc (T : Int → Int) (N p : Int) : Int := runE (fun t => t < N ∧ (T t = 32 ∨ T t = 10)) p
noncomputable def enW (T : Int → Int) (N a : Int) : Int := runE (fun t => t < N ∧ isL (T t)) a
noncomputable def enD (T : Int → Int) (N a : Int) : Int := runE (fun t => t < N ∧ isD (T t)) a
def kwF (v : Int) : Int :=
  if v = 482854663269 then 100 else if v = 448545973363 then 101 else if v = 426954290277 then 102 else if v = 2003395685 then 103 else if v = 431415716206 then 104 else if v = 439721159795 then 105 else if v = 1819632491 then 106 else if v = 1685217655 then 107 else if v = 28530 then 108 else if v = 6385252 then 109 else if v = 7237492 then 110 else if v = 113740958232179 then 111 else if v = 1651665261 then 112 else if v = 121450625394034 then 113 else if v = 6578553 then 114 else 2
noncomputable def enF (T : Int → Int) (N a : Int) : Int := if N ≤ a then N else if 97 ≤ T a ∧ T a ≤ 122 then enW T N a else if 48 ≤ T a ∧ T a ≤ 57 then enD T N a else a + 1
noncomputable def kdF (T : Int → Int) (N a : Int) : Int :=
  if N ≤ a then 0 else if 97 ≤ T a ∧ T a ≤ 122 then (if 8 < enW T N a - a then 1 else kwF (nmF T a (enW T N a - a).toNat)) else if 48 ≤ T a ∧ T a ≤ 57 then (if 4 < enD T N a - a ∨ (enD T N a < N ∧ 97 ≤ T (enD T N a) ∧ T (enD T N a) ≤ 122) then 1 else 3) else if T a ∈ SGN then T a else 1
noncomputable def vlF (T : Int → Int) (N a : Int) : Int := if 97 ≤ T a ∧ T a ≤ 122 then nmF T a (enW T N a - a).toNat else nuF T a (enD T N a - a).toNat
/-- sort, end and worth of the token behind p -/
noncomputable def kd (T : Int → Int) (N p : Int) : Int := kdF T N (plc T N p)
noncomputable def en (T : Int → Int) (N p : Int) : Int := enF T N (plc T N p)
noncomputable def vl (T : Int → Int) (N p : Int) : Int := vlF T N (plc T N p)
theorem kwF_in {v : Int} : (v ∈ KW → 100 ≤ kwF v ∧ kwF v ≤ 114) ∧ (v ∉ KW → kwF v = 2) := by
  unfold KW kwF
  simp only [List.mem_cons, List.not_mem_nil, or_false]
  refine ⟨fun h => ?_, fun h => ?_⟩
  · rcases h with rfl | rfl | rfl | rfl | rfl | rfl | rfl | rfl | rfl | rfl | rfl | rfl | rfl | rfl | rfl <;> decide
  · rw [if_neg (fun q => h (by omega)), if_neg (fun q => h (by omega)), if_neg (fun q => h (by omega)), if_neg (fun q => h (by omega)), if_neg (fun q => h (by omega)), if_neg (fun q => h (by omega)), if_neg (fun q => h (by omega)), if_neg (fun q => h (by omega)), if_neg (fun q => h (by omega)), if_neg (fun q => h (by omega)), if_neg (fun q => h (by omega)), if_neg (fun q => h (by omega)), if_neg (fun q => h (by omega)), if_neg (fun q => h (by omega)), if_neg (fun q => h (by omega))]
/-- a key word is told by its sort -/
theorem kwF_key {v w : Int} (hw : w ∈ KW) (h : kwF v = kwF w) : v = w := by
  have hv : v ∈ KW := by
    rcases Classical.em (v ∈ KW) with q | q
    · exact q
    · have := kwF_in.2 q
      have := kwF_in.1 hw
      omega
  unfold KW at hv hw
  simp only [List.mem_cons, List.not_mem_nil, or_false] at hv hw
  rcases hv with rfl | rfl | rfl | rfl | rfl | rfl | rfl | rfl | rfl | rfl | rfl | rfl | rfl | rfl | rfl <;> rcases hw with rfl | rfl | rfl | rfl | rfl | rfl | rfl | rfl | rfl | rfl | rfl | rfl | rfl | rfl | rfl <;> first | rfl | exact absurd h (by decide)
/-- how the reference tells the sort -/
def SrM (T : Int → Int) (N p tok num nm : Int) : Prop :=
  (tok = 0 ∧ kd T N p = 0) ∨ (tok = 1 ∧ kd T N p = 1) ∨ (tok = 2 ∧ kd T N p = 2 ∧ nm = vl T N p) ∨ (tok = 3 ∧ nm ∈ KW ∧ kd T N p = kwF nm) ∨ (tok = 4 ∧ kd T N p = 3 ∧ num = vl T N p) ∨ (tok = 5 ∧ kd T N p = T (plc T N p) ∧ T (plc T N p) ∈ SGN)
theorem TkM.fn {T : Int → Int} {N p tok a e num nm : Int} (h : TkM T N p tok a e num nm) : a = plc T N p ∧ e = en T N p ∧ SrM T N p tok num nm := by
  obtain ⟨h1, h2⟩ := h
  have ea : plc T N p = a := h1.eq
  unfold SrM en kd vl
  rw [ea]
  rcases h2 with ⟨g1, g2, g3⟩ | ⟨g1, g2, g3, g4, g5⟩ | ⟨g1, g2, g3, g4, g5⟩ | ⟨g1, g2, g3, g4, g5⟩
  · unfold enF kdF
    rw [if_pos (show N ≤ a by omega), if_pos (show N ≤ a by omega)]
    exact ⟨rfl, g2, Or.inl ⟨g3, rfl⟩⟩
  · have ee : enW T N a = e := g3.eq
    have g2' : 97 ≤ T a ∧ T a ≤ 122 := g2
    unfold enF kdF vlF
    rw [if_neg (show ¬ N ≤ a by omega), if_neg (show ¬ N ≤ a by omega), if_pos g2', if_pos g2', if_pos g2', ee]
    refine ⟨rfl, rfl, ?_⟩
    rcases g5 with ⟨k1, k2⟩ | ⟨k1, k2⟩
    · rw [if_pos k1]
      exact Or.inr (Or.inl ⟨k2, rfl⟩)
    · rw [if_neg (show ¬ 8 < e - a by omega)]
      rw [show min 8 (e - a) = e - a by omega] at g4
      rw [← g4]
      rcases k2 with ⟨j1, j2⟩ | ⟨j1, j2⟩
      · exact Or.inr (Or.inr (Or.inr (Or.inl ⟨j2, j1, rfl⟩)))
      · exact Or.inr (Or.inr (Or.inl ⟨j2, kwF_in.2 j1, rfl⟩))
  · have ee : enD T N a = e := g3.eq
    have g2' : 48 ≤ T a ∧ T a ≤ 57 := g2
    have nl : ¬ (97 ≤ T a ∧ T a ≤ 122) := fun q => by omega
    unfold enF kdF vlF
    rw [if_neg (show ¬ N ≤ a by omega), if_neg (show ¬ N ≤ a by omega), if_neg nl, if_neg nl, if_neg nl, if_pos g2', if_pos g2', ee]
    refine ⟨rfl, rfl, ?_⟩
    rcases g5 with ⟨k1, k2⟩ | ⟨k1, k2⟩
    · have k1' : 4 < e - a ∨ (e < N ∧ 97 ≤ T e ∧ T e ≤ 122) := k1
      rw [if_pos k1']
      exact Or.inr (Or.inl ⟨k2, rfl⟩)
    · have k1' : ¬ (4 < e - a ∨ (e < N ∧ 97 ≤ T e ∧ T e ≤ 122)) := fun q => by
        rcases q with q | q
        · omega
        · exact k1.2 q
      rw [if_neg k1']
      exact Or.inr (Or.inr (Or.inr (Or.inr (Or.inl ⟨k2, rfl, g4⟩))))
  · have nl : ¬ (97 ≤ T a ∧ T a ≤ 122) := g2
    have nd : ¬ (48 ≤ T a ∧ T a ≤ 57) := g3
    unfold enF kdF
    rw [if_neg (show ¬ N ≤ a by omega), if_neg (show ¬ N ≤ a by omega), if_neg nl, if_neg nl, if_neg nd, if_neg nd]
    refine ⟨rfl, g4, ?_⟩
    rcases g5 with ⟨k1, k2⟩ | ⟨k1, k2⟩
    · rw [if_pos k1]
      exact Or.inr (Or.inr (Or.inr (Or.inr (Or.inr ⟨k2, rfl, k1⟩))))
    · rw [if_neg k1]
      exact Or.inr (Or.inl ⟨k2, rfl⟩)
/-- where tokens lie -/
theorem tk_rng {T : Int → Int} {N p : Int} (hp : 0 ≤ p ∧ p ≤ N) : p ≤ plc T N p ∧ plc T N p ≤ en T N p ∧ en T N p ≤ N ∧ (kd T N p ≠ 0 → p < en T N p) ∧ (plc T N p < N → p < en T N p) := by
  obtain ⟨h1, h2⟩ := runE_spec (P := fun t => t < N ∧ (T t = 32 ∨ T t = 10)) (N := N) (p := p) (fun t h => h.1) hp.2
  have ha : plc T N p = runE (fun t => t < N ∧ (T t = 32 ∨ T t = 10)) p := rfl
  rw [← ha] at h1 h2
  have h3 := h1.1
  unfold en enF kd kdF
  by_cases q : N ≤ plc T N p
  · rw [if_pos q, if_pos q]
    exact ⟨by omega, by omega, by omega, fun g => absurd rfl g, fun g => by omega⟩
  · rw [if_neg q]
    by_cases ql : 97 ≤ T (plc T N p) ∧ T (plc T N p) ≤ 122
    · rw [if_pos ql]
      obtain ⟨g1, g2⟩ := runE_spec (P := fun t => t < N ∧ isL (T t)) (N := N) (p := plc T N p) (fun t h => h.1) h2
      have he : enW T N (plc T N p) = runE (fun t => t < N ∧ isL (T t)) (plc T N p) := rfl
      rw [← he] at g1 g2
      have g3 := g1.1
      have g4 : plc T N p < enW T N (plc T N p) := by
        rcases Int.lt_or_eq_of_le g3 with r | r
        · exact r
        · exact absurd ⟨by omega, by rw [← r]; exact ql⟩ g1.2.2
      exact ⟨by omega, by omega, by omega, fun _ => by omega, fun _ => by omega⟩
    · rw [if_neg ql]
      by_cases qd : 48 ≤ T (plc T N p) ∧ T (plc T N p) ≤ 57
      · rw [if_pos qd]
        obtain ⟨g1, g2⟩ := runE_spec (P := fun t => t < N ∧ isD (T t)) (N := N) (p := plc T N p) (fun t h => h.1) h2
        have he : enD T N (plc T N p) = runE (fun t => t < N ∧ isD (T t)) (plc T N p) := rfl
        rw [← he] at g1 g2
        have g3 := g1.1
        have g4 : plc T N p < enD T N (plc T N p) := by
          rcases Int.lt_or_eq_of_le g3 with r | r
          · exact r
          · exact absurd ⟨by omega, by rw [← r]; exact qd⟩ g1.2.2
        exact ⟨by omega, by omega, by omega, fun _ => by omega, fun _ => by omega⟩
      · rw [if_neg qd]
        exact ⟨by omega, by omega, by omega, fun _ => by omega, fun _ => by omega⟩
/-- a name: a row of at most 8 letters as a number -/
def NmV (v : Int) : Prop := ∃ (T : Int → Int) (a : Int) (k : Nat), k ≤ 8 ∧ (∀ t : Int, a ≤ t → t < a + k → isL (T t)) ∧ v = pkN 256 0 T a k
/-- the same letters, five bits each -/
def cvN : Nat → Int → Int
  | 0, _ => 0
  | k + 1, v => if v = 0 then 0 else cvN k (v / 256) * 32 + (v % 256 - 96)
theorem pk_nonneg {T : Int → Int} {a : Int} : ∀ k : Nat, (∀ t : Int, a ≤ t → t < a + k → isL (T t)) → 0 ≤ pkN 256 0 T a k
  | 0, _ => Int.le_refl 0
  | k + 1, h => by
    have h1 := pk_nonneg k (fun t t0 t1 => h t t0 (by omega))
    have h2 := h (a + k) (by omega) (by omega)
    unfold isL at h2
    show 0 ≤ pkN 256 0 T a k * 256 + (T (a + k) - 0)
    omega
theorem cv_pk {T : Int → Int} {a : Int} : ∀ (f k : Nat), k ≤ f → (∀ t : Int, a ≤ t → t < a + k → isL (T t)) → cvN f (pkN 256 0 T a k) = pkN 32 96 T a k
  | 0, 0, _, _ => rfl
  | f + 1, 0, _, _ => rfl
  | 0, k + 1, h, _ => by omega
  | f + 1, k + 1, h, hl => by
    have h1 := cv_pk f k (by omega) (fun t t0 t1 => hl t t0 (by omega))
    have h2 := hl (a + k) (by omega) (by omega)
    have h3 := pk_nonneg k (fun t t0 t1 => hl t t0 (by omega))
    unfold isL at h2
    show (if pkN 256 0 T a k * 256 + (T (a + k) - 0) = 0 then 0 else cvN f ((pkN 256 0 T a k * 256 + (T (a + k) - 0)) / 256) * 32 + ((pkN 256 0 T a k * 256 + (T (a + k) - 0)) % 256 - 96)) = pkN 32 96 T a k * 32 + (T (a + k) - 96)
    rw [if_neg (by omega), show (pkN 256 0 T a k * 256 + (T (a + k) - 0)) / 256 = pkN 256 0 T a k by omega, h1]
    omega
theorem cv_inj {v w : Int} (hv : NmV v) (hw : NmV w) (h : cvN 8 v = cvN 8 w) : v = w := by
  obtain ⟨T, a, k, k8, hT, rfl⟩ := hv
  obtain ⟨U, b, j, j8, hU, rfl⟩ := hw
  rw [cv_pk 8 k k8 hT, cv_pk 8 j j8 hU] at h
  obtain ⟨rfl, h2⟩ := pk_same (by decide) (by decide) hT hU h
  have : ∀ i : Nat, i ≤ k → pkN 256 0 T a i = pkN 256 0 U b i := by
    intro i
    induction i with
    | zero => intro _; rfl
    | succ i ih =>
      intro hi
      show pkN 256 0 T a i * 256 + (T (a + i) - 0) = pkN 256 0 U b i * 256 + (U (b + i) - 0)
      rw [ih (by omega), h2 i (by omega)]
  exact this k (Nat.le_refl k)
/-- a word's number -/
theorem vl_word {T : Int → Int} {N p : Int} (hp : 0 ≤ p ∧ p ≤ N) (hk : kd T N p = 2 ∨ 100 ≤ kd T N p) (hs : ∀ c ∈ SGN, c < 100) : NmV (vl T N p) ∧ (kd T N p = kwF (vl T N p)) := by
  obtain ⟨-, h2⟩ := runE_spec (P := fun t => t < N ∧ (T t = 32 ∨ T t = 10)) (N := N) (p := p) (fun t h => h.1) hp.2
  have ha : plc T N p = runE (fun t => t < N ∧ (T t = 32 ∨ T t = 10)) p := rfl
  rw [← ha] at h2
  unfold kd kdF at hk
  unfold vl vlF kd kdF
  by_cases q : N ≤ plc T N p
  · rw [if_pos q] at hk; omega
  · rw [if_neg q] at hk ⊢
    by_cases ql : 97 ≤ T (plc T N p) ∧ T (plc T N p) ≤ 122
    · rw [if_pos ql] at hk ⊢
      rw [if_pos ql]
      obtain ⟨g1, g2⟩ := runE_spec (P := fun t => t < N ∧ isL (T t)) (N := N) (p := plc T N p) (fun t h => h.1) h2
      have he : enW T N (plc T N p) = runE (fun t => t < N ∧ isL (T t)) (plc T N p) := rfl
      rw [← he] at g1 g2
      have g3 := g1.1
      by_cases q8 : 8 < enW T N (plc T N p) - plc T N p
      · rw [if_pos q8] at hk; omega
      · rw [if_neg q8]
        refine ⟨⟨T, plc T N p, (enW T N (plc T N p) - plc T N p).toNat, by omega, fun t t0 t1 => (g1.2.1 t t0 (by omega)).2, (nm_pk _ (by omega) (fun t t0 t1 => (g1.2.1 t t0 (by omega)).2)).1⟩, rfl⟩
    · rw [if_neg ql] at hk
      by_cases qd : 48 ≤ T (plc T N p) ∧ T (plc T N p) ≤ 57
      · rw [if_pos qd] at hk
        split at hk <;> omega
      · rw [if_neg qd] at hk
        by_cases qs : T (plc T N p) ∈ SGN
        · rw [if_pos qs] at hk
          have := hs _ qs
          unfold SGN at qs
          simp only [List.mem_cons, List.not_mem_nil, or_false] at qs
          omega
        · rw [if_neg qs] at hk; omega
