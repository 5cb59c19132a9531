/-! the reference at a token -/
theorem Run.congr {P P' : Int → Prop} {a e : Int} (h : Run P a e) (g : ∀ t, a ≤ t → (P t ↔ P' t)) : Run P' a e := ⟨h.1, fun t t0 t1 => (g t t0).mp (h.2.1 t t0 t1), fun q => h.2.2 ((g e h.1).mpr q)⟩
theorem nmF_congr {T U : Int → Int} {a : Int} : ∀ k : Nat, (∀ t : Int, a ≤ t → t < a + k → T t = U t) → nmF T a k = nmF U a k
  | 0, _ => rfl
  | k + 1, h => by
    show bLor (bLshl (nmF T a k) 8) (T (a + k)) = bLor (bLshl (nmF U a k) 8) (U (a + k))
    rw [nmF_congr k (fun t t0 t1 => h t t0 (by omega)), h (a + k) (by omega) (by omega)]
theorem nuF_congr {T U : Int → Int} {a : Int} : ∀ k : Nat, (∀ t : Int, a ≤ t → t < a + k → T t = U t) → nuF T a k = nuF U a k
  | 0, _ => rfl
  | k + 1, h => by
    show (if k < 4 then 10 * nuF T a k + T (a + k) - 48 else nuF T a k) = (if k < 4 then 10 * nuF U a k + U (a + k) - 48 else nuF U a k)
    rw [nuF_congr k (fun t t0 t1 => h t t0 (by omega)), h (a + k) (by omega) (by omega)]
theorem TkM.congr {T U : Int → Int} {N p tok a e num nm : Int} (h : TkM T N p tok a e num nm) (g : ∀ t, 0 ≤ t → t < N → T t = U t) (hp : 0 ≤ p ∧ p ≤ N) : TkM U N p tok a e num nm := by
  obtain ⟨h1, h2⟩ := h
  have pa := h1.1
  have iff2 : ∀ {Q : Int → Prop} (b : Int), 0 ≤ b → ∀ t, b ≤ t → ((t < N ∧ Q (T t)) ↔ (t < N ∧ Q (U t))) := fun b b0 t t0 => ⟨fun q => ⟨q.1, by rw [← g t (by omega) q.1]; exact q.2⟩, fun q => ⟨q.1, by rw [g t (by omega) q.1]; exact q.2⟩⟩
  have top : ∀ {P : Int → Prop}, a < N → Run (fun t => t < N ∧ P t) a e → e ≤ N := fun {P} ha hr => by
    rcases Int.lt_or_le N e with q | q
    · have := (hr.2.1 N (by omega) q).1
      omega
    · exact q
  refine ⟨h1.congr (iff2 (Q := fun c => c = 32 ∨ c = 10) p hp.1), ?_⟩
  rcases h2 with h2 | ⟨g1, g2, g3, g4, g5⟩ | ⟨g1, g2, g3, g4, g5⟩ | ⟨g1, g2, g3, g4, g5⟩
  · exact Or.inl h2
  · have ga := g a (by omega) g1
    have et := top g1 g3
    have ea := g3.1
    refine Or.inr (Or.inl ⟨g1, by rw [← ga]; exact g2, g3.congr (iff2 (Q := isL) a (by omega)), ?_, g5⟩)
    rw [g4]
    exact nmF_congr _ (fun t t0 t1 => g t (by omega) (by omega))
  · have ga := g a (by omega) g1
    have et := top g1 g3
    have ea := g3.1
    have ge : (e < N ∧ isL (T e)) ↔ (e < N ∧ isL (U e)) := iff2 (Q := isL) e (by omega) e (Int.le_refl e)
    refine Or.inr (Or.inr (Or.inl ⟨g1, by rw [← ga]; exact g2, g3.congr (iff2 (Q := isD) a (by omega)), ?_, ?_⟩))
    · rw [g4]
      exact nuF_congr _ (fun t t0 t1 => g t (by omega) (by omega))
    · rw [← ge]; exact g5
  · have ga := g a (by omega) g1
    refine Or.inr (Or.inr (Or.inr ⟨g1, by rw [← ga]; exact g2, by rw [← ga]; exact g3, g4, by rw [← ga]; exact g5⟩))
/-- the reference is at the token behind p -/
def TpM (T : Int → Int) (N p : Int) (m : MM) : Prop := (∀ t, 0 ≤ t → t < N → tx m t = T t) ∧ m 70 3 = N ∧ N ≤ 1600 ∧ 0 ≤ p ∧ p ≤ N ∧ TkM T N p (m 70 8) (m 70 6) (m 70 7) (m 70 9) (m 70 10)
section AtM
variable {T : Int → Int} {N p : Int} {m m' : MM}
theorem TpM.ts (h : TpM T N p m) : TsM (tx m) N m := by
  obtain ⟨h1, h2, h3, h4, h5, h6⟩ := h
  exact ⟨h2, h3, p, h4, h5, h6.congr (fun t t0 t1 => (h1 t t0 t1).symm) ⟨h4, h5⟩⟩
theorem TpM.at (h : TpM T N p m) : m 70 6 = plc T N p := h.2.2.2.2.2.fn.1
theorem TpM.end (h : TpM T N p m) : m 70 7 = en T N p := h.2.2.2.2.2.fn.2.1
theorem TpM.sort (h : TpM T N p m) : SrM T N p (m 70 8) (m 70 9) (m 70 10) := h.2.2.2.2.2.fn.2.2
theorem TpM.rng (h : TpM T N p m) : p ≤ plc T N p ∧ plc T N p ≤ en T N p ∧ en T N p ≤ N ∧ (kd T N p ≠ 0 → p < en T N p) ∧ (plc T N p < N → p < en T N p) := tk_rng ⟨h.2.2.2.1, h.2.2.2.2.1⟩
theorem TpM.go (h : TpM T N p m) (g : GoP N m m') : TpM T N (en T N p) m' := by
  have he := h.end
  have hr := h.rng
  obtain ⟨h1, h2, h3, h4, h5, h6⟩ := h
  obtain ⟨g1, g2, g3, g4⟩ := g
  rw [he] at g2
  exact ⟨fun t t0 t1 => by rw [g3]; exact h1 t t0 t1, g4.1, h3, by omega, hr.2.2.1, g2.congr h1 ⟨by omega, hr.2.2.1⟩⟩
theorem TpM.fr {S : List Nat} {I : List Int} (h : TpM T N p m) (f : Fro 70 S I m m') (hS : 72 ∉ S) (hI : (3 : Int) ∉ I ∧ (6 : Int) ∉ I ∧ (7 : Int) ∉ I ∧ (8 : Int) ∉ I ∧ (9 : Int) ∉ I ∧ (10 : Int) ∉ I) : TpM T N p m' := by
  obtain ⟨h1, h2, h3, h4, h5, h6⟩ := h
  obtain ⟨i3, i6, i7, i8, i9, i10⟩ := hI
  refine ⟨fun t t0 t1 => ?_, by rw [f.2 3 i3]; exact h2, h3, h4, h5, ?_⟩
  · rw [← h1 t t0 t1]
    unfold tx
    rw [f.1 72 hS (by decide)]
  · rw [f.2 8 i8, f.2 6 i6, f.2 7 i7, f.2 9 i9, f.2 10 i10]
    exact h6
theorem sgn_rng {c : Int} (h : c ∈ SGN) : 37 ≤ c ∧ c ≤ 62 := by
  unfold SGN at h
  simp only [List.mem_cons, List.not_mem_nil, or_false] at h
  omega
theorem TpM.word (h : TpM T N p m) {w : Int} (hw : w ∈ KW) : (m 70 8 = 3 ∧ m 70 10 = w) ↔ kd T N p = kwF w := by
  have hk := kwF_in.1 hw
  rcases h.sort with ⟨g1, g2⟩ | ⟨g1, g2⟩ | ⟨g1, g2, g3⟩ | ⟨g1, g2, g3⟩ | ⟨g1, g2, g3⟩ | ⟨g1, g2, g3⟩
  · exact ⟨fun q => by omega, fun q => by omega⟩
  · exact ⟨fun q => by omega, fun q => by omega⟩
  · exact ⟨fun q => by omega, fun q => by omega⟩
  · refine ⟨fun q => by rw [g3, q.2], fun q => ⟨g1, ?_⟩⟩
    rw [g3] at q
    exact kwF_key hw q
  · exact ⟨fun q => by omega, fun q => by omega⟩
  · have := sgn_rng g3
    exact ⟨fun q => by omega, fun q => by omega⟩
theorem TpM.sign (h : TpM T N p m) {c : Int} (hc : c ∈ SGN) : (m 70 8 = 5 ∧ tx m (m 70 6) = c) ↔ kd T N p = c := by
  have hk := sgn_rng hc
  have hr := h.rng
  have h0 := h.2.2.2.1
  have htx : plc T N p < N → tx m (plc T N p) = T (plc T N p) := h.1 _ (by omega)
  rw [h.at]
  rcases h.sort with ⟨g1, g2⟩ | ⟨g1, g2⟩ | ⟨g1, g2, g3⟩ | ⟨g1, g2, g3⟩ | ⟨g1, g2, g3⟩ | ⟨g1, g2, g3⟩
  · exact ⟨fun q => by omega, fun q => by omega⟩
  · exact ⟨fun q => by omega, fun q => by omega⟩
  · exact ⟨fun q => by omega, fun q => by omega⟩
  · have := kwF_in.1 g2
    exact ⟨fun q => by omega, fun q => by omega⟩
  · exact ⟨fun q => by omega, fun q => by omega⟩
  · have hl : plc T N p < N := by
      rcases Int.lt_or_le (plc T N p) N with q | q
      · exact q
      · have : kd T N p = 0 := if_pos q
        have := sgn_rng g3
        omega
    have := htx hl
    exact ⟨fun q => by omega, fun q => ⟨g1, by omega⟩⟩
theorem TpM.num (h : TpM T N p m) : (m 70 8 = 4 ↔ kd T N p = 3) ∧ (kd T N p = 3 → m 70 9 = vl T N p) := by
  rcases h.sort with ⟨g1, g2⟩ | ⟨g1, g2⟩ | ⟨g1, g2, g3⟩ | ⟨g1, g2, g3⟩ | ⟨g1, g2, g3⟩ | ⟨g1, g2, g3⟩
  · exact ⟨⟨fun q => by omega, fun q => by omega⟩, fun q => by omega⟩
  · exact ⟨⟨fun q => by omega, fun q => by omega⟩, fun q => by omega⟩
  · exact ⟨⟨fun q => by omega, fun q => by omega⟩, fun q => by omega⟩
  · have := kwF_in.1 g2
    exact ⟨⟨fun q => by omega, fun q => by omega⟩, fun q => by omega⟩
  · exact ⟨⟨fun q => g2, fun q => g1⟩, fun _ => g3⟩
  · have := sgn_rng g3
    exact ⟨⟨fun q => by omega, fun q => by omega⟩, fun q => by omega⟩
theorem TpM.name (h : TpM T N p m) : (m 70 8 = 2 ↔ kd T N p = 2) ∧ (kd T N p = 2 → m 70 10 = vl T N p) := by
  rcases h.sort with ⟨g1, g2⟩ | ⟨g1, g2⟩ | ⟨g1, g2, g3⟩ | ⟨g1, g2, g3⟩ | ⟨g1, g2, g3⟩ | ⟨g1, g2, g3⟩
  · exact ⟨⟨fun q => by omega, fun q => by omega⟩, fun q => by omega⟩
  · exact ⟨⟨fun q => by omega, fun q => by omega⟩, fun q => by omega⟩
  · exact ⟨⟨fun q => g2, fun q => g1⟩, fun _ => g3⟩
  · have := kwF_in.1 g2
    exact ⟨⟨fun q => by omega, fun q => by omega⟩, fun q => by omega⟩
  · exact ⟨⟨fun q => by omega, fun q => by omega⟩, fun q => by omega⟩
  · have := sgn_rng g3
    exact ⟨⟨fun q => by omega, fun q => by omega⟩, fun q => by omega⟩
theorem TpM.bad (h : TpM T N p m) : (m 70 8 = 1 ↔ kd T N p = 1) ∧ (m 70 8 = 0 ↔ kd T N p = 0) ∧ (m 70 8 = 3 ↔ 100 ≤ kd T N p) := by
  rcases h.sort with ⟨g1, g2⟩ | ⟨g1, g2⟩ | ⟨g1, g2, g3⟩ | ⟨g1, g2, g3⟩ | ⟨g1, g2, g3⟩ | ⟨g1, g2, g3⟩
  · exact ⟨⟨fun q => by omega, fun q => by omega⟩, ⟨fun q => by omega, fun q => by omega⟩, ⟨fun q => by omega, fun q => by omega⟩⟩
  · exact ⟨⟨fun q => by omega, fun q => by omega⟩, ⟨fun q => by omega, fun q => by omega⟩, ⟨fun q => by omega, fun q => by omega⟩⟩
  · exact ⟨⟨fun q => by omega, fun q => by omega⟩, ⟨fun q => by omega, fun q => by omega⟩, ⟨fun q => by omega, fun q => by omega⟩⟩
  · have := kwF_in.1 g2
    exact ⟨⟨fun q => by omega, fun q => by omega⟩, ⟨fun q => by omega, fun q => by omega⟩, ⟨fun q => by omega, fun q => by omega⟩⟩
  · exact ⟨⟨fun q => by omega, fun q => by omega⟩, ⟨fun q => by omega, fun q => by omega⟩, ⟨fun q => by omega, fun q => by omega⟩⟩
  · have := sgn_rng g3
    exact ⟨⟨fun q => by omega, fun q => by omega⟩, ⟨fun q => by omega, fun q => by omega⟩, ⟨fun q => by omega, fun q => by omega⟩⟩
/-- a fault that is told -/
def FtM (f : Int × Int) (m : MM) : Prop := m 70 4 = f.1 ∧ m 70 5 = f.2 ∧ f.1 ≠ 0
theorem FlM.ft {x k : Int} (h : FlM x k m m') (h0 : m 70 4 = 0) (hx : x ≠ 0) : FtM (x, k) m' ∧ Fro 70 [] [4, 5] m m' := by
  have e := h.1 (by omega)
  refine ⟨⟨by rw [e, up_off (by decide), up_at], by rw [e, up_at], hx⟩, fun b _ hb => by rw [e, up_ne hb, up_ne hb], fun i hi => ?_⟩
  have i4 : i ≠ 4 := fun q => hi (by rw [q]; decide)
  have i5 : i ≠ 5 := fun q => hi (by rw [q]; decide)
  rw [e, up_off i5, up_off i4]
theorem bdF_ne : (bdF T N p).1 ≠ 0 ∧ (kd T N p ≠ 1 → bdF T N p = (2, plc T N p)) := by
  unfold bdF
  refine ⟨?_, fun h => by rw [if_neg h]⟩
  show (if kd T N p = 1 then (1 : Int) else 2) ≠ 0
  split <;> decide
theorem TpM.mis (h : TpM T N p m) (h0 : m 70 4 = 0) (g : FlM (if m 70 8 = 1 then 1 else 2) (m 70 6) m m') : FtM (bdF T N p) m' ∧ Fro 70 [] [4, 5] m m' := by
  have e : ((if m 70 8 = 1 then 1 else 2), m 70 6) = bdF T N p := by
    unfold bdF
    rw [h.at]
    by_cases q : kd T N p = 1
    · rw [if_pos q, if_pos (h.bad.1.mpr q)]
    · rw [if_neg q, if_neg (fun r => q (h.bad.1.mp r))]
  have := g.ft h0 (by split <;> decide)
  rw [e] at this
  exact this
end AtM
