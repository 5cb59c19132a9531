/-! the reference at a token -/
/-- the reference is at the token behind p -/
def TpM (T : Int → Int) (N p : Int) (m : MM) : Prop := tx m = T ∧ m 70 3 = N ∧ N ≤ 1600 ∧ 0 ≤ p ∧ p ≤ N ∧ TkM T N p (m 70 8) (m 70 6) (m 70 7) (m 70 9) (m 70 10)
section AtM
variable {T : Int → Int} {N p : Int} {m m' : MM}
theorem TpM.ts (h : TpM T N p m) : TsM (tx m) N m := by
  obtain ⟨h1, h2, h3, h4, h5, h6⟩ := h
  rw [h1]
  exact ⟨h2, h3, p, h4, h5, h6⟩
theorem TpM.at (h : TpM T N p m) : m 70 6 = plc T N p := h.2.2.2.2.2.fn.1
theorem TpM.end (h : TpM T N p m) : m 70 7 = en T N p := h.2.2.2.2.2.fn.2.1
theorem TpM.sort (h : TpM T N p m) : SrM T N p (m 70 8) (m 70 9) (m 70 10) := h.2.2.2.2.2.fn.2.2
theorem TpM.rng (h : TpM T N p m) : p ≤ plc T N p ∧ plc T N p ≤ en T N p ∧ en T N p ≤ N ∧ (kd T N p ≠ 0 → p < en T N p) ∧ (plc T N p < N → p < en T N p) := tk_rng ⟨h.2.2.2.1, h.2.2.2.2.1⟩
theorem TpM.go (h : TpM T N p m) (g : GoP N m m') : TpM T N (en T N p) m' := by
  have he := h.end
  have hr := h.rng
  obtain ⟨h1, h2, h3, h4, h5, h6⟩ := h
  obtain ⟨g1, g2, g3, g4⟩ := g
  rw [h1, he] at g2
  exact ⟨by rw [g3, h1], g4.1, h3, by omega, hr.2.2.1, g2⟩
theorem TpM.fr {S : List Nat} {I : List Int} (h : TpM T N p m) (f : Fro 70 S I m m') (hS : 72 ∉ S) (hI : (3 : Int) ∉ I ∧ (6 : Int) ∉ I ∧ (7 : Int) ∉ I ∧ (8 : Int) ∉ I ∧ (9 : Int) ∉ I ∧ (10 : Int) ∉ I) : TpM T N p m' := by
  obtain ⟨h1, h2, h3, h4, h5, h6⟩ := h
  obtain ⟨i3, i6, i7, i8, i9, i10⟩ := hI
  refine ⟨?_, by rw [f.2 3 i3]; exact h2, h3, h4, h5, ?_⟩
  · rw [← h1]
    funext k
    unfold tx
    rw [f.1 72 hS (by decide)]
  · rw [f.2 8 i8, f.2 6 i6, f.2 7 i7, f.2 9 i9, f.2 10 i10]
    exact h6
theorem sgn_rng {c : Int} (h : c ∈ SGN) : 37 ≤ c ∧ c ≤ 62 := by
  unfold SGN at h
  simp only [List.mem_cons, List.not_mem_nil, or_false] at h
  omega
theorem TpM.word (h : TpM T N p m) {w : Int} (hw : w ∈ KW) : (m 70 8 = 3 ∧ m 70 10 = w) ↔ kd T N p = kwF w := by
  have hk := kwF_in.1 hw
  rcases h.sort with ⟨g1, g2⟩ | ⟨g1, g2⟩ | ⟨g1, g2, g3⟩ | ⟨g1, g2, g3⟩ | ⟨g1, g2, g3⟩ | ⟨g1, g2, g3⟩
  · exact ⟨fun q => by omega, fun q => by omega⟩
  · exact ⟨fun q => by omega, fun q => by omega⟩
  · exact ⟨fun q => by omega, fun q => by omega⟩
  · refine ⟨fun q => by rw [g3, q.2], fun q => ⟨g1, ?_⟩⟩
    rw [g3] at q
    exact kwF_key hw q
  · exact ⟨fun q => by omega, fun q => by omega⟩
  · have := sgn_rng g3
    exact ⟨fun q => by omega, fun q => by omega⟩
theorem TpM.sign (h : TpM T N p m) {c : Int} (hc : c ∈ SGN) : (m 70 8 = 5 ∧ tx m (m 70 6) = c) ↔ kd T N p = c := by
  have hk := sgn_rng hc
  rw [h.1, h.at]
  rcases h.sort with ⟨g1, g2⟩ | ⟨g1, g2⟩ | ⟨g1, g2, g3⟩ | ⟨g1, g2, g3⟩ | ⟨g1, g2, g3⟩ | ⟨g1, g2, g3⟩
  · exact ⟨fun q => by omega, fun q => by omega⟩
  · exact ⟨fun q => by omega, fun q => by omega⟩
  · exact ⟨fun q => by omega, fun q => by omega⟩
  · have := kwF_in.1 g2
    exact ⟨fun q => by omega, fun q => by omega⟩
  · exact ⟨fun q => by omega, fun q => by omega⟩
  · exact ⟨fun q => by omega, fun q => ⟨g1, by omega⟩⟩
theorem TpM.num (h : TpM T N p m) : (m 70 8 = 4 ↔ kd T N p = 3) ∧ (kd T N p = 3 → m 70 9 = vl T N p) := by
  rcases h.sort with ⟨g1, g2⟩ | ⟨g1, g2⟩ | ⟨g1, g2, g3⟩ | ⟨g1, g2, g3⟩ | ⟨g1, g2, g3⟩ | ⟨g1, g2, g3⟩
  · exact ⟨⟨fun q => by omega, fun q => by omega⟩, fun q => by omega⟩
  · exact ⟨⟨fun q => by omega, fun q => by omega⟩, fun q => by omega⟩
  · exact ⟨⟨fun q => by omega, fun q => by omega⟩, fun q => by omega⟩
  · have := kwF_in.1 g2
    exact ⟨⟨fun q => by omega, fun q => by omega⟩, fun q => by omega⟩
  · exact ⟨⟨fun q => g2, fun q => g1⟩, fun _ => g3⟩
  · have := sgn_rng g3
    exact ⟨⟨fun q => by omega, fun q => by omega⟩, fun q => by omega⟩
theorem TpM.name (h : TpM T N p m) : (m 70 8 = 2 ↔ kd T N p = 2) ∧ (kd T N p = 2 → m 70 10 = vl T N p) := by
  rcases h.sort with ⟨g1, g2⟩ | ⟨g1, g2⟩ | ⟨g1, g2, g3⟩ | ⟨g1, g2, g3⟩ | ⟨g1, g2, g3⟩ | ⟨g1, g2, g3⟩
  · exact ⟨⟨fun q => by omega, fun q => by omega⟩, fun q => by omega⟩
  · exact ⟨⟨fun q => by omega, fun q => by omega⟩, fun q => by omega⟩
  · exact ⟨⟨fun q => g2, fun q => g1⟩, fun _ => g3⟩
  · have := kwF_in.1 g2
    exact ⟨⟨fun q => by omega, fun q => by omega⟩, fun q => by omega⟩
  · exact ⟨⟨fun q => by omega, fun q => by omega⟩, fun q => by omega⟩
  · have := sgn_rng g3
    exact ⟨⟨fun q => by omega, fun q => by omega⟩, fun q => by omega⟩
theorem TpM.bad (h : TpM T N p m) : (m 70 8 = 1 ↔ kd T N p = 1) ∧ (m 70 8 = 0 ↔ kd T N p = 0) ∧ (m 70 8 = 3 ↔ 100 ≤ kd T N p) := by
  rcases h.sort with ⟨g1, g2⟩ | ⟨g1, g2⟩ | ⟨g1, g2, g3⟩ | ⟨g1, g2, g3⟩ | ⟨g1, g2, g3⟩ | ⟨g1, g2, g3⟩
  · exact ⟨⟨fun q => by omega, fun q => by omega⟩, ⟨fun q => by omega, fun q => by omega⟩, ⟨fun q => by omega, fun q => by omega⟩⟩
  · exact ⟨⟨fun q => by omega, fun q => by omega⟩, ⟨fun q => by omega, fun q => by omega⟩, ⟨fun q => by omega, fun q => by omega⟩⟩
  · exact ⟨⟨fun q => by omega, fun q => by omega⟩, ⟨fun q => by omega, fun q => by omega⟩, ⟨fun q => by omega, fun q => by omega⟩⟩
  · have := kwF_in.1 g2
    exact ⟨⟨fun q => by omega, fun q => by omega⟩, ⟨fun q => by omega, fun q => by omega⟩, ⟨fun q => by omega, fun q => by omega⟩⟩
  · exact ⟨⟨fun q => by omega, fun q => by omega⟩, ⟨fun q => by omega, fun q => by omega⟩, ⟨fun q => by omega, fun q => by omega⟩⟩
  · have := sgn_rng g3
    exact ⟨⟨fun q => by omega, fun q => by omega⟩, ⟨fun q => by omega, fun q => by omega⟩, ⟨fun q => by omega, fun q => by omega⟩⟩
/-- a fault that is told -/
def FtM (f : Int × Int) (m : MM) : Prop := m 70 4 = f.1 ∧ m 70 5 = f.2 ∧ f.1 ≠ 0
theorem FlM.ft {x k : Int} (h : FlM x k m m') (h0 : m 70 4 = 0) (hx : x ≠ 0) : FtM (x, k) m' ∧ Fro 70 [] [4, 5] m m' := by
  have e := h.1 (by omega)
  refine ⟨⟨by rw [e, up_off (by decide), up_at], by rw [e, up_at], hx⟩, fun b _ hb => by rw [e, up_ne hb, up_ne hb], fun i hi => ?_⟩
  have i4 : i ≠ 4 := fun q => hi (by rw [q]; decide)
  have i5 : i ≠ 5 := fun q => hi (by rw [q]; decide)
  rw [e, up_off i5, up_off i4]
theorem bdF_ne : (bdF T N p).1 ≠ 0 ∧ (kd T N p ≠ 1 → bdF T N p = (2, plc T N p)) := by
  unfold bdF
  refine ⟨?_, fun h => by rw [if_neg h]⟩
  show (if kd T N p = 1 then (1 : Int) else 2) ≠ 0
  split <;> decide
theorem TpM.mis (h : TpM T N p m) (h0 : m 70 4 = 0) (g : FlM (if m 70 8 = 1 then 1 else 2) (m 70 6) m m') : FtM (bdF T N p) m' ∧ Fro 70 [] [4, 5] m m' := by
  have e : ((if m 70 8 = 1 then 1 else 2), m 70 6) = bdF T N p := by
    unfold bdF
    rw [h.at]
    by_cases q : kd T N p = 1
    · rw [if_pos q, if_pos (h.bad.1.mpr q)]
    · rw [if_neg q, if_neg (fun r => q (h.bad.1.mp r))]
  have := g.ft h0 (by split <;> decide)
  rw [e] at this
  exact this
end AtM
