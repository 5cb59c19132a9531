section Settle
variable {l : Launch} {G : GT} {d : Nat} {m : MM} {b : Nat} {n : Nat} {D : Int → Int} {W : Int → Int → Int} {br : Int → Int}
theorem c_settleX (B : BW n D W br) (X : CX n D W br b m) (hg : ∀ i, In n i → 0 ≤ m 25 i) {N : Int} (hN : sm n (m 25) ≤ N) (hN3 : N ≤ 30000) (hd : 0 ≤ m 25 5 ∧ m 25 5 ≤ 1000000000) (ha : 0 ≤ m 28 1 ∧ m 28 1 ≤ 40) :
    CI l G Y_S_settle (d + 4) [.inr (.inr 0)] m (fun z m' => (bs n (fun i => decide (br i ≤ m 25 i)) ≠ 0 → ∃ u, Stb n W br (m 25) u ∧ KX (stS n D W br (m 25) u) m m' ∧ z = sm n u) ∧ (¬ bs n (fun i => decide (br i ≤ m 25 i)) ≠ 0 → z = -1 ∧ m = m')) := by
  refine e_S_settle (fun _ => ⟨d + 1, _, by omega, c_overX B X, fun z m1 hz _ _ => ?_⟩)
  obtain ⟨rfl, rfl⟩ := hz
  refine ⟨fun c => ⟨d + 3, _, by omega, c_calmDown B X (h := 25) (len := 8) rfl (by decide) (by decide) (Or.inl rfl) hg hN hN3 hd, fun z m1 h1 _ _ => ?_⟩, fun c => ⟨fun q => absurd q c, fun _ => ⟨rfl, rfl⟩⟩⟩
  obtain ⟨f, u, hu, e, hz⟩ := h1
  refine ⟨d + 1, _, by omega, c_keepKX f ha, fun m2 h2 _ => ⟨fun _ => ⟨u, hu, ?_, hz⟩, fun q => absurd c q⟩⟩
  rw [e] at h2
  exact h2
/-- keepAct, then now is laid down, and settled, and brought back -/
theorem c_settleM (B : BW n D W br) (X : BM n D W br m) (hg : ∀ i, In n i → 0 ≤ m 90 i) {N : Int} (hN : sm n (m 90) ≤ N) (hN3 : N ≤ 1000000) (hd : 0 ≤ m 90 5 ∧ m 90 5 ≤ 1000000000) (ha : 0 ≤ m 70 45 ∧ m 70 45 ≤ 40) :
    CI l G Y_M_settle (d + 3) [.inr (.inr 70)] m (fun z m' => (bs n (fun i => decide (br i ≤ m 90 i)) ≠ 0 → ∃ u, Stb n W br (m 90) u ∧ KM (stS n D W br (m 90) u) m m' ∧ z = sm n u) ∧ (¬ bs n (fun i => decide (br i ≤ m 90 i)) ≠ 0 → z = -1 ∧ m = m')) := by
  have hn5 := B.1
  refine e_M_settle (fun _ => ⟨d + 1, _, by omega, c_overM B X, fun z m1 hz _ _ => ?_⟩)
  obtain ⟨rfl, rfl⟩ := hz
  refine ⟨fun c => ⟨d, _, by omega, c_keepAct ha, fun m1 h1 _ => ?_⟩, fun c => ⟨fun q => absurd q c, fun _ => ⟨rfl, rfl⟩⟩⟩
  obtain ⟨f1, k1, k2, k3⟩ := h1
  have X1 : BM n D W br m1 := X.fro f1 (by decide) (by decide) (by decide) (by decide) (by decide)
  have a1 : m1 90 = m 90 := f1.1 90 (by decide) (by decide)
  refine ⟨d + 1, _, by omega, c_layNow hn5 X1, fun m2 h2 _ => ?_⟩
  obtain ⟨f2, g2, -⟩ := h2
  have X2 : BM n D W br m2 := X1.fro f2 (by decide) (by decide) (by decide) (by decide) (by decide)
  have a2 : m2 90 = m 90 := (f2.1 90 (by decide) (by decide)).trans a1
  rw [a1] at g2
  refine ⟨d + 2, _, by omega, c_settleHeap B X2 (fun i hi => by rw [g2 i hi]; exact hg i hi) (N := N) (by rw [sm_congr g2]; exact hN) hN3, fun z m3 h3 _ _ => ?_⟩
  obtain ⟨u, hu, ⟨f3, g3, -, -, -, e3⟩, hz⟩ := h3
  have hu2 : Stb n W br (m 90) u := hu.congr g2
  have X3 : BM n D W br m3 := X2.fro f3 (by decide) (by decide) (by decide) (by decide) (by decide)
  have a3 : m3 90 = m 90 := (f3.1 90 (by decide) (by decide)).trans a2
  have hdr := hu2.drain B hg
  refine ⟨d + 1, _, by omega, c_bring hn5 X3 (by rw [a3, e3]; constructor <;> omega), fun m4 h4 _ => ⟨fun _ => ⟨u, hu2, ?_, hz⟩, fun q => absurd c q⟩⟩
  obtain ⟨f4, g4⟩ := h4
  have e70 : m4 70 = m3 70 := f4 70 (by decide)
  have e96 : m4 96 = m1 96 := (f4 96 (by decide)).trans ((f3.1 96 (by decide) (by decide)).trans (f2.1 96 (by decide) (by decide)))
  refine ⟨⟨fun c hc hc2 => ?_, fun i hi => ?_⟩, ?_, ?_, ?_, fun k k0 => ?_⟩
  · simp only [List.mem_cons, List.not_mem_nil, or_false] at hc
    rw [f4 c (by simp only [List.mem_cons, List.not_mem_nil, or_false]; omega), f3.1 c (by simp only [List.mem_cons, List.not_mem_nil, or_false]; omega) hc2, f2.1 c (by simp only [List.mem_cons, List.not_mem_nil, or_false]; omega) hc2, f1.1 c (by simp only [List.mem_cons, List.not_mem_nil, or_false]; omega) hc2]
  · simp only [List.mem_cons, List.not_mem_nil, or_false] at hi
    rw [e70, f3.2 i (by simp only [List.mem_cons, List.not_mem_nil, or_false]; omega), f2.2 i (by simp), f1.2 i (by simp only [List.mem_cons, List.not_mem_nil, or_false]; omega)]
  · funext i
    rw [g4 i]
    unfold stS
    by_cases ci : In n i
    · rw [if_pos ci, if_pos ci, g3 i ci, g2 i ci]
    · rw [if_neg ci, if_neg ci, a3, e3]
  · rw [e70, f3.2 45 (by decide), f2.2 45 (by decide)]; exact k1
  · rw [e70, f3.2 46 (by decide), f2.2 46 (by decide)]; exact k2
  · rw [e96, k3 k, if_pos k0]
end Settle
