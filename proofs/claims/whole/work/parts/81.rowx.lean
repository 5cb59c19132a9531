section RowX
variable {l : Launch} {G : GT} {d : Nat} {m : MM} {b : Nat} {n : Nat} {D : Int → Int} {W : Int → Int → Int} {br : Int → Int}
theorem gI_succ {g : Int → Int} {k : Nat} (h : ovr n br (gI n W br g k) ≠ 0) (i : Int) : gI n W br g (k + 1) i = gI n W br g k i - Lp n W br (u1 (lsb (ovr n br (gI n W br g k)))) i := by
  show gI n W br g k i - (if ovr n br (gI n W br g k) = 0 then 0 else _) = _
  rw [if_neg h]
theorem gI_step (B : BW n D W br) {g : Int → Int} {k : Nat} (h : ovr n br (gI n W br g k) ≠ 0) (h0 : ∀ i, In n i → 0 ≤ gI n W br g k i) : (∀ i, In n i → 0 ≤ gI n W br g (k + 1) i) ∧ sm n (gI n W br g (k + 1)) ≤ sm n (gI n W br g k) := by
  obtain ⟨hp, ho, -⟩ := bs_lsb B.1 _ h
  rw [decide_eq_true_eq] at ho
  refine ⟨fun i hi => ?_, ?_⟩
  · rw [gI_succ h i]
    show 0 ≤ gI n W br g k i - Lp n W br (u1 (lsb (ovr n br (gI n W br g k)))) i
    have hq := Lp_u1 B hp hi
    have hw := (B.2.2.1 _ i hp hi).1
    have hg := h0 i hi
    unfold ovr
    rw [hq]
    by_cases e : i = lsb (bs n (fun i => decide (br i ≤ gI n W br g k i)))
    · rw [if_pos e]
      rw [← e] at ho hw ⊢
      omega
    · rw [if_neg e]
      omega
  · rw [sm_congr (fun i _ => gI_succ h i), sm_sub, Lp_sum B]
    have := sm_u1 (D := D) hp
    have hD := (B.2.1 _ hp).1
    unfold ovr
    rw [this]
    omega
end RowX
