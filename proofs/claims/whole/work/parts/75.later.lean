section Later
variable {l : Launch} {G : GT} {d : Nat} {m : MM} {n : Nat} {D : Int → Int} {W : Int → Int → Int} {br : Int → Int}
theorem c_laterX {x : Int} (ht : 0 ≤ m 55 11 ∧ m 55 11 ≤ 100000) : CI l G Y_S_later (d + 1) [.inr (.inr 0), .inl x] m (fun z m' => (0 ≤ x ∧ x ≤ 1000 ∧ m 55 11 + x ≤ 100000 → z = m 55 11 + x ∧ m' = up m 55 11 (m 55 11 + x)) ∧ (¬ (0 ≤ x ∧ x ≤ 1000 ∧ m 55 11 + x ≤ 100000) → z = -1 ∧ m = m')) := by
  refine e_S_later x (fun _ _ => ⟨d, _, by omega, e_Sights_goLater (P := fun z m' => (0 ≤ x ∧ x ≤ 1000 ∧ m 55 11 + x ≤ 100000 → z = m 55 11 + x ∧ m' = up m 55 11 (m 55 11 + x)) ∧ (¬ (0 ≤ x ∧ x ≤ 1000 ∧ m 55 11 + x ≤ 100000) → z = -1 ∧ m = m')) x (fun _ _ => ⟨fun c => ⟨fun q => absurd q.1 (by omega), fun _ => ⟨rfl, rfl⟩⟩, fun c => ⟨fun c2 => ⟨fun q => absurd q.2.1 (by omega), fun _ => ⟨rfl, rfl⟩⟩, fun c2 => ⟨by omega, fun c3 => ⟨by omega, ?_⟩, fun c3 => ⟨fun q => absurd q.2.2 c3, fun _ => ⟨rfl, rfl⟩⟩⟩⟩⟩), fun z m1 h _ _ => h⟩)
  rintro m2 rfl
  exact ⟨fun _ => ⟨up_at, rfl⟩, fun q => absurd ⟨by omega, by omega, c3⟩ q⟩
theorem c_lyingPut {x : Int} (h0 : 0 ≤ m 67 1 ∧ m 67 1 < 60) : CV l G Y_Lying_put d [.inr (.inr 67), .inl x] m (fun m' => m' = up (up m 68 (m 67 1) x) 67 1 (m 67 1 + 1)) := by
  refine e_Lying_put x (fun _ _ => ⟨fun c => absurd c (by omega), fun _ => ⟨by omega, ?_⟩⟩)
  rintro m1 rfl
  rw [up_ne (by decide)]
  exact ⟨by omega, fun _ e => e⟩
theorem c_leastOver (hn : n ≤ 5) (X : BM n D W br m) : CI l G Y_M_leastOver (d + 1) [.inr (.inr 70)] m (fun z m' => m = m' ∧ ((z = -1 ∧ ∀ i, In n i → m 93 i < br i) ∨ (In n z ∧ br z ≤ m 93 z ∧ ∀ i, 0 ≤ i → i < z → m 93 i < br i))) := by
  refine e_M_leastOver (fun _ => ?_)
  have loop : ∀ (j k : Nat), k + j = n → (∀ i, In k i → m 93 i < br i) → Wq l G false Y_M_leastOver (d + 1) (QI fun z m' => m = m' ∧ ((z = -1 ∧ ∀ i, In n i → m 93 i < br i) ∨ (In n z ∧ br z ≤ m 93 z ∧ ∀ i, 0 ≤ i → i < z → m 93 i < br i))) 2 [(0, .inr (.inr 70)), (1, .inl k)] [] m := by
    intro j
    induction j with
    | zero =>
      intro k hk g
      refine s_M_leastOver_2 k (fun _ _ => ⟨d, _, Nat.lt_succ_self d, c_lots X, fun z m1 hz _ _ => ?_⟩)
      obtain ⟨rfl, rfl⟩ := hz
      exact ⟨fun _ => ⟨rfl, Or.inl ⟨rfl, fun i hi => g i ⟨hi.1, by omega⟩⟩⟩, fun c => absurd (show (k : Int) ≥ n by omega) c⟩
    | succ j ih =>
      intro k hk g
      have hi : In n (k : Int) := by omega
      refine s_M_leastOver_2 k (fun _ _ => ⟨d, _, Nat.lt_succ_self d, c_lots X, fun z m1 hz _ _ => ?_⟩)
      obtain ⟨rfl, rfl⟩ := hz
      refine ⟨fun c => absurd c (by omega), fun _ => ⟨by omega, d, _, Nat.lt_succ_self d, c_brimOf hn X hi, fun z m1 hz _ _ => ?_⟩⟩
      obtain ⟨rfl, rfl⟩ := hz
      refine ⟨fun c => ⟨by omega, ih (k + 1) (by omega) (fun i hi2 => ?_)⟩, fun c => ⟨rfl, Or.inr ⟨hi, by omega, fun i i0 i1 => g i ⟨i0, i1⟩⟩⟩⟩
      by_cases e : i = (k : Int)
      · rw [e]; exact c
      · exact g i ⟨hi2.1, by omega⟩
  exact loop n 0 (by omega) (fun i hi => absurd hi (by omega))
end Later
