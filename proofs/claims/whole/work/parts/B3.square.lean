/-! squareOf of the reference -/
theorem bits_tab : ∀ x : Fin 32, x.val ≠ 0 → (0 ≤ bAnd (x.val : Int) ((x.val : Int) - 1) ∧ bAnd (x.val : Int) ((x.val : Int) - 1) < (x.val : Int)) ∧ bcn (bAnd (x.val : Int) ((x.val : Int) - 1)) + 1 = bcn (x.val : Int) := by decide +kernel
theorem idx {N i j : Int} (hN : 0 ≤ N ∧ N ≤ 5) (hi : 0 ≤ i ∧ i < N) (hj : 0 ≤ j ∧ j < N) : 0 ≤ i * N ∧ i * N ≤ 20 ∧ i * N + j < 25 := by
  have h1 := Int.mul_nonneg hi.1 hN.1
  have h2 := Int.mul_le_mul (show i ≤ N - 1 by omega) (Int.le_refl N) hN.1 (show 0 ≤ N - 1 by omega)
  have h3 : (N - 1) * N ≤ 20 ∧ (N - 1) * N + N ≤ 25 := by
    have : N = 1 ∨ N = 2 ∨ N = 3 ∨ N = 4 ∨ N = 5 := by omega
    rcases this with rfl | rfl | rfl | rfl | rfl <;> decide
  omega
theorem idx_inj {N i j s t : Int} (hj : 0 ≤ j ∧ j < N) (ht : 0 ≤ t ∧ t < N) (h : i * N + j = s * N + t) : i = s ∧ j = t := by
  have hN : 0 < N := by omega
  have e1 : (i * N + j) / N = i := by rw [Int.add_comm, Int.add_mul_ediv_right _ _ (by omega), Int.ediv_eq_zero_of_lt hj.1 hj.2]; omega
  have e2 : (s * N + t) / N = s := by rw [Int.add_comm, Int.add_mul_ediv_right _ _ (by omega), Int.ediv_eq_zero_of_lt ht.1 ht.2]; omega
  have e3 : i = s := by rw [← e1, ← e2, h]
  refine ⟨e3, ?_⟩
  rw [e3] at h
  omega
section Sq
variable {l : Launch} {G : GT} {d : Nat} {m : MM} {n : Nat} {D : Int → Int} {W : Int → Int → Int} {br : Int → Int}
theorem c_bitsOf {x : Int} (hx : 0 ≤ x ∧ x < 32) : CI l G Y_M_bitsOf d [.inl x] m (fun z m' => z = bcn x ∧ m = m') := by
  refine e_M_bitsOf x (fun _ _ => ?_)
  have loop : ∀ (f : Nat) (y k : Int), 0 ≤ y → y ≤ f → y < 32 → 0 ≤ k → k ≤ 32 - y → k + bcn y = bcn x → Wq l G false Y_M_bitsOf d (QI fun z m' => z = bcn x ∧ m = m') 4 [(1, .inl k), (2, .inl y)] [] m := by
    intro f
    induction f with
    | zero =>
      intro y k y0 y1 y2 k0 k1 e
      have hy : y = 0 := by omega
      refine s_M_bitsOf_4 _ _ (fun _ _ _ => ⟨fun _ => ⟨?_, rfl⟩, fun c => absurd hy c⟩)
      rw [hy] at e
      have : bcn 0 = 0 := by decide
      omega
    | succ f ih =>
      intro y k y0 y1 y2 k0 k1 e
      refine s_M_bitsOf_4 _ _ (fun _ _ _ => ⟨fun hy => ⟨?_, rfl⟩, fun c => ⟨by omega, by omega, ?_⟩⟩)
      · rw [hy] at e
        have : bcn 0 = 0 := by decide
        omega
      · obtain ⟨a, rfl⟩ := fin_of (k := 32) y0 y2
        have h := bits_tab a (by omega)
        exact ih _ (k + 1) h.1.1 (by omega) (by omega) (by omega) (by omega) (by omega)
  exact loop 32 x 0 hx.1 (by omega) hx.2 (by omega) (by omega) (by omega)
theorem c_nthOf {x : Int} (hx : 0 ≤ x ∧ x < 32) {j : Nat} (hj : j < cnt x 5) : CI l G Y_M_nthOf (d + 1) [.inl x, .inl (j : Int)] m (fun z m' => z = ((nt x j : Nat) : Int) ∧ m = m') := by
  have hj5 := cnt_le x 5
  refine e_M_nthOf x j (fun _ _ _ => ?_)
  have loop : ∀ (s t : Nat) (y : Int), t + s = 5 → 0 ≤ y → y + cnt x t = j → Wq l G false Y_M_nthOf (d + 1) (QI fun z m' => z = ((nt x j : Nat) : Int) ∧ m = m') 4 [(0, .inl x), (2, .inl y), (3, .inl (t : Int))] [] m := by
    intro s
    induction s with
    | zero =>
      intro t y ht y0 e
      have : t = 5 := by omega
      subst this
      omega
    | succ s ih =>
      intro t y ht y0 e
      have hbit := bit_mb hx (i := (t : Int)) (by omega)
      have hbit' : bt x (t : Int) = if mb x (t : Int) = true then 1 else 0 := hbit
      refine s_M_nthOf_4 _ _ _ (fun _ _ _ _ => ⟨fun c => absurd c (by omega), fun _ => ⟨d, _, by omega, c_bit, fun z m1 hz _ _ => ?_⟩⟩)
      obtain ⟨rfl, rfl⟩ := hz
      rw [hbit']
      cases hmb : mb x (t : Int) with
      | false =>
        have ec : cnt x (t + 1) = cnt x t := by
          show cnt x t + (if mb x (t : Int) = true then 1 else 0) = cnt x t
          rw [hmb]; rfl
        rw [if_neg (show ¬ (false = true) by decide), if_neg (show ¬ (0 : Int) = 1 by decide)]
        exact ⟨fun c => absurd rfl c, fun _ => ⟨by omega, ih (t + 1) y (by omega) y0 (by rw [ec]; exact e)⟩⟩
      | true =>
        have ec : cnt x (t + 1) = cnt x t + 1 := by
          show cnt x t + (if mb x (t : Int) = true then 1 else 0) = cnt x t + 1
          rw [hmb]; rfl
        rw [if_pos rfl, if_pos rfl]
        refine ⟨fun _ => ⟨fun c => ⟨by omega, by omega, ih (t + 1) (y + (-1)) (by omega) (by omega) (by rw [ec]; omega)⟩, fun c => ⟨?_, rfl⟩⟩, fun c => absurd (by decide) c⟩
        have hnt := ((nt_1 hx).2.2.2 t (by omega) hmb).1
        have ej : cnt x t = j := by have := Classical.not_not.mp c; omega
        rw [ej] at hnt
        rw [hnt]
  exact loop 5 0 j (by omega) (by omega) (by show (j : Int) + ((0 : Nat) : Int) = j; omega)
theorem c_entry (B : BW n D W br) (X : BM n D W br m) {p o : Nat} (hp : p < n) (ho : o < n) : CJ l G Y_M_entry (d + 1) [.inr (.inr 70), .inl (p : Int), .inl (o : Int)] m (fun z m' => z = enN W br p o ∧ m = m') := by
  have hn5 := B.1
  have hp2 : In n (p : Int) := ⟨by omega, by omega⟩
  have ho2 : In n (o : Int) := ⟨by omega, by omega⟩
  have hw := B.2.2.1 p o hp2 ho2
  unfold enN
  refine e_M_entry p o (fun _ _ _ => ⟨fun c => ⟨d, _, by omega, c_wideOf hn5 X hp2 ho2, fun z m1 hz _ _ => ?_⟩, fun c => ⟨d, _, by omega, c_brimOf hn5 X hp2, fun z m1 hz _ _ => ?_⟩⟩)
  · obtain ⟨rfl, rfl⟩ := hz
    exact ⟨by omega, by rw [if_neg (by omega)], rfl⟩
  · obtain ⟨rfl, rfl⟩ := hz
    exact ⟨by rw [if_pos (by have := Classical.not_not.mp c; omega)], rfl⟩
theorem c_swapRows {N k w : Int} (hN : 0 ≤ N ∧ N ≤ 5) (hk : 0 ≤ k ∧ k < N) (hw : 0 ≤ w ∧ w < N) (hkw : k ≠ w) : CV l G Y_M_swapRows d [.inr (.inr 70), .inl N, .inl k, .inl w] m (fun m' => Fr [99] m m' ∧ ∀ i t, 0 ≤ i → i < N → 0 ≤ t → t < N → m' 99 (i * N + t) = m 99 ((if i = k then w else if i = w then k else i) * N + t)) := by
  refine e_M_swapRows N k w (fun _ _ _ _ => ?_)
  have loop : ∀ (s : Nat) (x : Int) (m1 : MM), x + s = N → 0 ≤ x → Fr [99] m m1 → (∀ i t, 0 ≤ i → i < N → 0 ≤ t → t < N → m1 99 (i * N + t) = if t < x then m 99 ((if i = k then w else if i = w then k else i) * N + t) else m 99 (i * N + t)) →
      Wq l G false Y_M_swapRows d (QV fun m' => Fr [99] m m' ∧ ∀ i t, 0 ≤ i → i < N → 0 ≤ t → t < N → m' 99 (i * N + t) = m 99 ((if i = k then w else if i = w then k else i) * N + t)) 3 [(0, .inr (.inr 70)), (1, .inl N), (2, .inl k), (3, .inl w), (4, .inl x)] [] m1 := by
    intro s
    induction s with
    | zero =>
      intro x m1 hxs x0 f hv
      exact s_M_swapRows_3 _ _ _ _ (fun _ _ _ _ _ => ⟨fun _ => ⟨f, fun i t i0 i1 t0 t1 => by rw [hv i t i0 i1 t0 t1, if_pos (by omega)]⟩, fun c => absurd (show x ≥ N by omega) c⟩)
    | succ s ih =>
      intro x m1 hxs x0 f hv
      have ik := idx hN hk (j := x) (by omega)
      have iw := idx hN hw (j := x) (by omega)
      have ek := hv k x hk.1 hk.2 x0 (by omega)
      have ew := hv w x hw.1 hw.2 x0 (by omega)
      rw [if_neg (by omega)] at ek ew
      have hne : w * N + x ≠ k * N + x := fun q => hkw ((idx_inj (N := N) (by omega) (by omega) q).1).symm
      refine s_M_swapRows_3 _ _ _ _ (fun _ _ _ _ _ => ⟨fun c => absurd c (by omega), fun _ => ⟨by omega, by omega, by omega, by omega, by omega, by omega, by omega, by omega, by omega, ?_⟩⟩)
      rw [ew, ek]
      rintro m2 rfl
      refine ⟨by omega, by omega, by omega, ?_⟩
      rintro m3 rfl
      refine ⟨by omega, ih (x + 1) _ (by omega) (by omega) (Fr_up (Fr_up f (by simp)) (by simp)) (fun i t i0 i1 t0 t1 => ?_)⟩
      rw [up_row, up_row]
      by_cases e1 : i * N + t = w * N + x
      · obtain ⟨e2, e3⟩ := idx_inj (N := N) (by omega) (by omega) e1
        rw [if_pos e1, if_pos (by omega), if_neg (fun q => hkw (q.symm.trans e2)), if_pos e2, e3]
      · rw [if_neg e1]
        by_cases e2 : i * N + t = k * N + x
        · obtain ⟨e3, e4⟩ := idx_inj (N := N) (by omega) (by omega) e2
          rw [if_pos e2, if_pos (by omega), if_pos e3, e4]
        · rw [if_neg e2, hv i t i0 i1 t0 t1]
          by_cases e3 : t < x
          · rw [if_pos e3, if_pos (show t < x + 1 by omega)]
          · rw [if_neg e3]
            by_cases e4 : t < x + 1
            · have ht : t = x := by omega
              rw [if_pos e4, if_neg (fun q => e2 (by rw [q, ht])), if_neg (fun q => e1 (by rw [q, ht]))]
            · rw [if_neg e4]
  exact loop N.toNat 0 m (by omega) (by omega) Fr.rf (fun i t i0 i1 t0 t1 => by rw [if_neg (by omega)])
theorem c_clear {N k i last : Int} (hN : 0 ≤ N ∧ N ≤ 5) (hk : 0 ≤ k ∧ k < N) (hi : k < i ∧ i < N) (hl : last ≠ 0) (V : Int → Int) (hb : ∀ s t, 0 ≤ s → s < N → 0 ≤ t → t < N → (k ≤ s ∧ k ≤ t) → -12000000 ≤ m 99 (s * N + t) ∧ m 99 (s * N + t) ≤ 12000000)
    (hV : ∀ t, k < t → t < N → (-12000000 ≤ V t ∧ V t ≤ 12000000) ∧ m 99 (i * N + t) * m 99 (k * N + k) - m 99 (i * N + k) * m 99 (k * N + t) = V t * last) :
    CV l G Y_M_clear d [.inr (.inr 70), .inl N, .inl k, .inl i, .inr (.inl last)] m (fun m' => Fr [99] m m' ∧ ∀ s t, 0 ≤ s → s < N → 0 ≤ t → t < N → m' 99 (s * N + t) = if s = i ∧ k < t then V t else m 99 (s * N + t)) := by
  refine e_M_clear N k i last (fun _ _ _ _ _ => ⟨by omega, ?_⟩)
  have loop : ∀ (q : Nat) (x : Int) (m1 : MM), x + q = N → k < x → Fr [99] m m1 → (∀ s t, 0 ≤ s → s < N → 0 ≤ t → t < N → m1 99 (s * N + t) = if s = i ∧ k < t ∧ t < x then V t else m 99 (s * N + t)) →
      Wq l G false Y_M_clear d (QV fun m' => Fr [99] m m' ∧ ∀ s t, 0 ≤ s → s < N → 0 ≤ t → t < N → m' 99 (s * N + t) = if s = i ∧ k < t then V t else m 99 (s * N + t)) 5 [(0, .inr (.inr 70)), (1, .inl N), (2, .inl k), (3, .inl i), (4, .inr (.inl last)), (6, .inl x)] [] m1 := by
    intro q
    induction q with
    | zero =>
      intro x m1 hxq x0 f hv
      refine s_M_clear_5 _ _ _ _ _ (fun _ _ _ _ _ _ => ⟨fun _ => ⟨f, fun s t s0 s1 t0 t1 => ?_⟩, fun c => absurd (show x ≥ N by omega) c⟩)
      rw [hv s t s0 s1 t0 t1]
      by_cases e : s = i ∧ k < t
      · rw [if_pos e, if_pos ⟨e.1, e.2, by omega⟩]
      · rw [if_neg e, if_neg (fun r => e ⟨r.1, r.2.1⟩)]
    | succ q ih =>
      intro x m1 hxq x0 f hv
      have hi0 : 0 ≤ i ∧ i < N := by omega
      have hx0 : 0 ≤ x ∧ x < N := by omega
      have a1 := idx hN hi0 (j := x) hx0
      have a2 := idx hN hk (j := k) hk
      have a3 := idx hN hi0 (j := k) hk
      have a4 := idx hN hk (j := x) hx0
      have e1 := hv i x hi0.1 hi0.2 hx0.1 hx0.2
      have e2 := hv k k hk.1 hk.2 hk.1 hk.2
      have e3 := hv i k hi0.1 hi0.2 hk.1 hk.2
      have e4 := hv k x hk.1 hk.2 hx0.1 hx0.2
      rw [if_neg (by omega)] at e1 e2 e3 e4
      have b1 := hb i x hi0.1 hi0.2 hx0.1 hx0.2 (by omega)
      have b2 := hb k k hk.1 hk.2 hk.1 hk.2 (by omega)
      have b3 := hb i k hi0.1 hi0.2 hk.1 hk.2 (by omega)
      have b4 := hb k x hk.1 hk.2 hx0.1 hx0.2 (by omega)
      have p1 := prod_bound b1 b2 (by decide) (by decide)
      have p2 := prod_bound b3 b4 (by decide) (by decide)
      obtain ⟨v1, v2⟩ := hV x (by omega) (by omega)
      refine s_M_clear_5 _ _ _ _ _ (fun _ _ _ _ _ _ => ⟨fun c => absurd c (by omega), fun _ => ?_⟩)
      rw [e1, e2, e3, e4, v2, Int.mul_tdiv_cancel _ hl]
      rw [v2.symm]
      refine ⟨by omega, by omega, by omega, by omega, by omega, by omega, by omega, by omega, by constructor <;> omega, by omega, by omega, by omega, by omega, by omega, by omega, by constructor <;> omega, by constructor <;> omega, ⟨hl, by constructor <;> omega⟩, by omega, ?_⟩
      rintro m2 rfl
      refine ⟨by omega, ih (x + 1) _ (by omega) (by omega) (Fr_up f (by simp)) (fun s t s0 s1 t0 t1 => ?_)⟩
      rw [up_row]
      by_cases g : s * N + t = i * N + x
      · obtain ⟨g1, g2⟩ := idx_inj (N := N) (by omega) (by omega) g
        rw [if_pos g, if_pos ⟨g1, by omega, by omega⟩, g2]
      · rw [if_neg g, hv s t s0 s1 t0 t1]
        by_cases g2 : s = i ∧ k < t ∧ t < x
        · rw [if_pos g2, if_pos ⟨g2.1, g2.2.1, by omega⟩]
        · rw [if_neg g2, if_neg (fun r => g2 ⟨r.1, r.2.1, by
            have : t ≠ x := fun h => g (by rw [r.1, h])
            omega⟩)]
  exact loop (N - (k + 1)).toNat (k + 1) m (by omega) (by omega) Fr.rf (fun s t s0 s1 t0 t1 => by rw [if_neg (fun r => by omega)])
end Sq
