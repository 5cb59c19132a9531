section FireM
variable {l : Launch} {G : GT} {d : Nat} {m : MM} {b : Nat} {n : Nat} {D : Int → Int} {W : Int → Int → Int} {br : Int → Int}
theorem c_nextBurnt (B : BW n D W br) (X : BM n D W br m) (p : Int → Bool) (hp : m 70 43 = bs n p) : CI l G Y_M_nextBurnt (d + 1) [.inr (.inr 70)] m (fun z m' => NxB n D W br (m 93) p z ∧ m = m') := by
  have hn5 := B.1
  refine e_M_nextBurnt (fun _ => ?_)
  have loop : ∀ (j k : Nat), k + j = n → (∀ i, In k i → ¬ okB n D W br (m 93) p i) → Wq l G false Y_M_nextBurnt (d + 1) (QI fun z m' => NxB n D W br (m 93) p z ∧ m = m') 2 [(0, .inr (.inr 70)), (1, .inl (k : Int))] [] m := by
    intro j
    induction j with
    | zero =>
      intro k hk hno
      have e : k = n := by omega
      rw [e] at hno
      refine s_M_nextBurnt_2 _ (fun _ _ => ⟨d, _, by omega, c_lots X, fun z m1 hz _ _ => ?_⟩)
      obtain ⟨rfl, rfl⟩ := hz
      exact ⟨fun _ => ⟨Or.inl ⟨rfl, hno⟩, rfl⟩, fun c => absurd (show (k : Int) ≥ n by omega) c⟩
    | succ j ih =>
      intro k hk hno
      have hk2 : In n (k : Int) := by omega
      have hD := B.2.1 k hk2
      have hbr := B.br hk2
      have next : ¬ okB n D W br (m 93) p k → (inR ((k : Int) + 1)) ∧ (Wq l G false Y_M_nextBurnt (d + 1) (QI fun z m' => NxB n D W br (m 93) p z ∧ m = m') 2 [(0, .inr (.inr 70)), (1, .inl ((k : Int) + 1))] [] m) := fun q => ⟨by omega, ih (k + 1) (by omega) (fun i hi => by
        by_cases e : i = (k : Int)
        · rw [e]; exact q
        · exact hno i ⟨hi.1, by have := hi.2; omega⟩)⟩
      refine s_M_nextBurnt_2 _ (fun _ _ => ⟨d, _, by omega, c_lots X, fun z m1 hz _ _ => ?_⟩)
      obtain ⟨rfl, rfl⟩ := hz
      refine ⟨fun c => absurd c (by omega), fun _ => ⟨d, _, by omega, c_drainOf hn5 X hk2, fun z m1 hz _ _ => ?_⟩⟩
      obtain ⟨rfl, rfl⟩ := hz
      have inner : ∀ (s t : Nat), t + s = n → Wq l G false Y_M_nextBurnt (d + 1) (QI fun z m' => NxB n D W br (m 93) p z ∧ m = m') 18 [(0, .inr (.inr 70)), (1, .inl (k : Int)), (2, .inl (D k + wT t W k p)), (3, .inl (t : Int))] [] m := by
        intro s
        induction s with
        | zero =>
          intro t ht
          have e : t = n := by omega
          have hr := wT_rng B hk2 p t (by omega)
          have hbit := (bit_bs hn5 p hk2).2
          refine s_M_nextBurnt_18 _ _ _ (fun _ _ _ _ => ⟨d, _, by omega, c_lots X, fun z m1 hz _ _ => ?_⟩)
          obtain ⟨rfl, rfl⟩ := hz
          refine ⟨fun _ => ⟨d, _, by omega, c_bit, fun z m1 hz _ _ => ?_⟩, fun c => absurd (show (t : Int) ≥ n by omega) c⟩
          obtain ⟨rfl, rfl⟩ := hz
          rw [hp]
          cases hpk : p k with
          | true =>
            rw [if_pos (hbit.mpr hpk)]
            exact ⟨fun _ => next (fun q => by rw [q.1] at hpk; cases hpk), fun c => absurd (by decide) c⟩
          | false =>
            rw [if_neg (fun q => by rw [hbit.mp q] at hpk; cases hpk)]
            refine ⟨fun c => absurd rfl c, fun _ => ⟨by omega, d, _, by omega, c_brimOf hn5 X hk2, fun z m1 hz _ _ => ?_⟩⟩
            obtain ⟨rfl, rfl⟩ := hz
            rw [e] at hr ⊢
            exact ⟨by omega, fun c2 => next (fun q => by have := q.2; omega), fun c2 => ⟨Or.inr ⟨hk2, ⟨hpk, by omega⟩, fun i i0 i1 => hno i ⟨i0, i1⟩⟩, rfl⟩⟩
        | succ s ihs =>
          intro t ht
          have ht2 : In n (t : Int) := by omega
          have hr := wT_rng B hk2 p t (by omega)
          have hw := B.2.2.1 k t hk2 ht2
          have hbit := (bit_bs hn5 p ht2).2
          have nx : wT (t + 1) W k p = wT t W k p + (if p t = true then W k t else 0) := rfl
          have := ihs (t + 1) (by omega)
          rw [nx, ← Int.add_assoc] at this
          refine s_M_nextBurnt_18 _ _ _ (fun _ _ _ _ => ⟨d, _, by omega, c_lots X, fun z m1 hz _ _ => ?_⟩)
          obtain ⟨rfl, rfl⟩ := hz
          refine ⟨fun c => absurd c (by omega), fun _ => ⟨d, _, by omega, c_bit, fun z m1 hz _ _ => ?_⟩⟩
          obtain ⟨rfl, rfl⟩ := hz
          rw [hp]
          cases hpt : p t with
          | false =>
            rw [if_neg (fun q => by rw [hbit.mp q] at hpt; cases hpt)]
            rw [hpt, if_neg (by decide)] at this
            exact ⟨fun _ => ⟨by omega, by omega, this⟩, fun c => absurd rfl c⟩
          | true =>
            rw [if_pos (hbit.mpr hpt)]
            rw [hpt, if_pos rfl] at this
            refine ⟨fun c => absurd c (by decide), fun _ => ⟨d, _, by omega, c_wideOf hn5 X hk2 ht2, fun z m1 hz _ _ => ?_⟩⟩
            obtain ⟨rfl, rfl⟩ := hz
            exact ⟨by omega, by omega, this⟩
      have := inner n 0 (by omega)
      rw [show wT 0 W k p = 0 from rfl, Int.add_zero] at this
      exact this
  exact loop n 0 (by omega) (fun i hi => absurd hi (by intro r; have := r.1; have := r.2; omega))
theorem c_fireM (B : BW n D W br) (X : BM n D W br m) (hg : ∀ i, In n i → 0 ≤ m 90 i) {N : Int} (hN : sm n (m 90) ≤ N) (hN3 : N ≤ 1000000) : CI l G Y_M_fire (d + 4) [.inr (.inr 70)] m (fun z m' => Fro 70 [93, 94, 97] [41, 43, 48] m m' ∧ ∃ (u r : Int → Int) (K : Nat), Stb n W br (m 90) u ∧ (∀ i, In n i → r i = m 90 i - Lp n W br u i) ∧ FiR n D W br r K (m' 97) ∧ m' 70 48 = K ∧ z = K) := by
  have hn5 := B.1
  refine e_M_fire (fun _ m1 h1 => ?_)
  have f1 : Fro 70 [93, 94, 97] [41, 43, 48] m m1 := by rw [h1]; exact Fro_upo Fro.rf (by simp)
  have e48 : m1 70 48 = 0 := by rw [h1]; exact up_at
  have e90 : m1 90 = m 90 := f1.1 90 (by decide) (by decide)
  have X1 := X.fro f1 (by decide) (by decide) (by decide) (by decide) (by decide)
  refine ⟨d + 3, _, by omega, c_layRest B X1 (by rw [e90]; exact hg) (N := N) (by rw [e90]; exact hN) hN3, fun m2 h2 _ => ?_⟩
  unfold RestM at h2
  obtain ⟨f2, u, hu, r2⟩ := h2
  have r2' : ∀ i, In n i → m2 93 i = m 90 i - Lp n W br u i := fun i hi => by
    have := r2.1 i hi
    rw [e90] at this
    exact this
  rw [e90] at hu
  rintro m3 rfl
  have f3 : Fro 70 [93, 94, 97] [41, 43, 48] m (up m2 70 43 0) := Fro_upo (f1.tr (f2.mono (by simp) (by simp))) (by simp)
  have e93 : up m2 70 43 0 93 = m2 93 := up_ne (by decide)
  have e43 : up m2 70 43 0 70 43 = bs n (fun _ => false) := by rw [up_at, bs_none]
  have e483 : up m2 70 43 0 70 48 = 0 := by rw [up_off (by decide), f2.2 48 (by decide)]; exact e48
  generalize up m2 70 43 0 = m3 at f3 e93 e43 e483
  have X3 := X.fro f3 (by decide) (by decide) (by decide) (by decide) (by decide)
  refine ⟨d + 1, _, by omega, c_nextBurnt B X3 (fun _ => false) e43, fun z m4 h4 _ _ => ?_⟩
  obtain ⟨h4, rfl⟩ := h4
  have loop : ∀ (j k : Nat) (z : Int) (m1 : MM), k + j = 6 → Fro 70 [93, 94, 97] [41, 43, 48] m m1 → m1 93 = m2 93 → m1 70 43 = bs n (bB (m1 97) k) → (∀ j : Nat, j < k → In n (m1 97 j) ∧ NxB n D W br (m2 93) (bB (m1 97) j) (m1 97 j)) → m1 70 48 = k → NxB n D W br (m2 93) (bB (m1 97) k) z →
      Wq l G false Y_M_fire (d + 4) (QI fun z m' => Fro 70 [93, 94, 97] [41, 43, 48] m m' ∧ ∃ (u r : Int → Int) (K : Nat), Stb n W br (m 90) u ∧ (∀ i, In n i → r i = m 90 i - Lp n W br u i) ∧ FiR n D W br r K (m' 97) ∧ m' 70 48 = K ∧ z = K) 19 [(0, .inr (.inr 70)), (1, .inl z)] [] m1 := by
    intro j
    induction j with
    | zero =>
      intro k z m1 hkj f e9 e4 ha hk hn
      have := FiR.le ha
      omega
    | succ j ih =>
      intro k z m1 hkj f e9 e4 ha hk hn
      have hle := FiR.le ha
      refine s_M_fire_19 _ (fun _ _ => ⟨fun c => ⟨f, u, m2 93, k, hu, r2', ⟨ha, ?_⟩, hk, hk⟩, fun c => ⟨by omega, ?_⟩⟩)
      · have : z = -1 := by
          rcases hn with ⟨h1, -⟩ | ⟨h1, -⟩
          · exact h1
          · have := h1.1; omega
        rw [← this]; exact hn
      · have hin : In n z := by
          rcases hn with ⟨h1, -⟩ | ⟨h1, -⟩
          · omega
          · exact h1
        rw [hk]
        rintro m5 rfl
        rw [up_ne (show 70 ≠ 97 by decide), hk]
        refine ⟨by omega, ?_⟩
        rintro m6 rfl
        rw [up_off (show (43 : Int) ≠ 48 by decide), up_ne (show 70 ≠ 97 by decide), e4]
        rintro m7 rfl
        have f7 : Fro 70 [93, 94, 97] [41, 43, 48] m (up (up (up m1 97 (k : Int) z) 70 48 ((k : Int) + 1)) 70 43 (bOr (bs n (bB (m1 97) k)) (bShl 1 z))) := Fro_upo (Fro_upo (Fro_up f (by simp) (by decide)) (by simp)) (by simp)
        have e97 : ∀ t, up (up (up m1 97 (k : Int) z) 70 48 ((k : Int) + 1)) 70 43 (bOr (bs n (bB (m1 97) k)) (bShl 1 z)) 97 t = if t = (k : Int) then z else m1 97 t := fun t => by rw [up_ne (by decide), up_ne (by decide), up_row]
        have e937 : up (up (up m1 97 (k : Int) z) 70 48 ((k : Int) + 1)) 70 43 (bOr (bs n (bB (m1 97) k)) (bShl 1 z)) 93 = m2 93 := by rw [up_ne (by decide), up_ne (by decide), up_ne (by decide)]; exact e9
        have e437 : up (up (up m1 97 (k : Int) z) 70 48 ((k : Int) + 1)) 70 43 (bOr (bs n (bB (m1 97) k)) (bShl 1 z)) 70 43 = bOr (bs n (bB (m1 97) k)) (bShl 1 z) := up_at
        have e487 : up (up (up m1 97 (k : Int) z) 70 48 ((k : Int) + 1)) 70 43 (bOr (bs n (bB (m1 97) k)) (bShl 1 z)) 70 48 = (k : Int) + 1 := by rw [up_off (by decide), up_at]
        generalize up (up (up m1 97 (k : Int) z) 70 48 ((k : Int) + 1)) 70 43 (bOr (bs n (bB (m1 97) k)) (bShl 1 z)) = m7 at f7 e97 e937 e437 e487
        have hlow : ∀ t : Nat, t < k → m7 97 t = m1 97 t := fun t ht => by rw [e97, if_neg (by omega)]
        have ek : m7 97 k = z := by rw [e97, if_pos rfl]
        have eb : bB (m7 97) k = bB (m1 97) k := bB_congr hlow
        have ha2 : ∀ t : Nat, t < k + 1 → In n (m7 97 t) ∧ NxB n D W br (m2 93) (bB (m7 97) t) (m7 97 t) := fun t ht => by
          by_cases e : t = k
          · rw [e, ek, eb]; exact ⟨hin, hn⟩
          · rw [hlow t (by omega), bB_congr (fun s hs => hlow s (by omega))]
            exact ha t (by omega)
        have eset : m7 70 43 = bs n (bB (m7 97) (k + 1)) := by
          rw [e437, bs_or1 hn5 _ hin]
          refine bs_congr (fun i _ => ?_)
          show _ = (bB (m7 97) k i || decide (i = m7 97 k))
          rw [eb, ek]
        have X7 := X.fro f7 (by decide) (by decide) (by decide) (by decide) (by decide)
        refine ⟨d + 1, _, by omega, c_nextBurnt B X7 _ eset, fun z2 m8 h8 _ _ => ?_⟩
        obtain ⟨h8, rfl⟩ := h8
        rw [e937] at h8
        exact ih (k + 1) z2 m7 (by omega) f7 e937 eset ha2 (by rw [e487]; rfl) h8
  rw [e93] at h4
  exact loop 6 0 z m3 (by omega) f3 e93 e43 (fun t ht => absurd ht (by omega)) e483 h4
theorem c_comesAgain (B : BW n D W br) (X : BM n D W br m) : CI l G Y_M_comesAgain (d + 2) [.inr (.inr 70)] m (fun z m' => Fro 70 [] [43] m m' ∧ ∃ (K : Nat) (L : Int → Int), FiR n D W br (m 93) K L ∧ z = if K = n then 1 else 0) := by
  have hn5 := B.1
  refine e_M_comesAgain (fun _ m1 h1 => ?_)
  have f1 : Fro 70 [] [43] m m1 := by rw [h1]; exact Fro_upo Fro.rf (by simp)
  have e93 : m1 93 = m 93 := f1.1 93 (by decide) (by decide)
  have e43 : m1 70 43 = bs n (fun _ => false) := by rw [h1, up_at, bs_none]
  have X1 := X.fro f1 (by decide) (by decide) (by decide) (by decide) (by decide)
  refine ⟨d + 1, _, by omega, c_nextBurnt B X1 (fun _ => false) e43, fun z m2 h2 _ _ => ?_⟩
  obtain ⟨h2, rfl⟩ := h2
  rw [e93] at h2
  have loop : ∀ (j k : Nat) (L : Int → Int) (z : Int) (m1 : MM), k + j = 6 → Fro 70 [] [43] m m1 → m1 70 43 = bs n (bB L k) → (∀ j : Nat, j < k → In n (L j) ∧ NxB n D W br (m 93) (bB L j) (L j)) → NxB n D W br (m 93) (bB L k) z →
      Wq l G false Y_M_comesAgain (d + 2) (QI fun z m' => Fro 70 [] [43] m m' ∧ ∃ (K : Nat) (L : Int → Int), FiR n D W br (m 93) K L ∧ z = if K = n then 1 else 0) 10 [(0, .inr (.inr 70)), (1, .inl z)] [] m1 := by
    intro j
    induction j with
    | zero =>
      intro k L z m1 hkj f e4 ha hn
      have := FiR.le ha
      omega
    | succ j ih =>
      intro k L z m1 hkj f e4 ha hn
      have hle := FiR.le ha
      have X2 := X.fro f (by decide) (by decide) (by decide) (by decide) (by decide)
      refine s_M_comesAgain_10 _ (fun _ _ => ⟨fun c => ⟨d, _, by omega, c_lots X2, fun z2 m2 hz _ _ => ?_⟩, fun c => ?_⟩)
      · obtain ⟨rfl, rfl⟩ := hz
        have hz1 : z = -1 := by
          rcases hn with ⟨h1, -⟩ | ⟨h1, -⟩
          · exact h1
          · have := h1.1; omega
        rw [hz1] at hn
        rw [bs_full hn5, e4]
        have hr := bs5_range hn5 (fun _ => true)
        refine ⟨by omega, fun c2 => ⟨f, k, L, ⟨ha, hn⟩, ?_⟩, fun c2 => ⟨f, k, L, ⟨ha, hn⟩, ?_⟩⟩
        · rw [if_neg (fun q => c2 (bs_congr (fun i hi => (FiR.all ha).mpr q i hi)))]
        · rw [if_pos ((FiR.all ha).mp (bs_eq hn5 (Classical.not_not.mp c2)))]
      · have hin : In n z := by
          rcases hn with ⟨h1, -⟩ | ⟨h1, -⟩
          · omega
          · exact h1
        rw [e4]
        rintro m2 rfl
        have f2 : Fro 70 [] [43] m (up m1 70 43 (bOr (bs n (bB L k)) (bShl 1 z))) := Fro_upo f (by simp)
        have e93' : up m1 70 43 (bOr (bs n (bB L k)) (bShl 1 z)) 93 = m 93 := f2.1 93 (by decide) (by decide)
        have e43' : up m1 70 43 (bOr (bs n (bB L k)) (bShl 1 z)) 70 43 = bOr (bs n (bB L k)) (bShl 1 z) := up_at
        generalize up m1 70 43 (bOr (bs n (bB L k)) (bShl 1 z)) = m2 at f2 e93' e43'
        have X3 := X.fro f2 (by decide) (by decide) (by decide) (by decide) (by decide)
        have hlow : ∀ t : Nat, t < k → upS L k z t = L t := fun t ht => by
          show (if (t : Int) = (k : Int) then z else L t) = L t
          rw [if_neg (by omega)]
        have ek : upS L k z k = z := if_pos rfl
        have eb : bB (upS L k z) k = bB L k := bB_congr hlow
        have ha2 : ∀ t : Nat, t < k + 1 → In n (upS L k z t) ∧ NxB n D W br (m 93) (bB (upS L k z) t) (upS L k z t) := fun t ht => by
          by_cases e : t = k
          · rw [e, ek, eb]; exact ⟨hin, hn⟩
          · rw [hlow t (by omega), bB_congr (fun s hs => hlow s (by omega))]
            exact ha t (by omega)
        have eset : m2 70 43 = bs n (bB (upS L k z) (k + 1)) := by
          rw [e43', bs_or1 hn5 _ hin]
          refine bs_congr (fun i _ => ?_)
          show _ = (bB (upS L k z) k i || decide (i = upS L k z k))
          rw [eb, ek]
        refine ⟨d + 1, _, by omega, c_nextBurnt B X3 _ eset, fun z2 m8 h8 _ _ => ?_⟩
        obtain ⟨h8, rfl⟩ := h8
        rw [e93'] at h8
        exact ih (k + 1) (upS L k z) z2 m2 (by omega) f2 eset ha2 h8
  exact loop 6 0 (fun _ => 0) z m1 (by omega) f1 e43 (fun t ht => absurd ht (by omega)) h2
end FireM
