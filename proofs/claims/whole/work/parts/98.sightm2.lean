section SightM2
variable {l : Launch} {G : GT} {d : Nat} {m : MM} {b : Nat} {n : Nat} {D : Int → Int} {W : Int → Int → Int} {br hd : Int → Int}
theorem c_mostBy (hn : n ≤ 5) (S : SgW n (m 70 60) (m 103) (m 105) (m 107)) {k : Int} {F : Int → Bool} (hF : (fun v => ftk (fun v p => m 102 (5 * v + p)) (m 103) (m 104) (m 105) (m 106) (m 107) k v (m 70 60).toNat) = F) {p : Int} (hp : 0 ≤ p ∧ p < 5) (hE : ∀ v, 0 ≤ v → v < 31 → 0 ≤ m 102 (5 * v + p) ∧ m 102 (5 * v + p) < 10) : CI l G Y_M_mostBy (d + 1) [.inr (.inr 70), .inl p, .inl k] m (fun z m' => Fr [108] m m' ∧ z = mF F (fun v p => m 102 (5 * v + p)) p) := by
  refine e_M_mostBy p k (fun _ _ _ => ?_)
  have loop : ∀ (j t : Nat) (m1 : MM), t + j = 31 → Fr [108] m m1 → (∀ x, 0 ≤ x → x < 10 → m1 108 x = tal F (fun v => m 102 (5 * v + p)) t x) →
      Wq l G false Y_M_mostBy (d + 1) (QI fun z m' => Fr [108] m m' ∧ z = mF F (fun v p => m 102 (5 * v + p)) p) 26 [(0, .inr (.inr 70)), (1, .inl p), (2, .inl k), (3, .inl (mst F (fun v => m 102 (5 * v + p)) t)), (4, .inl (t : Int))] [] m1 := by
    intro j
    induction j with
    | zero =>
      intro t m1 htj f hv
      have e : t = 31 := by omega
      subst e
      exact s_M_mostBy_26 _ _ _ _ (fun _ _ _ _ _ => ⟨fun _ => ⟨f, rfl⟩, fun c => absurd (by decide) c⟩)
    | succ j ih =>
      intro t m1 htj f hv
      have hEt := hE t (by omega) (by omega)
      have S1 : SgW n (m1 70 60) (m1 103) (m1 105) (m1 107) := by rw [f 70 (by decide), f 103 (by decide), f 105 (by decide), f 107 (by decide)]; exact S
      refine s_M_mostBy_26 _ _ _ _ (fun _ _ _ _ _ => ⟨fun c => absurd c (by omega), fun _ => ⟨d, _, by omega, c_doesFit hn S1 (by omega), fun z m2 hz _ _ => ?_⟩⟩)
      obtain ⟨hz, rfl⟩ := hz
      rw [f 70 (by decide), f 102 (by decide), f 103 (by decide), f 104 (by decide), f 105 (by decide), f 106 (by decide), f 107 (by decide)] at hz
      have hz2 : z = if F (t : Int) = true then 1 else 0 := by rw [hz, ← hF]
      rw [hz2, f 102 (by decide)]
      cases hFt : F (t : Int) with
      | false =>
        have em : mst F (fun v => m 102 (5 * v + p)) (t + 1) = mst F (fun v => m 102 (5 * v + p)) t := by
          show (if F t = true then _ else _) = _
          rw [hFt, if_neg (by decide)]
        have et : ∀ x, tal F (fun v => m 102 (5 * v + p)) (t + 1) x = tal F (fun v => m 102 (5 * v + p)) t x := fun x => by
          show tal F _ t x + (if F t = true ∧ _ then 1 else 0) = _
          rw [hFt, if_neg (fun q => by cases q.1), Int.add_zero]
        refine ⟨fun c => absurd rfl c, fun _ => ⟨by omega, ?_⟩⟩
        rw [← em]
        exact ih (t + 1) m1 (by omega) f (fun x x0 x1 => by rw [et x]; exact hv x x0 x1)
      | true =>
        have hv1 := hv _ hEt.1 hEt.2
        have hr1 := tal_rng F (fun v => m 102 (5 * v + p)) t (m 102 (5 * (t : Int) + p))
        have hm1 := mst_rng F (fun v => m 102 (5 * v + p)) t
        have et : ∀ x, tal F (fun v => m 102 (5 * v + p)) (t + 1) x = tal F (fun v => m 102 (5 * v + p)) t x + (if m 102 (5 * (t : Int) + p) = x then 1 else 0) := fun x => by
          show tal F _ t x + (if F t = true ∧ m 102 (5 * (t : Int) + p) = x then 1 else 0) = _
          rw [hFt]
          by_cases q : m 102 (5 * (t : Int) + p) = x
          · rw [if_pos ⟨rfl, q⟩, if_pos q]
          · rw [if_neg (fun r => q r.2), if_neg q]
        have em : mst F (fun v => m 102 (5 * v + p)) (t + 1) = max (mst F (fun v => m 102 (5 * v + p)) t) (tal F (fun v => m 102 (5 * v + p)) t (m 102 (5 * (t : Int) + p)) + 1) := by
          show (if F t = true then max _ (tal F _ (t + 1) (m 102 (5 * (t : Int) + p))) else _) = _
          rw [hFt, if_pos rfl, et, if_pos rfl]
        rw [hv1]
        refine ⟨fun _ => ⟨by omega, by omega, by omega, hEt, by omega, hEt, ?_⟩, fun c => absurd (by decide) c⟩
        rintro m2 rfl
        rw [up_at]
        have hnx : ∀ x, 0 ≤ x → x < 10 → up m1 108 (m 102 (5 * (t : Int) + p)) (tal F (fun v => m 102 (5 * v + p)) t (m 102 (5 * (t : Int) + p)) + 1) 108 x = tal F (fun v => m 102 (5 * v + p)) (t + 1) x := fun x x0 x1 => by
          rw [up_row, et x]
          by_cases q : x = m 102 (5 * (t : Int) + p)
          · rw [if_pos q, if_pos q.symm, q]
          · rw [if_neg q, if_neg (fun r => q r.symm), Int.add_zero]
            exact hv x x0 x1
        have nxt := ih (t + 1) _ (by omega) (Fr_up f (by simp) : Fr [108] m (up m1 108 (m 102 (5 * (t : Int) + p)) (tal F (fun v => m 102 (5 * v + p)) t (m 102 (5 * (t : Int) + p)) + 1))) hnx
        rw [em] at nxt
        refine ⟨hEt, fun c => ⟨by omega, ?_⟩, fun c => ⟨hEt, by omega, ?_⟩⟩
        · rw [show max (mst F (fun v => m 102 (5 * v + p)) t) (tal F (fun v => m 102 (5 * v + p)) t (m 102 (5 * (t : Int) + p)) + 1) = mst F (fun v => m 102 (5 * v + p)) t by omega] at nxt
          exact nxt
        · rw [show max (mst F (fun v => m 102 (5 * v + p)) t) (tal F (fun v => m 102 (5 * v + p)) t (m 102 (5 * (t : Int) + p)) + 1) = tal F (fun v => m 102 (5 * v + p)) t (m 102 (5 * (t : Int) + p)) + 1 by omega] at nxt
          exact nxt
  have clear : ∀ (j : Nat) (i : Int) (m1 : MM), i + j = 10 → 0 ≤ i → Fr [108] m m1 → (∀ x, 0 ≤ x → x < i → m1 108 x = 0) →
      Wq l G false Y_M_mostBy (d + 1) (QI fun z m' => Fr [108] m m' ∧ z = mF F (fun v p => m 102 (5 * v + p)) p) 2 [(0, .inr (.inr 70)), (1, .inl p), (2, .inl k), (3, .inl i)] [] m1 := by
    intro j
    induction j with
    | zero =>
      intro i m1 hij i0 f hv
      exact s_M_mostBy_2 _ _ _ (fun _ _ _ _ => ⟨fun _ => loop 31 0 m1 (by omega) f (fun x x0 x1 => hv x x0 (by omega)), fun c => absurd (show i ≥ 10 by omega) c⟩)
    | succ j ih =>
      intro i m1 hij i0 f hv
      refine s_M_mostBy_2 _ _ _ (fun _ _ _ _ => ⟨fun c => absurd c (by omega), fun _ => ⟨by omega, ?_⟩⟩)
      rintro m2 rfl
      refine ⟨by omega, ih (i + 1) _ (by omega) (by omega) (Fr_up f (by simp)) (fun x x0 x1 => ?_)⟩
      rw [up_row]
      by_cases e : x = i
      · rw [if_pos e]
      · rw [if_neg e]; exact hv x x0 (by omega)
  exact clear 10 0 m (by omega) (by omega) Fr.rf (fun x x0 x1 => by omega)
theorem c_askM (B : BW n D W br) (X : BM n D W br m) (S : SgM n hd m) {x k : Int} : CI l G Y_M_ask (d + 5) [.inr (.inr 70), .inl x, .inl k] m (fun z m' => Fro 70 [93, 94, 102, 108] [41] m m' ∧ ∃ E, ((0 ≤ x ∧ x ≤ 1) ∧ n ≠ 0 → EnR n W br hd E) ∧ z = asV n (fun v => ftk E (m 103) (m 104) (m 105) (m 106) (m 107) k v (m 70 60).toNat) E x) := by
  have hn5 := B.1
  have no : ∀ E, ¬ ((0 ≤ x ∧ x ≤ 1) ∧ n ≠ 0 ∧ cntF (fun v => ftk E (m 103) (m 104) (m 105) (m 106) (m 107) k v (m 70 60).toNat) 31 ≠ 0) → -1 = asV n (fun v => ftk E (m 103) (m 104) (m 105) (m 106) (m 107) k v (m 70 60).toNat) E x := fun E q => by
    unfold asV
    rw [if_neg q]
  refine e_M_ask x k (fun _ _ _ => ⟨d, _, by omega, c_isIn, fun z m1 hz _ _ => ?_⟩)
  obtain ⟨rfl, rfl⟩ := hz
  by_cases hx : 0 ≤ x ∧ x ≤ 1
  · rw [if_pos hx]
    refine ⟨fun c => absurd c (by decide), fun _ => ⟨d + 4, _, by omega, c_fitsM B X S, fun z m1 h1 _ _ => ?_⟩⟩
    obtain ⟨f1, hE, hz⟩ := h1
    have S1 := S.fro f1 (by decide) (by decide) (by decide) (by decide) (by decide) (by decide)
    have X1 := X.fro f1 (by decide) (by decide) (by decide) (by decide) (by decide)
    generalize hF : (fun v => ftk (fun v p => m1 102 (5 * v + p)) (m 103) (m 104) (m 105) (m 106) (m 107) k v (m 70 60).toNat) = F at hz
    unfold fiV at hz
    by_cases hn0 : n = 0
    · rw [if_pos hn0] at hz
      exact ⟨fun q => absurd hz q, fun _ => ⟨f1.mono (by simp) (by simp), fun v p => m1 102 (5 * v + p), fun q => absurd hn0 q.2, no _ (fun q => absurd hn0 q.2.1)⟩⟩
    · rw [if_neg hn0] at hz
      have hE1 := hE (by omega)
      refine ⟨fun q => ?_, fun q => ⟨f1.mono (by simp) (by simp), fun v p => m1 102 (5 * v + p), fun _ => hE1, no _ (fun r => absurd (Classical.not_not.mp q) (by rw [hz, ← hF]; exact r.2.2))⟩⟩
      have good : (0 ≤ x ∧ x ≤ 1) ∧ n ≠ 0 ∧ cntF F 31 ≠ 0 := ⟨hx, hn0, by rw [← hz]; exact q⟩
      generalize hM : mF F (fun v p => m1 102 (5 * v + p)) = M
      have most : ∀ (m2 : MM) (p : Int), Fr [108] m1 m2 → In n p → CI l G Y_M_mostBy (d + 4) [.inr (.inr 70), .inl p, .inl k] m2 (fun z m' => Fr [108] m2 m' ∧ z = M p) := fun m2 p f2 hp => by
        have S2 : SgW n (m2 70 60) (m2 103) (m2 105) (m2 107) := by rw [f2 70 (by decide), f2 103 (by decide), f2 105 (by decide), f2 107 (by decide)]; exact S1.2.2
        have e102 : m2 102 = m1 102 := f2 102 (by decide)
        have := c_mostBy (l := l) (G := G) (d := d + 3) (m := m2) hn5 S2 (k := k) (F := F) (by
          rw [f2 70 (by decide), f2 103 (by decide), f2 104 (by decide), f2 105 (by decide), f2 106 (by decide), f2 107 (by decide), e102, f1.1 103 (by decide) (by decide), f1.1 104 (by decide) (by decide), f1.1 105 (by decide) (by decide), f1.1 106 (by decide) (by decide), f1.1 107 (by decide) (by decide), f1.2 60 (by decide)]
          exact hF) (p := p) ⟨hp.1, by have := hp.2; omega⟩ (fun v v0 v1 => by rw [e102]; exact hE1.rng B S.2.1 (by omega) hp)
        rw [e102, hM] at this
        exact this
      have fr : ∀ m2, Fr [108] m1 m2 → Fro 70 [93, 94, 102, 108] [41] m m2 := fun m2 f2 => (f1.mono (by simp) (by simp)).tr ⟨fun c hc _ => f2 c (by simp only [List.mem_cons, List.not_mem_nil, or_false] at hc ⊢; omega), fun i _ => by rw [f2 70 (by decide)]⟩
      have as : asV n F (fun v p => m1 102 (5 * v + p)) x = if x = 0 then am M n else M (am M n) := by
        unfold asV
        rw [if_pos good, hM]
      rw [← hF] at as
      have loop : ∀ (j t : Nat) (m2 : MM), t + j = n → 1 ≤ t → Fr [108] m1 m2 →
          Wq l G false Y_M_ask (d + 5) (QI fun z m' => Fro 70 [93, 94, 102, 108] [41] m m' ∧ ∃ E, ((0 ≤ x ∧ x ≤ 1) ∧ n ≠ 0 → EnR n W br hd E) ∧ z = asV n (fun v => ftk E (m 103) (m 104) (m 105) (m 106) (m 107) k v (m 70 60).toNat) E x) 24 [(0, .inr (.inr 70)), (1, .inl x), (2, .inl k), (3, .inl (am M t)), (4, .inl (t : Int))] [] m2 := by
        intro j
        induction j with
        | zero =>
          intro t m2 htj t1 f2
          have e : t = n := by omega
          have X2 := X.fro (fr m2 f2) (by decide) (by decide) (by decide) (by decide) (by decide)
          have hin := am_in (f := M) (k := t) t1
          refine s_M_ask_24 _ _ _ _ (fun _ _ _ _ _ => ⟨d, _, by omega, c_lots X2, fun z2 m3 hz2 _ _ => ?_⟩)
          obtain ⟨rfl, rfl⟩ := hz2
          refine ⟨fun _ => ⟨fun c => ⟨d + 4, _, by omega, most m2 (am M t) f2 ⟨hin.1, by omega⟩, fun z3 m4 h4 _ _ => ?_⟩, fun c => ?_⟩, fun c => absurd (show (t : Int) ≥ n by omega) c⟩
          · exact ⟨fr m4 (f2.tr h4.1), fun v p => m1 102 (5 * v + p), fun _ => hE1, by rw [as, if_neg c, h4.2, e]⟩
          · exact ⟨fr m2 f2, fun v p => m1 102 (5 * v + p), fun _ => hE1, by rw [as, if_pos (Classical.not_not.mp c), e]⟩
        | succ j ih =>
          intro t m2 htj t1 f2
          have X2 := X.fro (fr m2 f2) (by decide) (by decide) (by decide) (by decide) (by decide)
          have hin := am_in (f := M) (k := t) t1
          have ea : am M (t + 1) = if M (t : Int) < M (am M t) then (t : Int) else am M t := rfl
          refine s_M_ask_24 _ _ _ _ (fun _ _ _ _ _ => ⟨d, _, by omega, c_lots X2, fun z2 m3 hz2 _ _ => ?_⟩)
          obtain ⟨rfl, rfl⟩ := hz2
          refine ⟨fun c => absurd c (by omega), fun _ => ⟨d + 4, _, by omega, most m2 (t : Int) f2 ⟨by omega, by omega⟩, fun z3 m3 h3 _ _ => ⟨d + 4, _, by omega, most m3 (am M t) (f2.tr h3.1) ⟨hin.1, by omega⟩, fun z4 m4 h4 _ _ => ?_⟩⟩⟩
          have f4 : Fr [108] m1 m4 := (f2.tr h3.1).tr h4.1
          have nx := ih (t + 1) m4 (by omega) (by omega) f4
          rw [ea] at nx
          refine ⟨fun c => ⟨by omega, ?_⟩, fun c => ⟨by omega, ?_⟩⟩
          · rw [if_neg (by rw [← h3.2, ← h4.2]; omega)] at nx
            exact nx
          · rw [if_pos (by rw [← h3.2, ← h4.2]; omega)] at nx
            exact nx
      have a1 : am M 1 = 0 := if_neg (Int.lt_irrefl _)
      have := loop (n - 1) 1 m1 (by omega) (by omega) Fr.rf
      rw [a1] at this
      exact this
  · rw [if_neg hx]
    exact ⟨fun _ => ⟨Fro.rf, fun _ _ => 0, fun q => absurd q.1 hx, no _ (fun q => absurd q.1 hx)⟩, fun c => absurd rfl c⟩
theorem c_seenM (B : BW n D W br) (X : BM n D W br m) (hc : 0 ≤ m 70 60 ∧ m 70 60 ≤ 30) {x y w : Int} (hw : w = 0 ∨ w = 1) : CI l G Y_M_seen (d + 2) [.inr (.inr 70), .inl x, .inl y, .inl w] m (fun z m' => (In n x ∧ (0 ≤ y ∧ y ≤ 99) ∧ m 70 60 < 30 → z = m 70 60 ∧ Fro 70 [103, 104, 105, 106, 107] [60] m m' ∧ m' 70 60 = m 70 60 + 1 ∧ m' 103 = upS (m 103) (m 70 60) x ∧ m' 104 = upS (m 104) (m 70 60) y ∧ m' 105 = upS (m 105) (m 70 60) w ∧ m' 106 = upS (m 106) (m 70 60) (m 70 61) ∧ m' 107 = upS (m 107) (m 70 60) (-1)) ∧ (¬ (In n x ∧ (0 ≤ y ∧ y ≤ 99) ∧ m 70 60 < 30) → z = -1 ∧ m = m')) := by
  have hn5 := B.1
  refine e_M_seen x y w (fun _ _ _ _ => ⟨d + 1, _, by omega, c_isPlate hn5 X, fun z m1 hz _ _ => ?_⟩)
  obtain ⟨rfl, rfl⟩ := hz
  by_cases hx : In n x
  · rw [if_pos hx]
    refine ⟨fun c => absurd c (by decide), fun _ => ⟨d, _, by omega, c_isIn, fun z m1 hz _ _ => ?_⟩⟩
    obtain ⟨rfl, rfl⟩ := hz
    by_cases hy : 0 ≤ y ∧ y ≤ 99
    · rw [if_pos hy]
      refine ⟨fun c => absurd c (by decide), fun _ => ⟨fun c3 => ⟨by omega, ?_⟩, fun c3 => ⟨fun q => absurd (Classical.not_not.mp c3) (by omega), fun _ => ⟨rfl, rfl⟩⟩⟩⟩
      rintro m1 rfl
      rw [up_ne (show (70 : Nat) ≠ 103 by decide)]
      refine ⟨by omega, ?_⟩
      rintro m2 rfl
      rw [up_ne (show (70 : Nat) ≠ 104 by decide), up_ne (show (70 : Nat) ≠ 103 by decide)]
      have leaf : (0 ≤ (m 70 60) ∧ (m 70 60) < (30 : Int)) ∧ (∀ m53, m53 = up (up (up m 103 (m 70 60) x) 104 (m 70 60) y) 105 (m 70 60) w → ((0 ≤ (m53 70 60) ∧ (m53 70 60) < (30 : Int)) ∧ (∀ m58, m58 = up m53 106 (m53 70 60) (m53 70 61) → ((0 ≤ (m58 70 60) ∧ (m58 70 60) < (30 : Int)) ∧ (∀ m63, m63 = up m58 107 (m58 70 60) (-1) → ((inR ((m63 70 60) + 1)) ∧ (∀ m70, m70 = up m63 70 60 ((m63 70 60) + 1) → ((inR ((m70 70 60) - 1)) ∧ ((In n x ∧ (0 ≤ y ∧ y ≤ 99) ∧ m 70 60 < 30 → (m70 70 60) - 1 = m 70 60 ∧ Fro 70 [103, 104, 105, 106, 107] [60] m m70 ∧ m70 70 60 = m 70 60 + 1 ∧ m70 103 = upS (m 103) (m 70 60) x ∧ m70 104 = upS (m 104) (m 70 60) y ∧ m70 105 = upS (m 105) (m 70 60) w ∧ m70 106 = upS (m 106) (m 70 60) (m 70 61) ∧ m70 107 = upS (m 107) (m 70 60) (-1)) ∧ (¬ (In n x ∧ (0 ≤ y ∧ y ≤ 99) ∧ m 70 60 < 30) → (m70 70 60) - 1 = -1 ∧ m = m70)))))))))) := by
        refine ⟨by omega, ?_⟩
        rintro m3 rfl
        rw [up_ne (show (70 : Nat) ≠ 105 by decide), up_ne (show (70 : Nat) ≠ 104 by decide), up_ne (show (70 : Nat) ≠ 103 by decide)]
        refine ⟨by omega, ?_⟩
        rintro m4 rfl
        rw [up_ne (show (70 : Nat) ≠ 106 by decide), up_ne (show (70 : Nat) ≠ 105 by decide), up_ne (show (70 : Nat) ≠ 104 by decide), up_ne (show (70 : Nat) ≠ 103 by decide)]
        refine ⟨by omega, ?_⟩
        rintro m5 rfl
        rw [up_ne (show (70 : Nat) ≠ 107 by decide), up_ne (show (70 : Nat) ≠ 106 by decide), up_ne (show (70 : Nat) ≠ 105 by decide), up_ne (show (70 : Nat) ≠ 104 by decide), up_ne (show (70 : Nat) ≠ 103 by decide)]
        refine ⟨by omega, ?_⟩
        rintro m6 rfl
        rw [up_at]
        refine ⟨by omega, fun _ => ⟨by omega, Fro_upo (Fro_up (Fro_up (Fro_up (Fro_up (Fro_up Fro.rf (by simp) (by decide)) (by simp) (by decide)) (by simp) (by decide)) (by simp) (by decide)) (by simp) (by decide)) (by simp), rfl, ?_, ?_, ?_, ?_, ?_⟩, fun q => absurd ⟨hx, hy, by omega⟩ q⟩
        · rw [up_ne (by decide), up_ne (by decide), up_ne (by decide), up_ne (by decide), up_ne (by decide), up_upS]
        · rw [up_ne (by decide), up_ne (by decide), up_ne (by decide), up_ne (by decide), up_upS, up_ne (by decide)]
        · rw [up_ne (by decide), up_ne (by decide), up_ne (by decide), up_upS, up_ne (by decide), up_ne (by decide)]
        · rw [up_ne (by decide), up_ne (by decide), up_upS, up_ne (by decide), up_ne (by decide), up_ne (by decide)]
        · rw [up_ne (by decide), up_upS, up_ne (by decide), up_ne (by decide), up_ne (by decide), up_ne (by decide)]
      refine ⟨fun c4 => ?_, fun c4 => ?_⟩
      · subst c4; exact leaf
      · have w1 : w = 1 := by omega
        subst w1
        exact leaf
    · rw [if_neg hy]
      exact ⟨fun _ => ⟨fun q => absurd q.2.1 hy, fun _ => ⟨rfl, rfl⟩⟩, fun c => absurd rfl c⟩
  · rw [if_neg hx]
    exact ⟨fun _ => ⟨fun q => absurd q.1 hx, fun _ => ⟨rfl, rfl⟩⟩, fun c => absurd rfl c⟩
end SightM2
