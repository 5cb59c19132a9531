/-! whether every plate has a way to the drain, by the reference -/
section DrainedM
variable {l : Launch} {G : GT} {d : Nat} {m : MM} {r : Int} {n : Nat} {D : Int → Int} {W : Int → Int → Int}
theorem mb_one {x p : Int} (hx : 0 ≤ x ∧ x < 32) (hp : 0 ≤ p ∧ p < 5) : (0 ≤ bOr x (bShl 1 p) ∧ bOr x (bShl 1 p) < 32) ∧ ∀ j, 0 ≤ j → j < 5 → (mb (bOr x (bShl 1 p)) j = true ↔ (mb x j = true ∨ j = p)) := by
  obtain ⟨h1, h2⟩ := mb_add hx hp (f := mb x) (fun _ _ _ => rfl)
  refine ⟨h1, fun j j0 j1 => ?_⟩
  rw [h2 j j0 j1, Bool.or_eq_true_iff, decide_eq_true_iff]
theorem c_areDrained (hr : m 70 29 = r ∧ 0 ≤ r ∧ r ≤ 1) (hn : m 73 r = n) (B : BV n D W) (hD : ∀ i, In n i → m 81 (5 * r + i) = D i) (hW : ∀ i j, In n i → In n j → m 80 (5 * (5 * r + i) + j) = W i j) : CI l G Y_M_areDrained (d + 1) [.inr (.inr 70)] m (fun z m' => (z = 0 ↔ ¬ ∀ i, In n i → rcb n D W 5 i = true) ∧ m = m') := by
  obtain ⟨hr, hr0, hr1⟩ := hr
  have hn5 := B.1
  have rg : 0 ≤ r ∧ r < 2 := ⟨hr0, by omega⟩
  generalize hQ : (fun (z : Int) (m' : MM) => (z = 0 ↔ ¬ ∀ i, In n i → rcb n D W 5 i = true) ∧ m = m') = Q
  refine e_M_areDrained (fun _ => ?_)
  -- the inmost loop
  have inner : ∀ (t : Nat) (p : Int), In n p → t + 1 ≤ 5 → (∀ x, ((0 ≤ x ∧ x < 32) ∧ (∀ i, 0 ≤ i → i < 5 → mb x i = true → In n i ∧ rcb n D W 5 i = true) ∧ (∀ i, In n i → rcb n D W t i = true → mb x i = true) ∧ ∀ i, In n i → i < p + 1 → rcb n D W (t + 1) i = true → mb x i = true) → Wq l G false Y_M_areDrained (d + 1) (QI Q) 11 [(0, .inr (.inr 70)), (1, .inl x), (2, .inl t), (3, .inl (p + 1))] [] m) → ∀ (s : Nat) (o x : Int), o + s = n → 0 ≤ o → ((0 ≤ x ∧ x < 32) ∧ (∀ i, 0 ≤ i → i < 5 → mb x i = true → In n i ∧ rcb n D W 5 i = true) ∧ (∀ i, In n i → rcb n D W t i = true → mb x i = true) ∧ (∀ i, In n i → i < p → rcb n D W (t + 1) i = true → mb x i = true) ∧ (0 < D p → mb x p = true) ∧ ∀ j, In n j → j < o → rcb n D W t j = true → 0 < W p j → mb x p = true) → Wq l G false Y_M_areDrained (d + 1) (QI Q) 49 [(0, .inr (.inr 70)), (1, .inl x), (2, .inl t), (3, .inl p), (4, .inl o)] [] m := by
    intro t p hp ht nxt s
    induction s with
    | zero =>
      intro o x ho o0 hx
      obtain ⟨x1, x2, x3, x4, x5, x6⟩ := hx
      have nx := nxt x ⟨x1, x2, x3, fun i hi ip g => by
        by_cases e : i = p
        · subst e
          rcases (rcb_step B hi t).mp g with q | q | ⟨j, hj, q1, q2⟩
          · exact x3 i hi q
          · exact x5 q
          · exact x6 j hj (by have := hj.2; omega) q1 q2
        · exact x4 i hi (by omega) g⟩
      clear nxt x2 x3 x4 x5 x6
      refine s_M_areDrained_49 _ _ _ _ (fun _ _ _ _ _ => ?_)
      rw [hr, hn]
      have := hp.2
      exact ⟨rg, fun _ => ⟨by unfold inR; omega, nx⟩, fun c => absurd (show o ≥ (n : Int) by omega) c⟩
    | succ s ih =>
      intro o x ho o0 hx
      have hxx := hx
      obtain ⟨x1, x2, x3, x4, x5, x6⟩ := hx
      have hon : In n o := ⟨o0, by omega⟩
      have p0 := hp.1
      have p1 := hp.2
      have same : (mb x o = true → ¬ 0 < W p o) → Wq l G false Y_M_areDrained (d + 1) (QI Q) 49 [(0, .inr (.inr 70)), (1, .inl x), (2, .inl t), (3, .inl p), (4, .inl (o + 1))] [] m := fun hno => ih (o + 1) x (by omega) (by omega) ⟨x1, x2, x3, x4, x5, fun j hj jo g w => by
        by_cases e : j = o
        · subst e
          exact absurd w (hno (x3 j hj g))
        · exact x6 j hj (by omega) g w⟩
      obtain ⟨y1, y2⟩ := mb_one (p := p) x1 ⟨p0, by omega⟩
      have more : mb x o = true → 0 < W p o → Wq l G false Y_M_areDrained (d + 1) (QI Q) 49 [(0, .inr (.inr 70)), (1, .inl (bOr x (bShl 1 p))), (2, .inl t), (3, .inl p), (4, .inl (o + 1))] [] m := fun ho1 hw => by
        have up1 : ∀ i, 0 ≤ i → i < 5 → mb x i = true → mb (bOr x (bShl 1 p)) i = true := fun i i0 i1 g => (y2 i i0 i1).mpr (Or.inl g)
        have pp : mb (bOr x (bShl 1 p)) p = true := (y2 p p0 (by omega)).mpr (Or.inr rfl)
        refine ih (o + 1) _ (by omega) (by omega) ⟨y1, fun i i0 i1 g => ?_, fun i hi g => up1 i hi.1 (by have := hi.2; omega) (x3 i hi g), fun i hi ip g => up1 i hi.1 (by have := hi.2; omega) (x4 i hi ip g), fun _ => pp, fun _ _ _ _ _ => pp⟩
        rcases (y2 i i0 i1).mp g with q | q
        · exact x2 i i0 i1 q
        · subst q
          refine ⟨hp, rcb_five B hp ((rcb_step B hp 5).mpr (Or.inr (Or.inr ⟨o, hon, (x2 o o0 (by omega) ho1).2, hw⟩)))⟩
      clear nxt x2 x3 x4 x5 x6 ih hxx y2
      refine s_M_areDrained_49 _ _ _ _ (fun _ _ _ _ _ => ?_)
      rw [hr, hn]
      refine ⟨rg, fun c => absurd c (by omega), fun _ => ⟨d, _, by omega, c_bit, fun z m1 hz _ _ => ?_⟩⟩
      obtain ⟨hz, rfl⟩ := hz
      refine ⟨fun c => ⟨by unfold inR; omega, same (fun g => ?_)⟩, fun c => ?_⟩
      · rw [if_pos (mb_bt.mpr g)] at hz; omega
      · have ho1 : mb x o = true := by
          refine mb_bt.mp (Classical.not_not.mp (fun g => c ?_))
          rw [hz, if_neg g]
        rw [hr, hW p o hp hon]
        exact ⟨by unfold inR; omega, by unfold inR; omega, by unfold inR; omega, by unfold inR; omega, by omega, fun c2 => ⟨by unfold inR; omega, same (fun _ => by omega)⟩, fun c2 => ⟨by unfold inR; omega, more ho1 (by omega)⟩⟩
  -- the loop over the plates
  have mid : ∀ (t : Nat), t + 1 ≤ 5 → (∀ x, ((0 ≤ x ∧ x < 32) ∧ (∀ i, 0 ≤ i → i < 5 → mb x i = true → In n i ∧ rcb n D W 5 i = true) ∧ ∀ i, In n i → rcb n D W (t + 1) i = true → mb x i = true) → Wq l G false Y_M_areDrained (d + 1) (QI Q) 4 [(0, .inr (.inr 70)), (1, .inl x), (2, .inl ((t : Int) + 1))] [] m) → ∀ (s : Nat) (p x : Int), p + s = n → 0 ≤ p → ((0 ≤ x ∧ x < 32) ∧ (∀ i, 0 ≤ i → i < 5 → mb x i = true → In n i ∧ rcb n D W 5 i = true) ∧ (∀ i, In n i → rcb n D W t i = true → mb x i = true) ∧ ∀ i, In n i → i < p → rcb n D W (t + 1) i = true → mb x i = true) → Wq l G false Y_M_areDrained (d + 1) (QI Q) 11 [(0, .inr (.inr 70)), (1, .inl x), (2, .inl t), (3, .inl p)] [] m := by
    intro t ht nxt s
    induction s with
    | zero =>
      intro p x hp p0 hx
      obtain ⟨x1, x2, x3, x4⟩ := hx
      have nx := nxt x ⟨x1, x2, fun i hi g => x4 i hi (by have := hi.2; omega) g⟩
      clear nxt x2 x3 x4
      refine s_M_areDrained_11 _ _ _ (fun _ _ _ _ => ?_)
      rw [hr, hn]
      exact ⟨rg, fun _ => ⟨by unfold inR; omega, nx⟩, fun c => absurd (show p ≥ (n : Int) by omega) c⟩
    | succ s ih =>
      intro p x hp p0 hx
      obtain ⟨x1, x2, x3, x4⟩ := hx
      have hpn : In n p := ⟨p0, by omega⟩
      have nx := inner t p hpn ht (fun x hx => ih (p + 1) x (by omega) (by omega) hx) n 0
      obtain ⟨y1, y2⟩ := mb_one (p := p) x1 ⟨p0, by omega⟩
      have c1 : ¬ 0 < D p → Wq l G false Y_M_areDrained (d + 1) (QI Q) 49 [(0, .inr (.inr 70)), (1, .inl x), (2, .inl t), (3, .inl p), (4, .inl 0)] [] m := fun h0 => nx x (by omega) (by omega) ⟨x1, x2, x3, x4, fun q => absurd q h0, fun j hj j0 => by have := hj.1; omega⟩
      have c2 : 0 < D p → Wq l G false Y_M_areDrained (d + 1) (QI Q) 49 [(0, .inr (.inr 70)), (1, .inl (bOr x (bShl 1 p))), (2, .inl t), (3, .inl p), (4, .inl 0)] [] m := fun h0 => by
        have up1 : ∀ i, 0 ≤ i → i < 5 → mb x i = true → mb (bOr x (bShl 1 p)) i = true := fun i i0 i1 g => (y2 i i0 i1).mpr (Or.inl g)
        refine nx _ (by omega) (by omega) ⟨y1, fun i i0 i1 g => ?_, fun i hi g => up1 i hi.1 (by have := hi.2; omega) (x3 i hi g), fun i hi ip g => up1 i hi.1 (by have := hi.2; omega) (x4 i hi ip g), fun _ => (y2 p p0 (by omega)).mpr (Or.inr rfl), fun j hj j0 => by have := hj.1; omega⟩
        rcases (y2 i i0 i1).mp g with q | q
        · exact x2 i i0 i1 q
        · subst q
          exact ⟨hpn, rcb_mono (k := 1) ((rcb_step B hpn 0).mpr (Or.inr (Or.inl h0))) 4⟩
      clear nxt x2 x3 x4 ih nx inner y2
      refine s_M_areDrained_11 _ _ _ (fun _ _ _ _ => ?_)
      rw [hr, hn, hD p hpn]
      exact ⟨rg, fun c => absurd c (by omega), fun _ => ⟨by unfold inR; omega, by unfold inR; omega, by omega, fun c => c1 (by omega), fun c => c2 (by omega)⟩⟩
  -- the rounds
  have out : ∀ (s t : Nat) (x : Int), t + s = 5 → ((0 ≤ x ∧ x < 32) ∧ (∀ i, 0 ≤ i → i < 5 → mb x i = true → In n i ∧ rcb n D W 5 i = true) ∧ ∀ i, In n i → rcb n D W t i = true → mb x i = true) → Wq l G false Y_M_areDrained (d + 1) (QI Q) 4 [(0, .inr (.inr 70)), (1, .inl x), (2, .inl t)] [] m := by
    intro s
    induction s with
    | zero =>
      intro t x ht hx
      have : t = 5 := by omega
      subst this
      obtain ⟨x1, x2, x3⟩ := hx
      have bf := bs_full hn5
      have br := bs_range (fun _ => true)
      have key : x = bShl 1 (n : Int) - 1 ↔ ∀ i, In n i → rcb n D W 5 i = true := by
        rw [bf]
        constructor
        · intro e i hi
          refine (x2 i hi.1 (by have := hi.2; omega) ?_).2
          rw [e, mb_bs hn5 _ hi.1 (by have := hi.2; omega), decide_eq_true hi.2]; rfl
        · intro h
          have hb : 0 ≤ bs n (fun _ => true) ∧ bs n (fun _ => true) < 32 := by
            have h6 : n = 0 ∨ n = 1 ∨ n = 2 ∨ n = 3 ∨ n = 4 ∨ n = 5 := by omega
            rcases h6 with e | e | e | e | e | e <;> rw [e] <;> omega
          refine mb_ext x1 hb (fun i i0 i1 => ?_)
          rw [mb_bs hn5 _ i0 i1, Bool.and_true]
          by_cases c : i < (n : Int)
          · rw [decide_eq_true c]; exact x3 i ⟨i0, c⟩ (h i ⟨i0, c⟩)
          · rw [decide_eq_false c]
            cases e : mb x i with
            | false => rfl
            | true => exact absurd (x2 i i0 i1 e).1.2 c
      have hin : inR (bShl 1 (n : Int) - 1) := by
        rw [bf]
        have h6 : n = 0 ∨ n = 1 ∨ n = 2 ∨ n = 3 ∨ n = 4 ∨ n = 5 := by omega
        unfold inR
        rcases h6 with e | e | e | e | e | e <;> rw [e] <;> omega
      clear x2 x3 inner mid
      refine s_M_areDrained_4 _ _ (fun _ _ _ => ⟨fun _ => ?_, fun c => absurd (by decide) c⟩)
      rw [hr, hn]
      refine ⟨rg, hin, fun c => ?_, fun c => ?_⟩
      · rw [← hQ]
        exact ⟨⟨fun _ g => c (key.mpr g), fun _ => rfl⟩, rfl⟩
      · rw [← hQ]
        exact ⟨⟨fun g => absurd g (by decide), fun g => absurd (key.mp (Classical.not_not.mp c)) g⟩, rfl⟩
    | succ s ih =>
      intro t x ht hx
      obtain ⟨x1, x2, x3⟩ := hx
      have nx := mid t (by omega) (fun x hx => ih (t + 1) x (by omega) hx) n 0 x (by omega) (by omega) ⟨x1, x2, x3, fun i hi i0 => by have := hi.1; omega⟩
      refine s_M_areDrained_4 _ _ (fun _ _ _ => ⟨fun c => ?_, fun _ => nx⟩)
      clear x2 x3 nx ih mid inner
      omega
  refine out 5 0 0 (by omega) ⟨by decide, fun i i0 i1 g => ?_, fun i hi g => by cases g⟩
  exfalso
  have h5 : i = 0 ∨ i = 1 ∨ i = 2 ∨ i = 3 ∨ i = 4 := by omega
  rcases h5 with rfl | rfl | rfl | rfl | rfl <;> exact absurd g (by decide +kernel)
end DrainedM
