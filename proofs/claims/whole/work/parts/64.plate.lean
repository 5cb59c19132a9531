/-- what plate answers -/
def plV (n : Nat) (D : Int → Int) (W : Int → Int → Int) (br g : Int → Int) (x y : Int) : Int :=
  if In n x then (if y = 0 then g x else if y = 1 then br x else if y = 2 then D x else if y = 3 then bs n (fun i => decide (0 < W x i)) else -1) else -1
/-- what wide answers -/
def wiV (n : Nat) (W : Int → Int → Int) (x y : Int) : Int := if In n x ∧ In n y then W x y else -1
section Plate
variable {l : Launch} {G : GT} {d : Nat} {m : MM} {b : Nat} {n : Nat} {D : Int → Int} {W : Int → Int → Int} {br : Int → Int}
theorem c_plateX (B : BW n D W br) (X : CX n D W br b m) {x y : Int} : CI l G Y_S_plate (d + 3) [.inr (.inr 0), .inl x, .inl y] m (fun z m' => z = plV n D W br (m 25) x y ∧ m = m') := by
  have hn5 := B.1
  obtain ⟨hb, h5, hX⟩ := X
  refine e_S_plate x y (fun _ _ _ => ⟨b, h5, hb, d, _, by omega, c_has hb, fun z m1 hz _ _ => ?_⟩)
  obtain ⟨rfl, rfl⟩ := hz
  rw [hX.1]
  by_cases h : In n x
  · have hx5 : 0 ≤ x ∧ x < 5 := by omega
    have hp : plV n D W br (m 25) x y = (if y = 0 then m 25 x else if y = 1 then br x else if y = 2 then D x else if y = 3 then bs n (fun i => decide (0 < W x i)) else -1) := if_pos h
    rw [if_pos h, hp]
    refine ⟨fun _ => ⟨fun c => ?_, fun c => ?_, fun c => ?_, fun c => ?_, fun c0 c1 c2 c3 => ?_⟩, fun c => absurd (by decide) c⟩
    · exact ⟨by omega, by rw [if_pos c], rfl⟩
    · exact ⟨b, h5, hb, hx5, by rw [if_neg (by omega), if_pos c]; exact hX.2.2.1 x h, rfl⟩
    · exact ⟨b, h5, hb, hx5, by rw [if_neg (by omega), if_neg (by omega), if_pos c]; exact hX.2.1 x h, rfl⟩
    · refine ⟨b, h5, hb, d + 2, _, by omega, c_joinedTo hb hn5 hX h, fun z m1 hz _ _ => ?_⟩
      rw [if_neg (by omega), if_neg (by omega), if_neg (by omega), if_pos c]
      exact hz
    · rw [if_neg c0, if_neg c1, if_neg c2, if_neg c3]
      exact ⟨rfl, rfl⟩
  · have hp : plV n D W br (m 25) x y = -1 := if_neg h
    rw [if_neg h, hp]
    exact ⟨fun c => absurd rfl c, fun _ => ⟨rfl, rfl⟩⟩
theorem c_wideX (B : BW n D W br) (X : CX n D W br b m) {x y : Int} : CI l G Y_S_wide (d + 2) [.inr (.inr 0), .inl x, .inl y] m (fun z m' => z = wiV n W x y ∧ m = m') := by
  have hn5 := B.1
  obtain ⟨hb, h5, hX⟩ := X
  refine e_S_wide x y (fun _ _ _ => ⟨b, h5, hb, d, _, by omega, c_has hb, fun z m1 hz _ _ => ?_⟩)
  obtain ⟨rfl, rfl⟩ := hz
  rw [hX.1]
  by_cases h : In n x
  · rw [if_pos h]
    refine ⟨fun c => absurd c (by decide), fun _ => ⟨b, h5, hb, d, _, by omega, c_has hb, fun z m1 hz _ _ => ?_⟩⟩
    obtain ⟨rfl, rfl⟩ := hz
    rw [hX.1]
    by_cases h2 : In n y
    · have hp : wiV n W x y = W x y := if_pos ⟨h, h2⟩
      rw [if_pos h2, hp]
      refine ⟨fun _ => ⟨b, h5, hb, d + 1, _, by omega, c_width hb hn5 hX, fun z m1 hz _ _ => ?_⟩, fun c => absurd (by decide) c⟩
      rw [if_pos ⟨h, h2⟩] at hz
      exact hz
    · have hp : wiV n W x y = -1 := if_neg (fun q => h2 q.2)
      rw [if_neg h2, hp]
      exact ⟨fun c => absurd rfl c, fun _ => ⟨rfl, rfl⟩⟩
  · have hp : wiV n W x y = -1 := if_neg (fun q => h q.1)
    rw [if_neg h, hp]
    exact ⟨fun _ => ⟨rfl, rfl⟩, fun c => absurd rfl c⟩
theorem c_joinedToM (B : BW n D W br) (X : BM n D W br m) {x : Int} (hx : In n x) : CI l G Y_M_joinedTo (d + 1) [.inr (.inr 70), .inl x] m (fun z m' => z = bs n (fun i => decide (0 < W x i)) ∧ m = m') := by
  have hn5 := B.1
  refine e_M_joinedTo x (fun _ _ => ?_)
  have loop : ∀ (j k : Nat), k + j = n → Wq l G false Y_M_joinedTo (d + 1) (QI fun z m' => z = bs n (fun i => decide (0 < W x i)) ∧ m = m') 4 [(0, .inr (.inr 70)), (1, .inl x), (2, .inl (bs k (fun i => decide (0 < W x i)))), (3, .inl k)] [] m := by
    intro j
    induction j with
    | zero =>
      intro k hk
      refine s_M_joinedTo_4 x _ k (fun _ _ _ _ => ⟨d, _, Nat.lt_succ_self d, c_lots X, fun z m1 hz _ _ => ?_⟩)
      obtain ⟨rfl, rfl⟩ := hz
      exact ⟨fun _ => ⟨by rw [show k = n by omega], rfl⟩, fun c => absurd (show (k : Int) ≥ n by omega) c⟩
    | succ j ih =>
      intro k hk
      have hi : In n (k : Int) := by omega
      refine s_M_joinedTo_4 x _ k (fun _ _ _ _ => ⟨d, _, Nat.lt_succ_self d, c_lots X, fun z m1 hz _ _ => ?_⟩)
      obtain ⟨rfl, rfl⟩ := hz
      refine ⟨fun c => absurd c (by omega), fun _ => ⟨d, _, Nat.lt_succ_self d, c_wideOf hn5 X hx hi, fun z m1 hz _ _ => ?_⟩⟩
      obtain ⟨rfl, rfl⟩ := hz
      refine ⟨fun c => ⟨by omega, ?_⟩, fun c => ⟨by omega, ?_⟩⟩
      · have := ih (k + 1) (by omega)
        rw [← bs_no (k := k) (by simp only [decide_eq_true_eq]; omega)] at this
        exact this
      · rw [bs_yes (k := k) (by omega) (by simp only [decide_eq_true_eq]; omega)]
        exact ih (k + 1) (by omega)
  exact loop n 0 (by omega)
theorem c_plateM (B : BW n D W br) (X : BM n D W br m) {x y : Int} : CI l G Y_M_plate (d + 2) [.inr (.inr 70), .inl x, .inl y] m (fun z m' => z = plV n D W br (m 90) x y ∧ m = m') := by
  have hn5 := B.1
  refine e_M_plate x y (fun _ _ _ => ⟨d + 1, _, by omega, c_isPlate B.1 X, fun z m1 hz _ _ => ?_⟩)
  obtain ⟨rfl, rfl⟩ := hz
  by_cases h : In n x
  · have hx5 : 0 ≤ x ∧ x < 5 := by omega
    have hp : plV n D W br (m 90) x y = (if y = 0 then m 90 x else if y = 1 then br x else if y = 2 then D x else if y = 3 then bs n (fun i => decide (0 < W x i)) else -1) := if_pos h
    rw [if_pos h, hp]
    refine ⟨fun _ => ⟨fun c => ?_, fun c => ?_, fun c => ?_, fun c => ?_, fun c0 c1 c2 c3 => ?_⟩, fun c => absurd (by decide) c⟩
    · rw [Int.zero_add]
      exact ⟨by omega, by omega, by rw [if_pos c], rfl⟩
    · refine ⟨d, _, by omega, c_brimOf hn5 X h, fun z m1 hz _ _ => ?_⟩
      rw [if_neg (by omega), if_pos c]
      exact hz
    · refine ⟨d, _, by omega, c_drainOf hn5 X h, fun z m1 hz _ _ => ?_⟩
      rw [if_neg (by omega), if_neg (by omega), if_pos c]
      exact hz
    · refine ⟨d + 1, _, by omega, c_joinedToM B X h, fun z m1 hz _ _ => ?_⟩
      rw [if_neg (by omega), if_neg (by omega), if_neg (by omega), if_pos c]
      exact hz
    · rw [if_neg c0, if_neg c1, if_neg c2, if_neg c3]
      exact ⟨rfl, rfl⟩
  · have hp : plV n D W br (m 90) x y = -1 := if_neg h
    rw [if_neg h, hp]
    exact ⟨fun c => absurd rfl c, fun _ => ⟨rfl, rfl⟩⟩
theorem c_wideM (B : BW n D W br) (X : BM n D W br m) {x y : Int} : CI l G Y_M_wide (d + 2) [.inr (.inr 70), .inl x, .inl y] m (fun z m' => z = wiV n W x y ∧ m = m') := by
  have hn5 := B.1
  refine e_M_wide x y (fun _ _ _ => ⟨d + 1, _, by omega, c_isPlate B.1 X, fun z m1 hz _ _ => ?_⟩)
  obtain ⟨rfl, rfl⟩ := hz
  by_cases h : In n x
  · rw [if_pos h]
    refine ⟨fun c => absurd c (by decide), fun _ => ⟨d + 1, _, by omega, c_isPlate B.1 X, fun z m1 hz _ _ => ?_⟩⟩
    obtain ⟨rfl, rfl⟩ := hz
    by_cases h2 : In n y
    · have hp : wiV n W x y = W x y := if_pos ⟨h, h2⟩
      rw [if_pos h2, hp]
      exact ⟨fun c => absurd c (by decide), fun _ => ⟨d, _, by omega, c_wideOf hn5 X h h2, fun z m1 hz _ _ => hz⟩⟩
    · have hp : wiV n W x y = -1 := if_neg (fun q => h2 q.2)
      rw [if_neg h2, hp]
      exact ⟨fun _ => ⟨rfl, rfl⟩, fun c => absurd rfl c⟩
  · have hp : wiV n W x y = -1 := if_neg (fun q => h q.1)
    rw [if_neg h, hp]
    exact ⟨fun _ => ⟨rfl, rfl⟩, fun c => absurd rfl c⟩
end Plate
