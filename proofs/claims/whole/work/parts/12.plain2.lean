section Plain2
variable {l : Launch} {G : GT} {lw : Bool} {Y : YD} {d : Nat} {Q : Option MV → MM → Nat → Prop} {pc pc' : Nat} {lv lv' : List (Nat × MV)} {st st' : List MV} {m : MM}
theorem Wq.iast {a len : Nat} {i z : Int} (hd : decode Y.2.1 pc = .ok (.iastore, 1)) (ha : q_lay a = .inr (0, len)) (h0 : 0 ≤ i) (h1 : i < len)
    (K : ∀ m1, m1 = up m a i z → Wq l G lw Y d Q (pc + 1) lv st m1) : Wq l G lw Y d Q pc lv (.inl z :: .inl i :: .inr (.inr a) :: st) m := Wp.iast hd ha h0 h1 (K _ rfl)
theorem Wq.last {a len : Nat} {i z : Int} (hd : decode Y.2.1 pc = .ok (.lastore, 1)) (ha : q_lay a = .inr (1, len)) (h0 : 0 ≤ i) (h1 : i < len)
    (K : ∀ m1, m1 = up m a i z → Wq l G lw Y d Q (pc + 1) lv st m1) : Wq l G lw Y d Q pc lv (.inr (.inl z) :: .inl i :: .inr (.inr a) :: st) m := Wp.last hd ha h0 h1 (K _ rfl)
theorem Wq.zast {a len : Nat} {i z : Int} (hd : decode Y.2.1 pc = .ok (.bastore, 1)) (ha : q_lay a = .inr (2, len)) (h0 : 0 ≤ i) (h1 : i < len) (hz : z = 0 ∨ z = 1)
    (K : ∀ m1, m1 = up m a i z → Wq l G lw Y d Q (pc + 1) lv st m1) : Wq l G lw Y d Q pc lv (.inl z :: .inl i :: .inr (.inr a) :: st) m := Wp.zast hd ha h0 h1 hz (K _ rfl)
theorem Wq.bast {a len : Nat} {i z : Int} (hd : decode Y.2.1 pc = .ok (.bastore, 1)) (ha : q_lay a = .inr (3, len)) (h0 : 0 ≤ i) (h1 : i < len) (hz : -128 ≤ z ∧ z < 128)
    (K : ∀ m1, m1 = up m a i z → Wq l G lw Y d Q (pc + 1) lv st m1) : Wq l G lw Y d Q pc lv (.inl z :: .inl i :: .inr (.inr a) :: st) m := Wp.bast hd ha h0 h1 hz (K _ rfl)
theorem Wq.putI {a c k idx : Nat} {z : Int} (ki : Int) (hki : (k : Int) = ki) (hd : decode Y.2.1 pc = .ok (.putfield idx, 3)) (hF : q_FL Y.1.cls idx c k) (hfin : ∀ C T N, q_cls[c]? = some (C, T, N) → (T k).2.2.2 = false) (hL : q_lay a = .inl c) (hp : q_pt a k = none) (ht : q_ft c k = 0)
    (K : ∀ m1, m1 = up m a ki z → Wq l G lw Y d Q (pc + 3) lv st m1) : Wq l G lw Y d Q pc lv (.inl z :: .inr (.inr a) :: st) m := Wp.putI hd hF hfin hL hp ht (K _ (by rw [hki]))
theorem Wq.putZ {a c k idx : Nat} {z : Int} (ki : Int) (hki : (k : Int) = ki) (hd : decode Y.2.1 pc = .ok (.putfield idx, 3)) (hF : q_FL Y.1.cls idx c k) (hfin : ∀ C T N, q_cls[c]? = some (C, T, N) → (T k).2.2.2 = false) (hL : q_lay a = .inl c) (hp : q_pt a k = none) (ht : q_ft c k = 3) (hz : z = 0 ∨ z = 1)
    (K : ∀ m1, m1 = up m a ki z → Wq l G lw Y d Q (pc + 3) lv st m1) : Wq l G lw Y d Q pc lv (.inl z :: .inr (.inr a) :: st) m := Wp.putZ hd hF hfin hL hp ht hz (K _ (by rw [hki]))
theorem Wq.putL {a c k idx : Nat} {z : Int} (ki : Int) (hki : (k : Int) = ki) (hd : decode Y.2.1 pc = .ok (.putfield idx, 3)) (hF : q_FL Y.1.cls idx c k) (hfin : ∀ C T N, q_cls[c]? = some (C, T, N) → (T k).2.2.2 = false) (hL : q_lay a = .inl c) (hp : q_pt a k = none) (ht : q_ft c k = 1)
    (K : ∀ m1, m1 = up m a ki z → Wq l G lw Y d Q (pc + 3) lv st m1) : Wq l G lw Y d Q pc lv (.inr (.inl z) :: .inr (.inr a) :: st) m := Wp.putL hd hF hfin hL hp ht (K _ (by rw [hki]))
theorem Wq.putR {a c k idx r : Nat} (ki : Int) (hki : (k : Int) = ki) (hd : decode Y.2.1 pc = .ok (.putfield idx, 3)) (hF : q_FL Y.1.cls idx c k) (hfin : ∀ C T N, q_cls[c]? = some (C, T, N) → (T k).2.2.2 = false) (hL : q_lay a = .inl c) (hp : q_pt a k = none) (ht : q_ft c k = 2)
    (K : ∀ m1, m1 = up m a ki r → Wq l G lw Y d Q (pc + 3) lv st m1) : Wq l G lw Y d Q pc lv (.inr (.inr r) :: .inr (.inr a) :: st) m := Wp.putR hd hF hfin hL hp ht (K _ (by rw [hki]))
theorem Wq.getI {a c k idx : Nat} (ki : Int) (hki : (k : Int) = ki) (hd : decode Y.2.1 pc = .ok (.getfield idx, 3)) (hF : q_FL Y.1.cls idx c k) (hL : q_lay a = .inl c) (ht : q_ft c k = 0 ∨ q_ft c k = 3)
    (K : Wq l G lw Y d Q (pc + 3) lv (.inl (m a ki) :: st) m) : Wq l G lw Y d Q pc lv (.inr (.inr a) :: st) m := Wp.getI hd hF hL (Or.inl rfl) ht (by rw [hki]; exact K)
theorem Wq.getL {a c k idx : Nat} (ki : Int) (hki : (k : Int) = ki) (hd : decode Y.2.1 pc = .ok (.getfield idx, 3)) (hF : q_FL Y.1.cls idx c k) (hL : q_lay a = .inl c) (ht : q_ft c k = 1)
    (K : Wq l G lw Y d Q (pc + 3) lv (.inr (.inl (m a ki)) :: st) m) : Wq l G lw Y d Q pc lv (.inr (.inr a) :: st) m := Wp.getL hd hF hL (Or.inl rfl) ht (by rw [hki]; exact K)
theorem Wq.acopy {a b la lb idx : Nat} {sp dp k : Int} (hd : decode Y.2.1 pc = .ok (.invokestatic idx, 3)) (hl : Cond.methodLink Y.1.cls idx arraycopyName ∈ q_W) (ha : q_lay a = .inr (0, la)) (hb : q_lay b = .inr (0, lb)) (hla : la < 2147483648) (hlb : lb < 2147483648) (hd1 : 1 ≤ d) (hlw : lw = true → d ≤ 400) (hst : (st.map q_cat).sum ≤ 8) (h0 : 0 ≤ sp ∧ 0 ≤ dp ∧ 0 < k ∧ sp + k ≤ la ∧ dp + k ≤ lb)
    (K : ∀ m1, m1 = upC m a b sp dp k → Wq l G lw Y d Q (pc + 3) lv st m1) : Wq l G lw Y d Q pc lv (.inl k :: .inl dp :: .inr (.inr b) :: .inl sp :: .inr (.inr a) :: st) m := Wp.acopy hd hl ha hb h0.1 h0.2.1 h0.2.2.1 h0.2.2.2.1 h0.2.2.2.2 hla hlb hd1 hlw hst (K _ rfl)
theorem tdiv_pos {x y : Int} (hx : inR x) (h : 0 < y) : inR (x.tdiv y) := by
  have h1 := Int.natAbs_tdiv_le_natAbs x y
  rcases Int.le_total 0 x with h2 | h2
  · have := Int.tdiv_nonneg h2 (Int.le_of_lt h)
    omega
  · have h3 := Int.tdiv_nonneg (a := -x) (b := y) (by omega) (Int.le_of_lt h)
    rw [Int.neg_tdiv] at h3
    omega
theorem Wq.idiv {x y : Int} (hd : decode Y.2.1 pc = .ok (.idiv, 1)) (h0 : 0 < y) (K : Wq l G lw Y d Q (pc + 1) lv (.inl (x.tdiv y) :: st) m) : Wq l G lw Y d Q pc lv (.inl y :: .inl x :: st) m :=
  Wp.wf (fun _ _ _ w => Wp.idiv hd (by omega) (by rw [w32_id (tdiv_pos (wf_hd (wf_tl w)) h0)]; exact K))
theorem Wq.irem {x y : Int} (hd : decode Y.2.1 pc = .ok (.irem, 1)) (h0 : y ≠ 0) (K : Wq l G lw Y d Q (pc + 1) lv (.inl (x.tmod y) :: st) m) : Wq l G lw Y d Q pc lv (.inl y :: .inl x :: st) m := Wp.irem hd h0 K
theorem Wq.lrem {x y : Int} (hd : decode Y.2.1 pc = .ok (.lrem, 1)) (h0 : y ≠ 0) (K : Wq l G lw Y d Q (pc + 1) lv (.inr (.inl (x.tmod y)) :: st) m) : Wq l G lw Y d Q pc lv (.inr (.inl y) :: .inr (.inl x) :: st) m := Wp.lrem hd h0 K
theorem Wq.ldiv {x y : Int} (hd : decode Y.2.1 pc = .ok (.ldiv, 1)) (h0 : y ≠ 0) (hr : inL (x.tdiv y)) (K : Wq l G lw Y d Q (pc + 1) lv (.inr (.inl (x.tdiv y)) :: st) m) : Wq l G lw Y d Q pc lv (.inr (.inl y) :: .inr (.inl x) :: st) m := Wp.ldiv hd h0 (by rw [w64_id hr]; exact K)
theorem Wq.ladd {x y : Int} (hd : decode Y.2.1 pc = .ok (.ladd, 1)) (hr : inL (x + y)) (K : Wq l G lw Y d Q (pc + 1) lv (.inr (.inl (x + y)) :: st) m) : Wq l G lw Y d Q pc lv (.inr (.inl y) :: .inr (.inl x) :: st) m := Wp.ladd hd (by rw [w64_id hr]; exact K)
theorem Wq.lsub {x y : Int} (hd : decode Y.2.1 pc = .ok (.lsub, 1)) (hr : inL (x - y)) (K : Wq l G lw Y d Q (pc + 1) lv (.inr (.inl (x - y)) :: st) m) : Wq l G lw Y d Q pc lv (.inr (.inl y) :: .inr (.inl x) :: st) m := Wp.lsub hd (by rw [w64_id hr]; exact K)
theorem Wq.lmul {x y : Int} (hd : decode Y.2.1 pc = .ok (.lmul, 1)) (hr : inL (x * y)) (K : Wq l G lw Y d Q (pc + 1) lv (.inr (.inl (x * y)) :: st) m) : Wq l G lw Y d Q pc lv (.inr (.inl y) :: .inr (.inl x) :: st) m := Wp.lmul hd (by rw [w64_id hr]; exact K)
theorem Wq.lneg {x : Int} (hd : decode Y.2.1 pc = .ok (.lneg, 1)) (hr : inL (-x)) (K : Wq l G lw Y d Q (pc + 1) lv (.inr (.inl (-x)) :: st) m) : Wq l G lw Y d Q pc lv (.inr (.inl x) :: st) m := Wp.lneg hd (by rw [w64_id hr]; exact K)
theorem Wq.l2i {x : Int} (hd : decode Y.2.1 pc = .ok (.l2i, 1)) (hr : inR x) (K : Wq l G lw Y d Q (pc + 1) lv (.inl x :: st) m) : Wq l G lw Y d Q pc lv (.inr (.inl x) :: st) m := Wp.l2i hd (by rw [w32_id hr]; exact K)
theorem bCmp_eq {x y : Int} : bCmp x y = 0 ↔ x = y := by unfold bCmp; split <;> (try split) <;> omega
theorem bCmp_lt {x y : Int} : bCmp x y < 0 ↔ x < y := by unfold bCmp; split <;> (try split) <;> omega
theorem bCmp_gt {x y : Int} : bCmp x y > 0 ↔ x > y := by unfold bCmp; split <;> (try split) <;> omega
theorem bCmp_le {x y : Int} : bCmp x y ≤ 0 ↔ x ≤ y := by unfold bCmp; split <;> (try split) <;> omega
theorem bCmp_ge {x y : Int} : bCmp x y ≥ 0 ↔ x ≥ y := by unfold bCmp; split <;> (try split) <;> omega
theorem Wq.lif_eq {x y : Int} {off : Int} (tgt : Nat) (hd0 : decode Y.2.1 pc = .ok (.lcmp, 1)) (hd : decode Y.2.1 (pc + 1) = .ok (.ifCond .eq off, 3)) (ht : ((pc + 1 : Nat) : Int) + off = (tgt : Int)) (K1 : x = y → Wq l G lw Y d Q tgt lv st m) (K2 : ¬ (x = y) → Wq l G lw Y d Q (pc + 1 + 3) lv st m) : Wq l G lw Y d Q pc lv (.inr (.inl y) :: .inr (.inl x) :: st) m :=
  Wp.lcmp hd0 (Wp.if_eq tgt hd ht (fun h => K1 (bCmp_eq.mp h)) (fun h => K2 (fun q => h (bCmp_eq.mpr q))))
theorem Wq.lif_ne {x y : Int} {off : Int} (tgt : Nat) (hd0 : decode Y.2.1 pc = .ok (.lcmp, 1)) (hd : decode Y.2.1 (pc + 1) = .ok (.ifCond .ne off, 3)) (ht : ((pc + 1 : Nat) : Int) + off = (tgt : Int)) (K1 : x ≠ y → Wq l G lw Y d Q tgt lv st m) (K2 : ¬ (x ≠ y) → Wq l G lw Y d Q (pc + 1 + 3) lv st m) : Wq l G lw Y d Q pc lv (.inr (.inl y) :: .inr (.inl x) :: st) m :=
  Wp.lcmp hd0 (Wp.if_ne tgt hd ht (fun h => K1 (fun q => h (bCmp_eq.mpr q))) (fun h => K2 (fun q => h (fun e => q (bCmp_eq.mp e)))))
theorem Wq.lif_lt {x y : Int} {off : Int} (tgt : Nat) (hd0 : decode Y.2.1 pc = .ok (.lcmp, 1)) (hd : decode Y.2.1 (pc + 1) = .ok (.ifCond .lt off, 3)) (ht : ((pc + 1 : Nat) : Int) + off = (tgt : Int)) (K1 : x < y → Wq l G lw Y d Q tgt lv st m) (K2 : ¬ (x < y) → Wq l G lw Y d Q (pc + 1 + 3) lv st m) : Wq l G lw Y d Q pc lv (.inr (.inl y) :: .inr (.inl x) :: st) m :=
  Wp.lcmp hd0 (Wp.if_lt tgt hd ht (fun h => K1 (bCmp_lt.mp h)) (fun h => K2 (fun q => h (bCmp_lt.mpr q))))
theorem Wq.lif_ge {x y : Int} {off : Int} (tgt : Nat) (hd0 : decode Y.2.1 pc = .ok (.lcmp, 1)) (hd : decode Y.2.1 (pc + 1) = .ok (.ifCond .ge off, 3)) (ht : ((pc + 1 : Nat) : Int) + off = (tgt : Int)) (K1 : x ≥ y → Wq l G lw Y d Q tgt lv st m) (K2 : ¬ (x ≥ y) → Wq l G lw Y d Q (pc + 1 + 3) lv st m) : Wq l G lw Y d Q pc lv (.inr (.inl y) :: .inr (.inl x) :: st) m :=
  Wp.lcmp hd0 (Wp.if_ge tgt hd ht (fun h => K1 (bCmp_ge.mp h)) (fun h => K2 (fun q => h (bCmp_ge.mpr q))))
theorem Wq.lif_gt {x y : Int} {off : Int} (tgt : Nat) (hd0 : decode Y.2.1 pc = .ok (.lcmp, 1)) (hd : decode Y.2.1 (pc + 1) = .ok (.ifCond .gt off, 3)) (ht : ((pc + 1 : Nat) : Int) + off = (tgt : Int)) (K1 : x > y → Wq l G lw Y d Q tgt lv st m) (K2 : ¬ (x > y) → Wq l G lw Y d Q (pc + 1 + 3) lv st m) : Wq l G lw Y d Q pc lv (.inr (.inl y) :: .inr (.inl x) :: st) m :=
  Wp.lcmp hd0 (Wp.if_gt tgt hd ht (fun h => K1 (bCmp_gt.mp h)) (fun h => K2 (fun q => h (bCmp_gt.mpr q))))
theorem Wq.lif_le {x y : Int} {off : Int} (tgt : Nat) (hd0 : decode Y.2.1 pc = .ok (.lcmp, 1)) (hd : decode Y.2.1 (pc + 1) = .ok (.ifCond .le off, 3)) (ht : ((pc + 1 : Nat) : Int) + off = (tgt : Int)) (K1 : x ≤ y → Wq l G lw Y d Q tgt lv st m) (K2 : ¬ (x ≤ y) → Wq l G lw Y d Q (pc + 1 + 3) lv st m) : Wq l G lw Y d Q pc lv (.inr (.inl y) :: .inr (.inl x) :: st) m :=
  Wp.lcmp hd0 (Wp.if_le tgt hd ht (fun h => K1 (bCmp_le.mp h)) (fun h => K2 (fun q => h (bCmp_le.mpr q))))
end Plain2
def isB (b : Nat) : Prop := b = 7 ∨ b = 16
def isS (a : Nat) : Prop := a = 32 ∨ a = 35 ∨ a = 41 ∨ a = 64
def isF (f : Nat) : Prop := f = 13 ∨ f = 22
theorem isB_lay {b : Nat} (h : isB b) : q_lay b = .inl 1 := by rcases h with rfl | rfl <;> rfl
theorem isB_n0 {b : Nat} (h : isB b) : q_pt b 0 = none := by rcases h with rfl | rfl <;> rfl
theorem isB_n1 {b : Nat} (h : isB b) : q_pt b 1 = none := by rcases h with rfl | rfl <;> rfl
theorem isB_n2 {b : Nat} (h : isB b) : q_pt b 2 = none := by rcases h with rfl | rfl <;> rfl
theorem isB_n3 {b : Nat} (h : isB b) : q_pt b 3 = none := by rcases h with rfl | rfl <;> rfl
theorem isB_n4 {b : Nat} (h : isB b) : q_pt b 4 = none := by rcases h with rfl | rfl <;> rfl
theorem isB_p5 {b : Nat} (h : isB b) : q_pt b 5 = some (b + 1) := by rcases h with rfl | rfl <;> rfl
theorem isB_l5 {b : Nat} (h : isB b) : q_lay (b + 1) = .inr (0, 5) := by rcases h with rfl | rfl <;> rfl
theorem isB_p6 {b : Nat} (h : isB b) : q_pt b 6 = some (b + 2) := by rcases h with rfl | rfl <;> rfl
theorem isB_l6 {b : Nat} (h : isB b) : q_lay (b + 2) = .inr (0, 25) := by rcases h with rfl | rfl <;> rfl
theorem isB_p7 {b : Nat} (h : isB b) : q_pt b 7 = some (b + 3) := by rcases h with rfl | rfl <;> rfl
theorem isB_l7 {b : Nat} (h : isB b) : q_lay (b + 3) = .inr (0, 5) := by rcases h with rfl | rfl <;> rfl
theorem isB_p8 {b : Nat} (h : isB b) : q_pt b 8 = some (b + 4) := by rcases h with rfl | rfl <;> rfl
theorem isB_l8 {b : Nat} (h : isB b) : q_lay (b + 4) = .inr (0, 5) := by rcases h with rfl | rfl <;> rfl
theorem isB_p9 {b : Nat} (h : isB b) : q_pt b 9 = some (b + 5) := by rcases h with rfl | rfl <;> rfl
theorem isB_l9 {b : Nat} (h : isB b) : q_lay (b + 5) = .inr (0, 5) := by rcases h with rfl | rfl <;> rfl
theorem isB_p10 {b : Nat} (h : isB b) : q_pt b 10 = some (b + 6) := by rcases h with rfl | rfl <;> rfl
theorem isS_lay {b : Nat} (h : isS b) : q_lay b = .inl 7 := by rcases h with rfl | rfl | rfl | rfl <;> rfl
theorem isS_p0 {b : Nat} (h : isS b) : q_pt b 0 = some (b + 1) := by rcases h with rfl | rfl | rfl | rfl <;> rfl
theorem isS_l0 {b : Nat} (h : isS b) : q_lay (b + 1) = .inr (0, 5) := by rcases h with rfl | rfl | rfl | rfl <;> rfl
theorem isS_p1 {b : Nat} (h : isS b) : q_pt b 1 = some (b + 2) := by rcases h with rfl | rfl | rfl | rfl <;> rfl
theorem isS_l1 {b : Nat} (h : isS b) : q_lay (b + 2) = .inr (0, 5) := by rcases h with rfl | rfl | rfl | rfl <;> rfl
theorem isS_n2 {b : Nat} (h : isS b) : q_pt b 2 = none := by rcases h with rfl | rfl | rfl | rfl <;> rfl
theorem isS_n3 {b : Nat} (h : isS b) : q_pt b 3 = none := by rcases h with rfl | rfl | rfl | rfl <;> rfl
theorem isF_lay {b : Nat} (h : isF b) : q_lay b = .inl 3 := by rcases h with rfl | rfl <;> rfl
theorem isF_p0 {b : Nat} (h : isF b) : q_pt b 0 = some (b + 1) := by rcases h with rfl | rfl <;> rfl
theorem isF_l0 {b : Nat} (h : isF b) : q_lay (b + 1) = .inr (0, 300) := by rcases h with rfl | rfl <;> rfl
theorem isF_p1 {b : Nat} (h : isF b) : q_pt b 1 = some (b + 2) := by rcases h with rfl | rfl <;> rfl
theorem isF_l1 {b : Nat} (h : isF b) : q_lay (b + 2) = .inr (0, 40) := by rcases h with rfl | rfl <;> rfl
theorem isF_n2 {b : Nat} (h : isF b) : q_pt b 2 = none := by rcases h with rfl | rfl <;> rfl
theorem isB_f {b : Nat} (h : isB b) : isF (b + 6) := by rcases h with rfl | rfl <;> simp [isF]
theorem k_mmax : Cond.static Lib.Math.max.name ∈ q_W ∧ Cond.initialized "java/lang/Math" ∈ q_W ∧ Cond.code Lib.Math.max.name Lib.Math.max.code 2 (some .int) ∈ q_W := ⟨q_Wt 538 (by decide +kernel) rfl, q_Wt 18 (by decide +kernel) rfl, q_Wt 539 (by decide +kernel) rfl⟩
theorem k_mmin : Cond.static Lib.Math.min.name ∈ q_W ∧ Cond.initialized "java/lang/Math" ∈ q_W ∧ Cond.code Lib.Math.min.name Lib.Math.min.code 2 (some .int) ∈ q_W := ⟨q_Wt 496 (by decide +kernel) rfl, q_Wt 18 (by decide +kernel) rfl, q_Wt 497 (by decide +kernel) rfl⟩
theorem k_mabs : Cond.static Lib.MathLoose.abs_long.x ∈ q_W ∧ Cond.initialized "java/lang/Math" ∈ q_W ∧ Cond.code Lib.MathLoose.abs_long.x Lib.MathLoose.abs_long.code 2 (some .long) ∈ q_W := ⟨q_Wt 752 (by decide +kernel) rfl, q_Wt 18 (by decide +kernel) rfl, q_Wt 753 (by decide +kernel) rfl⟩
theorem ne_step {x k : Int} (h : x ≥ k) (hn : ¬ x = k) : x ≥ k + 1 := by omega
theorem lt_or_geI (x k : Int) : x < k ∨ x ≥ k := by omega
theorem Wp.pick {l : Launch} {G : GT} {lw : Bool} {Y : YD} {d : Nat} {ph : Bool} {Q : Option MV → MM → Nat → Prop} {pc : Nat} {lv : List (Nat × MV)} {st : List MV} {m : MM} {n bc bs : Nat} (ks : List Nat) (lv' : List (Nat × MV)) (h : ks.filterMap (fun k => lv[k]?) = lv') (K : Wp l G lw Y d ph Q pc lv' st m n bc bs) : Wp l G lw Y d ph Q pc lv st m n bc bs :=
  Wp.sub lv' (fun q hq => by
    rw [← h] at hq
    obtain ⟨k, -, hk⟩ := List.mem_filterMap.mp hq
    exact List.mem_of_getElem? hk) K
