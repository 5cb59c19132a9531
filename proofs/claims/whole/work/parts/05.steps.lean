section Steps2
variable {l : Launch} {G : GT} {lw : Bool} {Y : YD} {d : Nat} {ph : Bool} {Q : Option MV → MM → Nat → Prop} {pc pc' : Nat} {lv lv' : List (Nat × MV)} {st st' : List MV} {m : MM} {n bc bs : Nat}
/-- bits -/
def bAnd (x y : Int) : Int := (Int32.ofInt x &&& Int32.ofInt y).toInt
def bOr (x y : Int) : Int := (Int32.ofInt x ||| Int32.ofInt y).toInt
def bXor (x y : Int) : Int := (Int32.ofInt x ^^^ Int32.ofInt y).toInt
def bShl (x y : Int) : Int := (Int32.ofInt x <<< (Int32.ofInt y &&& 31)).toInt
def bShr (x y : Int) : Int := (Int32.ofInt x >>> (Int32.ofInt y &&& 31)).toInt
def bUshr (x y : Int) : Int := ((Int32.ofInt x).toUInt32 >>> ((Int32.ofInt y).toUInt32 &&& Int32.toUInt32 31)).toInt32.toInt
def bI2c (x : Int) : Int := ((Int32.ofInt x).toUInt32 % 65536).toInt32.toInt
def bI2b (x : Int) : Int := x.bmod 256
def bLor (x y : Int) : Int := (Int64.ofInt x ||| Int64.ofInt y).toInt
def bLshl (x y : Int) : Int := (Int64.ofInt x <<< ((Int32.ofInt y).toInt64 &&& 63)).toInt
theorem Wp.iand {x y : Int} (hd : decode Y.2.1 pc = .ok (.iand, 1)) (K : Wp l G lw Y d ph Q (pc + 1) lv (.inl (bAnd x y) :: st) m n bc bs) : Wp l G lw Y d ph Q pc lv (.inl y :: .inl x :: st) m n bc bs :=
  Wp.go (fun w _ _ => wf_cons (v := .inl (bAnd x y)) (inR_toInt _) (wf_tl (wf_tl w))) (fun _ _ _ _ _ _ _ _ _ _ _ _ _ _ _ hx hb _ _ _ _ _ _ _ k => lv_iand hx hb hd (by rw [← Int32.ofInt_toInt (_ &&& _)]; exact k)) K
theorem Wp.ior {x y : Int} (hd : decode Y.2.1 pc = .ok (.ior, 1)) (K : Wp l G lw Y d ph Q (pc + 1) lv (.inl (bOr x y) :: st) m n bc bs) : Wp l G lw Y d ph Q pc lv (.inl y :: .inl x :: st) m n bc bs :=
  Wp.go (fun w _ _ => wf_cons (v := .inl (bOr x y)) (inR_toInt _) (wf_tl (wf_tl w))) (fun _ _ _ _ _ _ _ _ _ _ _ _ _ _ _ hx hb _ _ _ _ _ _ _ k => lv_ior hx hb hd (by rw [← Int32.ofInt_toInt (_ ||| _)]; exact k)) K
theorem Wp.ixor {x y : Int} (hd : decode Y.2.1 pc = .ok (.ixor, 1)) (K : Wp l G lw Y d ph Q (pc + 1) lv (.inl (bXor x y) :: st) m n bc bs) : Wp l G lw Y d ph Q pc lv (.inl y :: .inl x :: st) m n bc bs :=
  Wp.go (fun w _ _ => wf_cons (v := .inl (bXor x y)) (inR_toInt _) (wf_tl (wf_tl w))) (fun _ _ _ _ _ _ _ _ _ _ _ _ _ _ _ hx hb _ _ _ _ _ _ _ k => lv_ixor hx hb hd (by rw [← Int32.ofInt_toInt (_ ^^^ _)]; exact k)) K
theorem Wp.ishl {x y : Int} (hd : decode Y.2.1 pc = .ok (.ishl, 1)) (K : Wp l G lw Y d ph Q (pc + 1) lv (.inl (bShl x y) :: st) m n bc bs) : Wp l G lw Y d ph Q pc lv (.inl y :: .inl x :: st) m n bc bs :=
  Wp.go (fun w _ _ => wf_cons (v := .inl (bShl x y)) (inR_toInt _) (wf_tl (wf_tl w))) (fun _ _ _ _ _ _ _ _ _ _ _ _ _ _ _ hx hb _ _ _ _ _ _ _ k => lv_ishl hx hb hd (by rw [← Int32.ofInt_toInt (_ <<< _)]; exact k)) K
theorem Wp.ishr {x y : Int} (hd : decode Y.2.1 pc = .ok (.ishr, 1)) (K : Wp l G lw Y d ph Q (pc + 1) lv (.inl (bShr x y) :: st) m n bc bs) : Wp l G lw Y d ph Q pc lv (.inl y :: .inl x :: st) m n bc bs :=
  Wp.go (fun w _ _ => wf_cons (v := .inl (bShr x y)) (inR_toInt _) (wf_tl (wf_tl w))) (fun _ _ _ _ _ _ _ _ _ _ _ _ _ _ _ hx hb _ _ _ _ _ _ _ k => lv_ishr hx hb hd (by rw [← Int32.ofInt_toInt (_ >>> _)]; exact k)) K
theorem Wp.iushr {x y : Int} (hd : decode Y.2.1 pc = .ok (.iushr, 1)) (K : Wp l G lw Y d ph Q (pc + 1) lv (.inl (bUshr x y) :: st) m n bc bs) : Wp l G lw Y d ph Q pc lv (.inl y :: .inl x :: st) m n bc bs :=
  Wp.go (fun w _ _ => wf_cons (v := .inl (bUshr x y)) (inR_toInt _) (wf_tl (wf_tl w))) (fun _ _ _ _ _ _ _ _ _ _ _ _ _ _ _ hx hb _ _ _ _ _ _ _ k => lv_iushr hx hb hd (Int32.ofInt_toInt _).symm k) K
theorem Wp.i2c {x : Int} (hd : decode Y.2.1 pc = .ok (.i2c, 1)) (K : Wp l G lw Y d ph Q (pc + 1) lv (.inl (bI2c x) :: st) m n bc bs) : Wp l G lw Y d ph Q pc lv (.inl x :: st) m n bc bs :=
  Wp.go (fun w _ _ => wf_cons (v := .inl (bI2c x)) (inR_toInt _) (wf_tl w)) (fun _ _ _ _ _ _ _ _ _ _ _ _ _ _ _ hx hb _ _ _ _ _ _ _ k => lv_i2c hx hb hd (Int32.ofInt_toInt _).symm k) K
theorem b8_range (x : Int) : -128 ≤ x.bmod 256 ∧ x.bmod 256 < 128 := by
  have h1 := Int.le_bmod (x := x) (m := 256) (by decide)
  have h2 := Int.bmod_lt (x := x) (m := 256) (by decide)
  omega
theorem Wp.i2b {x : Int} (hd : decode Y.2.1 pc = .ok (.i2b, 1)) (K : Wp l G lw Y d ph Q (pc + 1) lv (.inl (bI2b x) :: st) m n bc bs) : Wp l G lw Y d ph Q pc lv (.inl x :: st) m n bc bs :=
  Wp.go (fun w _ _ => wf_cons (v := .inl (bI2b x)) (by have := b8_range x; show inR (x.bmod 256); omega) (wf_tl w)) (fun _ _ _ _ _ _ _ _ _ _ _ _ _ _ _ hx hb _ _ _ w _ _ _ k => by
    refine lv_i2b hx hb hd (v := Int32.ofInt (bI2b x)) ?_ k
    have hxx : inR x := wf_hd w
    have := b8_range x
    apply Int32.toInt_inj.mp
    rw [Int8.toInt_toInt32, Int32.toInt_toInt8, toI hxx]
    show _ = (Int32.ofInt (x.bmod 256)).toInt
    rw [toI (show inR (x.bmod 256) by omega)]) K
theorem Wp.i2l {x : Int} (hd : decode Y.2.1 pc = .ok (.i2l, 1)) (K : Wp l G lw Y d ph Q (pc + 1) lv (.inr (.inl x) :: st) m n bc bs) : Wp l G lw Y d ph Q pc lv (.inl x :: st) m n bc bs :=
  Wp.go (fun w _ _ => wf_cons (v := .inr (.inl x)) (by have h : inR x := wf_hd w; show inL x; omega) (wf_tl w)) (fun _ _ _ _ _ _ _ _ _ _ _ _ _ _ _ hx hb _ _ _ w _ _ _ k => by
    refine lv_i2l hx hb hd (v := Int64.ofInt x) ?_ k
    have hxx : inR x := wf_hd w
    apply Int64.toInt_inj.mp
    rw [Int32.toInt_toInt64, toI hxx, toL (show inL x by omega)]) K
theorem Wp.l2i {x : Int} (hd : decode Y.2.1 pc = .ok (.l2i, 1)) (K : Wp l G lw Y d ph Q (pc + 1) lv (.inl (w32 x) :: st) m n bc bs) : Wp l G lw Y d ph Q pc lv (.inr (.inl x) :: st) m n bc bs :=
  Wp.go (fun w _ _ => wf_cons (v := .inl (w32 x)) (inR_w32 _) (wf_tl w)) (fun _ _ _ _ _ _ _ _ _ _ _ _ _ _ _ hx hb _ _ _ _ _ _ _ k => lv_l2i hx hb hd (v := Int32.ofInt (w32 x)) (by rw [of_w32]; simp) k) K
theorem Wp.ladd {x y : Int} (hd : decode Y.2.1 pc = .ok (.ladd, 1)) (K : Wp l G lw Y d ph Q (pc + 1) lv (.inr (.inl (w64 (x + y))) :: st) m n bc bs) : Wp l G lw Y d ph Q pc lv (.inr (.inl y) :: .inr (.inl x) :: st) m n bc bs :=
  Wp.go (fun w _ _ => wf_cons (v := .inr (.inl (w64 (x + y)))) (inL_w64 _) (wf_tl (wf_tl w))) (fun _ _ _ _ _ _ _ _ _ _ _ _ _ _ _ hx hb _ _ _ _ _ _ _ k => lv_ladd hx hb hd (by rw [← Int64.ofInt_add, ← of_w64]; exact k)) K
theorem Wp.lsub {x y : Int} (hd : decode Y.2.1 pc = .ok (.lsub, 1)) (K : Wp l G lw Y d ph Q (pc + 1) lv (.inr (.inl (w64 (x - y))) :: st) m n bc bs) : Wp l G lw Y d ph Q pc lv (.inr (.inl y) :: .inr (.inl x) :: st) m n bc bs :=
  Wp.go (fun w _ _ => wf_cons (v := .inr (.inl (w64 (x - y)))) (inL_w64 _) (wf_tl (wf_tl w))) (fun _ _ _ _ _ _ _ _ _ _ _ _ _ _ _ hx hb _ _ _ _ _ _ _ k => lv_lsub hx hb hd (by rw [← Int64.ofInt_sub, ← of_w64]; exact k)) K
theorem Wp.lmul {x y : Int} (hd : decode Y.2.1 pc = .ok (.lmul, 1)) (K : Wp l G lw Y d ph Q (pc + 1) lv (.inr (.inl (w64 (x * y))) :: st) m n bc bs) : Wp l G lw Y d ph Q pc lv (.inr (.inl y) :: .inr (.inl x) :: st) m n bc bs :=
  Wp.go (fun w _ _ => wf_cons (v := .inr (.inl (w64 (x * y)))) (inL_w64 _) (wf_tl (wf_tl w))) (fun _ _ _ _ _ _ _ _ _ _ _ _ _ _ _ hx hb _ _ _ _ _ _ _ k => lv_lmul hx hb hd (by rw [← Int64.ofInt_mul, ← of_w64]; exact k)) K
theorem Wp.lneg {x : Int} (hd : decode Y.2.1 pc = .ok (.lneg, 1)) (K : Wp l G lw Y d ph Q (pc + 1) lv (.inr (.inl (w64 (-x))) :: st) m n bc bs) : Wp l G lw Y d ph Q pc lv (.inr (.inl x) :: st) m n bc bs :=
  Wp.go (fun w _ _ => wf_cons (v := .inr (.inl (w64 (-x)))) (inL_w64 _) (wf_tl w)) (fun _ _ _ _ _ _ _ _ _ _ _ _ _ _ _ hx hb _ _ _ _ _ _ _ k => lv_lneg hx hb hd (by rw [← Int64.ofInt_neg, ← of_w64]; exact k)) K
theorem Wp.ldiv {x y : Int} (hd : decode Y.2.1 pc = .ok (.ldiv, 1)) (h0 : y ≠ 0) (K : Wp l G lw Y d ph Q (pc + 1) lv (.inr (.inl (w64 (x.tdiv y))) :: st) m n bc bs) : Wp l G lw Y d ph Q pc lv (.inr (.inl y) :: .inr (.inl x) :: st) m n bc bs :=
  Wp.go (fun w _ _ => wf_cons (v := .inr (.inl (w64 (x.tdiv y)))) (inL_w64 _) (wf_tl (wf_tl w))) (fun _ _ _ _ _ _ _ _ _ _ _ _ _ _ _ hx hb _ _ _ w _ _ _ k => by
    have hy : inL y := wf_hd w
    have hxx : inL x := wf_hd (wf_tl w)
    refine lv_ldiv hx hb hd (fun h => h0 ?_) ?_
    · have := congrArg Int64.toInt h
      rw [toL hy] at this
      simpa using this
    · have e : Int64.ofInt x / Int64.ofInt y = Int64.ofInt (w64 (x.tdiv y)) := by
        apply Int64.toInt_inj.mp
        rw [Int64.toInt_div, toL hxx, toL hy, toL (inL_w64 _)]
        rfl
      rw [e]
      exact k) K
theorem lrem_mod (x y : Int64) : x - x / y * y = x % y := by
  apply Int64.toInt_inj.mp
  rw [Int64.toInt_mod]
  have h0 : (x - x / y * y).toInt = (x.toInt - x.toInt.tdiv y.toInt * y.toInt).bmod (2 ^ 64) := by
    rw [Int64.toInt_sub, Int64.toInt_mul, Int64.toInt_div]
    simp
  have h1 : x.toInt - x.toInt.tdiv y.toInt * y.toInt = x.toInt.tmod y.toInt := by
    have := Int.mul_tdiv_add_tmod x.toInt y.toInt
    rw [Int.mul_comm]
    omega
  rw [h0, h1]
  have h2 := inL_toInt (x % y)
  rw [Int64.toInt_mod] at h2
  exact w64_id h2
theorem Wp.lrem {x y : Int} (hd : decode Y.2.1 pc = .ok (.lrem, 1)) (h0 : y ≠ 0) (K : Wp l G lw Y d ph Q (pc + 1) lv (.inr (.inl (x.tmod y)) :: st) m n bc bs) : Wp l G lw Y d ph Q pc lv (.inr (.inl y) :: .inr (.inl x) :: st) m n bc bs := by
  have hm : inL x → inL y → (Int64.ofInt x % Int64.ofInt y).toInt = x.tmod y := fun h1 h2 => by rw [Int64.toInt_mod, toL h1, toL h2]
  exact Wp.go (fun w _ _ => wf_cons (v := .inr (.inl (x.tmod y))) (by show inL (x.tmod y); rw [← hm (wf_hd (wf_tl w)) (wf_hd w)]; exact inL_toInt _) (wf_tl (wf_tl w))) (fun _ _ _ _ _ _ _ _ _ _ _ _ _ _ _ hx hb _ _ _ w _ _ _ k => by
    have hy : inL y := wf_hd w
    have hxx : inL x := wf_hd (wf_tl w)
    refine lv_lrem hx hb hd (fun h => h0 ?_) ?_
    · have := congrArg Int64.toInt h
      rw [toL hy] at this
      simpa using this
    · have e : Int64.ofInt x % Int64.ofInt y = Int64.ofInt (x.tmod y) := by
        rw [← hm hxx hy, Int64.ofInt_toInt]
      first | (rw [e]; exact k) | (rw [lrem_mod, e]; exact k)) K
theorem Wp.lor {x y : Int} (hd : decode Y.2.1 pc = .ok (.lor, 1)) (K : Wp l G lw Y d ph Q (pc + 1) lv (.inr (.inl (bLor x y)) :: st) m n bc bs) : Wp l G lw Y d ph Q pc lv (.inr (.inl y) :: .inr (.inl x) :: st) m n bc bs :=
  Wp.go (fun w _ _ => wf_cons (v := .inr (.inl (bLor x y))) (inL_toInt _) (wf_tl (wf_tl w))) (fun _ _ _ _ _ _ _ _ _ _ _ _ _ _ _ hx hb _ _ _ _ _ _ _ k => lv_lor hx hb hd (by rw [← Int64.ofInt_toInt (_ ||| _)]; exact k)) K
theorem Wp.lshl {x y : Int} (hd : decode Y.2.1 pc = .ok (.lshl, 1)) (K : Wp l G lw Y d ph Q (pc + 1) lv (.inr (.inl (bLshl x y)) :: st) m n bc bs) : Wp l G lw Y d ph Q pc lv (.inl y :: .inr (.inl x) :: st) m n bc bs :=
  Wp.go (fun w _ _ => wf_cons (v := .inr (.inl (bLshl x y))) (inL_toInt _) (wf_tl (wf_tl w))) (fun _ _ _ _ _ _ _ _ _ _ _ _ _ _ _ hx hb _ _ _ _ _ _ _ k => lv_lshl hx hb hd (Int64.ofInt_toInt _).symm k) K
def bCmp (x y : Int) : Int := if x > y then 1 else if x = y then 0 else -1
theorem bCmp_of {x y : Int} (hx : inL x) (hy : inL y) : lg_cmp (Int64.ofInt x) (Int64.ofInt y) = Int32.ofInt (bCmp x y) := by
  unfold lg_cmp bCmp
  have h1 : (Int64.ofInt x > Int64.ofInt y) ↔ x > y := by
    show Int64.ofInt y < Int64.ofInt x ↔ _
    rw [Int64.lt_iff_toInt_lt, toL hx, toL hy]
  have h2 : (Int64.ofInt x = Int64.ofInt y) ↔ x = y := by
    rw [← Int64.toInt_inj, toL hx, toL hy]
  by_cases c1 : x > y
  · rw [if_pos c1, if_pos (h1.mpr c1)]; rfl
  · rw [if_neg c1, if_neg (fun q => c1 (h1.mp q))]
    by_cases c2 : x = y
    · rw [if_pos c2, if_pos (h2.mpr c2)]; rfl
    · rw [if_neg c2, if_neg (fun q => c2 (h2.mp q))]; rfl
theorem Wp.lcmp {x y : Int} (hd : decode Y.2.1 pc = .ok (.lcmp, 1)) (K : Wp l G lw Y d ph Q (pc + 1) lv (.inl (bCmp x y) :: st) m n bc bs) : Wp l G lw Y d ph Q pc lv (.inr (.inl y) :: .inr (.inl x) :: st) m n bc bs :=
  Wp.go (fun w _ _ => wf_cons (v := .inl (bCmp x y)) (by show inR (bCmp x y); unfold bCmp; split <;> (try split) <;> decide) (wf_tl (wf_tl w))) (fun _ _ _ _ _ _ _ _ _ _ _ _ _ _ _ hx hb _ _ _ w _ _ _ k => W.lcmp hx hb hd (by rw [bCmp_of (wf_hd (wf_tl w)) (wf_hd w)]; exact k)) K
theorem Wp.dup {v : MV} (hd : decode Y.2.1 pc = .ok (.dup, 1)) (hc : q_cat v = 1) (K : Wp l G lw Y d ph Q (pc + 1) lv (v :: v :: st) m n bc bs) : Wp l G lw Y d ph Q pc lv (v :: st) m n bc bs :=
  Wp.go (fun w _ _ => wf_cons (wf_hd w) w) (fun _ _ _ _ _ _ _ _ _ _ _ _ _ _ _ hx hb _ _ _ _ _ _ _ k => lv_dup hx hb hd (by rw [q_cat_val]; exact hc) k) K
theorem Wp.pop {v : MV} (hd : decode Y.2.1 pc = .ok (.pop, 1)) (hc : q_cat v = 1) (K : Wp l G lw Y d ph Q (pc + 1) lv st m n bc bs) : Wp l G lw Y d ph Q pc lv (v :: st) m n bc bs :=
  Wp.go (fun w _ _ => wf_tl w) (fun _ _ _ _ _ _ _ _ _ _ _ _ _ _ _ hx hb _ _ _ _ _ _ _ k => lv_pop hx hb hd (by rw [q_cat_val]; exact hc) k) K
theorem Wp.dup2 {v u : MV} (hd : decode Y.2.1 pc = .ok (.dup2, 1)) (hc : q_cat v = 1) (hc2 : q_cat u = 1) (K : Wp l G lw Y d ph Q (pc + 1) lv (v :: u :: v :: u :: st) m n bc bs) : Wp l G lw Y d ph Q pc lv (v :: u :: st) m n bc bs :=
  Wp.go (fun w _ _ => wf_cons (wf_hd w) (wf_cons (wf_hd (wf_tl w)) w)) (fun _ _ _ _ _ _ _ _ _ _ _ _ _ _ _ hx hb _ _ _ _ _ _ _ k => lv_dup2_11 hx hb hd (by rw [q_cat_val]; exact hc) (by rw [q_cat_val]; exact hc2) k) K
theorem Wp.dup2L {v : MV} (hd : decode Y.2.1 pc = .ok (.dup2, 1)) (hc : q_cat v = 2) (K : Wp l G lw Y d ph Q (pc + 1) lv (v :: v :: st) m n bc bs) : Wp l G lw Y d ph Q pc lv (v :: st) m n bc bs :=
  Wp.go (fun w _ _ => wf_cons (wf_hd w) w) (fun _ _ _ _ _ _ _ _ _ _ _ _ _ _ _ hx hb _ _ _ _ _ _ _ k => lv_dup2_2 hx hb hd (by rw [q_cat_val]; exact hc) k) K
theorem Wp.goto {off : Int} (tgt : Nat) (hd : decode Y.2.1 pc = .ok (.goto off, 3)) (ht : (pc : Int) + off = (tgt : Int)) (K : Wp l G lw Y d ph Q tgt lv st m n bc bs) : Wp l G lw Y d ph Q pc lv st m n bc bs :=
  Wp.go (fun w _ _ => w) (fun _ _ _ _ _ _ _ _ _ _ _ _ _ _ _ hx hb _ _ _ _ _ _ _ k => lv_goto hx hb hd ht k) K
theorem eqI {x y : Int} (hx : inR x) (hy : inR y) : Int32.ofInt x = Int32.ofInt y ↔ x = y := by rw [← Int32.toInt_inj, toI hx, toI hy]
theorem ltI {x y : Int} (hx : inR x) (hy : inR y) : Int32.ofInt x < Int32.ofInt y ↔ x < y := by rw [Int32.lt_iff_toInt_lt, toI hx, toI hy]
theorem leI {x y : Int} (hx : inR x) (hy : inR y) : Int32.ofInt x ≤ Int32.ofInt y ↔ x ≤ y := by rw [Int32.le_iff_toInt_le, toI hx, toI hy]
theorem inR0 : inR 0 := by decide
theorem eqI0 {x : Int} (hx : inR x) : Int32.ofInt x = 0 ↔ x = 0 := by
  show Int32.ofInt x = Int32.ofInt 0 ↔ x = 0
  exact eqI hx inR0
theorem ltI0 {x : Int} (hx : inR x) : Int32.ofInt x < 0 ↔ x < 0 := by
  show Int32.ofInt x < Int32.ofInt 0 ↔ x < 0
  exact ltI hx inR0
theorem leI0 {x : Int} (hx : inR x) : Int32.ofInt x ≤ 0 ↔ x ≤ 0 := by
  show Int32.ofInt x ≤ Int32.ofInt 0 ↔ x ≤ 0
  exact leI hx inR0
theorem gtI0 {x : Int} (hx : inR x) : 0 < Int32.ofInt x ↔ x > 0 := by
  show Int32.ofInt 0 < Int32.ofInt x ↔ 0 < x
  exact ltI inR0 hx
theorem geI0 {x : Int} (hx : inR x) : 0 ≤ Int32.ofInt x ↔ x ≥ 0 := by
  show Int32.ofInt 0 ≤ Int32.ofInt x ↔ 0 ≤ x
  exact leI inR0 hx
theorem Wp.if_eq {x : Int} {off : Int} (tgt : Nat) (hd : decode Y.2.1 pc = .ok (.ifCond .eq off, 3)) (ht : (pc : Int) + off = (tgt : Int)) (K1 : x = 0 → Wp l G lw Y d ph Q tgt lv st m n bc bs) (K2 : ¬ (x = 0) → Wp l G lw Y d ph Q (pc + 3) lv st m n bc bs) : Wp l G lw Y d ph Q pc lv (.inl x :: st) m n bc bs :=
  Wp.br (C := x = 0) (st' := st) (fun v hv => List.mem_cons_of_mem _ hv) (fun _ _ _ _ _ _ _ _ _ _ _ _ _ _ _ hx hb w k1 k2 => lv_if_eq hx hb hd ht (fun h => k1 ((eqI0 (wf_hd w)).mp h)) (fun h => k2 (fun q => h ((eqI0 (wf_hd w)).mpr q)))) K1 K2
theorem Wp.icmp_eq {x y : Int} {off : Int} (tgt : Nat) (hd : decode Y.2.1 pc = .ok (.if_icmp .eq off, 3)) (ht : (pc : Int) + off = (tgt : Int)) (K1 : x = y → Wp l G lw Y d ph Q tgt lv st m n bc bs) (K2 : ¬ (x = y) → Wp l G lw Y d ph Q (pc + 3) lv st m n bc bs) : Wp l G lw Y d ph Q pc lv (.inl y :: .inl x :: st) m n bc bs :=
  Wp.br (C := x = y) (st' := st) (fun v hv => List.mem_cons_of_mem _ (List.mem_cons_of_mem _ hv)) (fun _ _ _ _ _ _ _ _ _ _ _ _ _ _ _ hx hb w k1 k2 => lv_icmp_eq hx hb hd ht (fun h => k1 ((eqI (wf_hd (wf_tl w)) (wf_hd w)).mp h)) (fun h => k2 (fun q => h ((eqI (wf_hd (wf_tl w)) (wf_hd w)).mpr q)))) K1 K2
theorem Wp.if_ne {x : Int} {off : Int} (tgt : Nat) (hd : decode Y.2.1 pc = .ok (.ifCond .ne off, 3)) (ht : (pc : Int) + off = (tgt : Int)) (K1 : x ≠ 0 → Wp l G lw Y d ph Q tgt lv st m n bc bs) (K2 : ¬ (x ≠ 0) → Wp l G lw Y d ph Q (pc + 3) lv st m n bc bs) : Wp l G lw Y d ph Q pc lv (.inl x :: st) m n bc bs :=
  Wp.br (C := x ≠ 0) (st' := st) (fun v hv => List.mem_cons_of_mem _ hv) (fun _ _ _ _ _ _ _ _ _ _ _ _ _ _ _ hx hb w k1 k2 => lv_if_ne hx hb hd ht (fun h => k1 (fun e => h ((eqI0 (wf_hd w)).mpr e))) (fun h => k2 (fun q => q ((eqI0 (wf_hd w)).mp h)))) K1 K2
theorem Wp.icmp_ne {x y : Int} {off : Int} (tgt : Nat) (hd : decode Y.2.1 pc = .ok (.if_icmp .ne off, 3)) (ht : (pc : Int) + off = (tgt : Int)) (K1 : x ≠ y → Wp l G lw Y d ph Q tgt lv st m n bc bs) (K2 : ¬ (x ≠ y) → Wp l G lw Y d ph Q (pc + 3) lv st m n bc bs) : Wp l G lw Y d ph Q pc lv (.inl y :: .inl x :: st) m n bc bs :=
  Wp.br (C := x ≠ y) (st' := st) (fun v hv => List.mem_cons_of_mem _ (List.mem_cons_of_mem _ hv)) (fun _ _ _ _ _ _ _ _ _ _ _ _ _ _ _ hx hb w k1 k2 => lv_icmp_ne hx hb hd ht (fun h => k1 (fun e => h ((eqI (wf_hd (wf_tl w)) (wf_hd w)).mpr e))) (fun h => k2 (fun q => q ((eqI (wf_hd (wf_tl w)) (wf_hd w)).mp h)))) K1 K2
theorem Wp.if_lt {x : Int} {off : Int} (tgt : Nat) (hd : decode Y.2.1 pc = .ok (.ifCond .lt off, 3)) (ht : (pc : Int) + off = (tgt : Int)) (K1 : x < 0 → Wp l G lw Y d ph Q tgt lv st m n bc bs) (K2 : ¬ (x < 0) → Wp l G lw Y d ph Q (pc + 3) lv st m n bc bs) : Wp l G lw Y d ph Q pc lv (.inl x :: st) m n bc bs :=
  Wp.br (C := x < 0) (st' := st) (fun v hv => List.mem_cons_of_mem _ hv) (fun _ _ _ _ _ _ _ _ _ _ _ _ _ _ _ hx hb w k1 k2 => lv_if_lt hx hb hd ht (fun h => k1 ((ltI0 (wf_hd w)).mp h)) (fun h => k2 (fun q => h ((ltI0 (wf_hd w)).mpr q)))) K1 K2
theorem Wp.icmp_lt {x y : Int} {off : Int} (tgt : Nat) (hd : decode Y.2.1 pc = .ok (.if_icmp .lt off, 3)) (ht : (pc : Int) + off = (tgt : Int)) (K1 : x < y → Wp l G lw Y d ph Q tgt lv st m n bc bs) (K2 : ¬ (x < y) → Wp l G lw Y d ph Q (pc + 3) lv st m n bc bs) : Wp l G lw Y d ph Q pc lv (.inl y :: .inl x :: st) m n bc bs :=
  Wp.br (C := x < y) (st' := st) (fun v hv => List.mem_cons_of_mem _ (List.mem_cons_of_mem _ hv)) (fun _ _ _ _ _ _ _ _ _ _ _ _ _ _ _ hx hb w k1 k2 => lv_icmp_lt hx hb hd ht (fun h => k1 ((ltI (wf_hd (wf_tl w)) (wf_hd w)).mp h)) (fun h => k2 (fun q => h ((ltI (wf_hd (wf_tl w)) (wf_hd w)).mpr q)))) K1 K2
theorem Wp.if_ge {x : Int} {off : Int} (tgt : Nat) (hd : decode Y.2.1 pc = .ok (.ifCond .ge off, 3)) (ht : (pc : Int) + off = (tgt : Int)) (K1 : x ≥ 0 → Wp l G lw Y d ph Q tgt lv st m n bc bs) (K2 : ¬ (x ≥ 0) → Wp l G lw Y d ph Q (pc + 3) lv st m n bc bs) : Wp l G lw Y d ph Q pc lv (.inl x :: st) m n bc bs :=
  Wp.br (C := x ≥ 0) (st' := st) (fun v hv => List.mem_cons_of_mem _ hv) (fun _ _ _ _ _ _ _ _ _ _ _ _ _ _ _ hx hb w k1 k2 => lv_if_ge hx hb hd ht (fun h => k1 ((geI0 (wf_hd w)).mp h)) (fun h => k2 (fun q => h ((geI0 (wf_hd w)).mpr q)))) K1 K2
theorem Wp.icmp_ge {x y : Int} {off : Int} (tgt : Nat) (hd : decode Y.2.1 pc = .ok (.if_icmp .ge off, 3)) (ht : (pc : Int) + off = (tgt : Int)) (K1 : x ≥ y → Wp l G lw Y d ph Q tgt lv st m n bc bs) (K2 : ¬ (x ≥ y) → Wp l G lw Y d ph Q (pc + 3) lv st m n bc bs) : Wp l G lw Y d ph Q pc lv (.inl y :: .inl x :: st) m n bc bs :=
  Wp.br (C := x ≥ y) (st' := st) (fun v hv => List.mem_cons_of_mem _ (List.mem_cons_of_mem _ hv)) (fun _ _ _ _ _ _ _ _ _ _ _ _ _ _ _ hx hb w k1 k2 => lv_icmp_ge hx hb hd ht (fun h => k1 ((leI (wf_hd w) (wf_hd (wf_tl w))).mp h)) (fun h => k2 (fun q => h ((leI (wf_hd w) (wf_hd (wf_tl w))).mpr q)))) K1 K2
theorem Wp.if_gt {x : Int} {off : Int} (tgt : Nat) (hd : decode Y.2.1 pc = .ok (.ifCond .gt off, 3)) (ht : (pc : Int) + off = (tgt : Int)) (K1 : x > 0 → Wp l G lw Y d ph Q tgt lv st m n bc bs) (K2 : ¬ (x > 0) → Wp l G lw Y d ph Q (pc + 3) lv st m n bc bs) : Wp l G lw Y d ph Q pc lv (.inl x :: st) m n bc bs :=
  Wp.br (C := x > 0) (st' := st) (fun v hv => List.mem_cons_of_mem _ hv) (fun _ _ _ _ _ _ _ _ _ _ _ _ _ _ _ hx hb w k1 k2 => lv_if_gt hx hb hd ht (fun h => k1 ((gtI0 (wf_hd w)).mp h)) (fun h => k2 (fun q => h ((gtI0 (wf_hd w)).mpr q)))) K1 K2
theorem Wp.icmp_gt {x y : Int} {off : Int} (tgt : Nat) (hd : decode Y.2.1 pc = .ok (.if_icmp .gt off, 3)) (ht : (pc : Int) + off = (tgt : Int)) (K1 : x > y → Wp l G lw Y d ph Q tgt lv st m n bc bs) (K2 : ¬ (x > y) → Wp l G lw Y d ph Q (pc + 3) lv st m n bc bs) : Wp l G lw Y d ph Q pc lv (.inl y :: .inl x :: st) m n bc bs :=
  Wp.br (C := x > y) (st' := st) (fun v hv => List.mem_cons_of_mem _ (List.mem_cons_of_mem _ hv)) (fun _ _ _ _ _ _ _ _ _ _ _ _ _ _ _ hx hb w k1 k2 => lv_icmp_gt hx hb hd ht (fun h => k1 ((ltI (wf_hd w) (wf_hd (wf_tl w))).mp h)) (fun h => k2 (fun q => h ((ltI (wf_hd w) (wf_hd (wf_tl w))).mpr q)))) K1 K2
theorem Wp.if_le {x : Int} {off : Int} (tgt : Nat) (hd : decode Y.2.1 pc = .ok (.ifCond .le off, 3)) (ht : (pc : Int) + off = (tgt : Int)) (K1 : x ≤ 0 → Wp l G lw Y d ph Q tgt lv st m n bc bs) (K2 : ¬ (x ≤ 0) → Wp l G lw Y d ph Q (pc + 3) lv st m n bc bs) : Wp l G lw Y d ph Q pc lv (.inl x :: st) m n bc bs :=
  Wp.br (C := x ≤ 0) (st' := st) (fun v hv => List.mem_cons_of_mem _ hv) (fun _ _ _ _ _ _ _ _ _ _ _ _ _ _ _ hx hb w k1 k2 => lv_if_le hx hb hd ht (fun h => k1 ((leI0 (wf_hd w)).mp h)) (fun h => k2 (fun q => h ((leI0 (wf_hd w)).mpr q)))) K1 K2
theorem Wp.icmp_le {x y : Int} {off : Int} (tgt : Nat) (hd : decode Y.2.1 pc = .ok (.if_icmp .le off, 3)) (ht : (pc : Int) + off = (tgt : Int)) (K1 : x ≤ y → Wp l G lw Y d ph Q tgt lv st m n bc bs) (K2 : ¬ (x ≤ y) → Wp l G lw Y d ph Q (pc + 3) lv st m n bc bs) : Wp l G lw Y d ph Q pc lv (.inl y :: .inl x :: st) m n bc bs :=
  Wp.br (C := x ≤ y) (st' := st) (fun v hv => List.mem_cons_of_mem _ (List.mem_cons_of_mem _ hv)) (fun _ _ _ _ _ _ _ _ _ _ _ _ _ _ _ hx hb w k1 k2 => lv_icmp_le hx hb hd ht (fun h => k1 ((leI (wf_hd (wf_tl w)) (wf_hd w)).mp h)) (fun h => k2 (fun q => h ((leI (wf_hd (wf_tl w)) (wf_hd w)).mpr q)))) K1 K2
end Steps2
