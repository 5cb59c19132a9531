/-! The constructors. -/
theorem dk_Tokens_init_0 : decode Y_Tokens_init.2.1 0 = .ok (.aload_n 0, 1) := by decide +kernel
theorem dk_Tokens_init_1 : decode Y_Tokens_init.2.1 1 = .ok (.invokespecial 1, 3) := by decide +kernel
theorem dk_Tokens_init_4 : decode Y_Tokens_init.2.1 4 = .ok (.aload_n 0, 1) := by decide +kernel
theorem dk_Tokens_init_5 : decode Y_Tokens_init.2.1 5 = .ok (.bipush 15, 2) := by decide +kernel
theorem dk_Tokens_init_7 : decode Y_Tokens_init.2.1 7 = .ok (.newarray .long, 2) := by decide +kernel
theorem dk_Tokens_init_9 : decode Y_Tokens_init.2.1 9 = .ok (.putfield 9, 3) := by decide +kernel
theorem dk_Tokens_init_12 : decode Y_Tokens_init.2.1 12 = .ok (.aload_n 0, 1) := by decide +kernel
theorem dk_Tokens_init_13 : decode Y_Tokens_init.2.1 13 = .ok (.iconst 0, 1) := by decide +kernel
theorem dk_Tokens_init_14 : decode Y_Tokens_init.2.1 14 = .ok (.newarray .int, 2) := by decide +kernel
theorem dk_Tokens_init_16 : decode Y_Tokens_init.2.1 16 = .ok (.putfield 13, 3) := by decide +kernel
theorem dk_Tokens_init_19 : decode Y_Tokens_init.2.1 19 = .ok (.iconst 0, 1) := by decide +kernel
theorem dk_Tokens_init_20 : decode Y_Tokens_init.2.1 20 = .ok (.istore_n 1, 1) := by decide +kernel
theorem dk_Tokens_init_21 : decode Y_Tokens_init.2.1 21 = .ok (.lconst 0, 1) := by decide +kernel
theorem dk_Tokens_init_22 : decode Y_Tokens_init.2.1 22 = .ok (.lstore_n 2, 1) := by decide +kernel
theorem dk_Tokens_init_23 : decode Y_Tokens_init.2.1 23 = .ok (.iconst 0, 1) := by decide +kernel
theorem dk_Tokens_init_24 : decode Y_Tokens_init.2.1 24 = .ok (.istore 4, 2) := by decide +kernel
theorem dk_Tokens_init_26 : decode Y_Tokens_init.2.1 26 = .ok (.iload 4, 2) := by decide +kernel
theorem dk_Tokens_init_28 : decode Y_Tokens_init.2.1 28 = .ok (.ldc 17, 2) := by decide +kernel
theorem dk_Tokens_init_30 : decode Y_Tokens_init.2.1 30 = .ok (.invokevirtual 19, 3) := by decide +kernel
theorem dk_Tokens_init_33 : decode Y_Tokens_init.2.1 33 = .ok (.if_icmp .ge 61, 3) := by decide +kernel
theorem dk_Tokens_init_36 : decode Y_Tokens_init.2.1 36 = .ok (.iload_n 1, 1) := by decide +kernel
theorem dk_Tokens_init_37 : decode Y_Tokens_init.2.1 37 = .ok (.bipush 15, 2) := by decide +kernel
theorem dk_Tokens_init_39 : decode Y_Tokens_init.2.1 39 = .ok (.if_icmp .ge 55, 3) := by decide +kernel
theorem dk_Tokens_init_42 : decode Y_Tokens_init.2.1 42 = .ok (.ldc 17, 2) := by decide +kernel
theorem dk_Tokens_init_44 : decode Y_Tokens_init.2.1 44 = .ok (.iload 4, 2) := by decide +kernel
theorem dk_Tokens_init_46 : decode Y_Tokens_init.2.1 46 = .ok (.invokevirtual 25, 3) := by decide +kernel
theorem dk_Tokens_init_49 : decode Y_Tokens_init.2.1 49 = .ok (.istore 5, 2) := by decide +kernel
theorem dk_Tokens_init_51 : decode Y_Tokens_init.2.1 51 = .ok (.iload 5, 2) := by decide +kernel
theorem dk_Tokens_init_53 : decode Y_Tokens_init.2.1 53 = .ok (.bipush 32, 2) := by decide +kernel
theorem dk_Tokens_init_55 : decode Y_Tokens_init.2.1 55 = .ok (.if_icmp .ne 18, 3) := by decide +kernel
theorem dk_Tokens_init_58 : decode Y_Tokens_init.2.1 58 = .ok (.aload_n 0, 1) := by decide +kernel
theorem dk_Tokens_init_59 : decode Y_Tokens_init.2.1 59 = .ok (.getfield 9, 3) := by decide +kernel
theorem dk_Tokens_init_62 : decode Y_Tokens_init.2.1 62 = .ok (.iload_n 1, 1) := by decide +kernel
theorem dk_Tokens_init_63 : decode Y_Tokens_init.2.1 63 = .ok (.lload_n 2, 1) := by decide +kernel
theorem dk_Tokens_init_64 : decode Y_Tokens_init.2.1 64 = .ok (.lastore, 1) := by decide +kernel
theorem dk_Tokens_init_65 : decode Y_Tokens_init.2.1 65 = .ok (.iinc 1 1, 3) := by decide +kernel
theorem dk_Tokens_init_68 : decode Y_Tokens_init.2.1 68 = .ok (.lconst 0, 1) := by decide +kernel
theorem dk_Tokens_init_69 : decode Y_Tokens_init.2.1 69 = .ok (.lstore_n 2, 1) := by decide +kernel
theorem dk_Tokens_init_70 : decode Y_Tokens_init.2.1 70 = .ok (.goto 18, 3) := by decide +kernel
theorem dk_Tokens_init_73 : decode Y_Tokens_init.2.1 73 = .ok (.lload_n 2, 1) := by decide +kernel
theorem dk_Tokens_init_74 : decode Y_Tokens_init.2.1 74 = .ok (.ldc2_w 29, 3) := by decide +kernel
theorem dk_Tokens_init_77 : decode Y_Tokens_init.2.1 77 = .ok (.lmul, 1) := by decide +kernel
theorem dk_Tokens_init_78 : decode Y_Tokens_init.2.1 78 = .ok (.iload 5, 2) := by decide +kernel
theorem dk_Tokens_init_80 : decode Y_Tokens_init.2.1 80 = .ok (.bipush 97, 2) := by decide +kernel
theorem dk_Tokens_init_82 : decode Y_Tokens_init.2.1 82 = .ok (.isub, 1) := by decide +kernel
theorem dk_Tokens_init_83 : decode Y_Tokens_init.2.1 83 = .ok (.iconst 1, 1) := by decide +kernel
theorem dk_Tokens_init_84 : decode Y_Tokens_init.2.1 84 = .ok (.iadd, 1) := by decide +kernel
theorem dk_Tokens_init_85 : decode Y_Tokens_init.2.1 85 = .ok (.i2l, 1) := by decide +kernel
theorem dk_Tokens_init_86 : decode Y_Tokens_init.2.1 86 = .ok (.ladd, 1) := by decide +kernel
theorem dk_Tokens_init_87 : decode Y_Tokens_init.2.1 87 = .ok (.lstore_n 2, 1) := by decide +kernel
theorem dk_Tokens_init_88 : decode Y_Tokens_init.2.1 88 = .ok (.iinc 4 1, 3) := by decide +kernel
theorem dk_Tokens_init_91 : decode Y_Tokens_init.2.1 91 = .ok (.goto (-65), 3) := by decide +kernel
theorem dk_Tokens_init_94 : decode Y_Tokens_init.2.1 94 = .ok (.return_, 1) := by decide +kernel
/-- the words, gone through letter by letter: how many lie behind, the number of the one at hand -/
def tkL : List (Int × Int) := [(0, 0), (0, 16), (0, 524), (0, 16769), (0, 536628), (0, 17172101), (1, 0), (1, 8), (1, 271), (1, 8684), (1, 277892), (1, 8892563), (2, 0), (2, 3), (2, 104), (2, 3349), (2, 107188), (2, 3430021), (3, 0), (3, 23), (3, 745), (3, 23844), (3, 763013), (4, 0), (4, 4), (4, 146), (4, 4673), (4, 149545), (4, 4785454), (5, 0), (5, 6), (5, 193), (5, 6188), (5, 198028), (5, 6336915), (6, 0), (6, 12), (6, 405), (6, 12963), (6, 414827), (7, 0), (7, 4), (7, 146), (7, 4673), (7, 149559), (8, 0), (8, 15), (8, 498), (9, 0), (9, 1), (9, 46), (9, 1476), (10, 0), (10, 14), (10, 463), (10, 14836), (11, 0), (11, 7), (11, 242), (11, 7745), (11, 247849), (11, 7931182), (11, 253797843), (12, 0), (12, 2), (12, 82), (12, 2633), (12, 84269), (13, 0), (13, 14), (13, 469), (13, 15021), (13, 480674), (13, 15381573), (13, 492210354), (14, 0), (14, 4), (14, 129), (14, 4153), (15, 0)]
def tkW (p : Int) : Int := (tkL.getD p.toNat (0, 0)).1
def tkX (p : Int) : Int := (tkL.getD p.toNat (0, 0)).2
theorem tk_tab : ∀ p : Fin 79, (0 ≤ tkW ((p.val : Nat) : Int) ∧ tkW ((p.val : Nat) : Int) < 15) ∧ (0 ≤ tkX ((p.val : Nat) : Int) ∧ tkX ((p.val : Nat) : Int) < 100000000000000) ∧ (0 ≤ cT ((p.val : Nat) : Int) ∧ cT ((p.val : Nat) : Int) < 256) ∧ (cT ((p.val : Nat) : Int) = 32 → KV (tkW ((p.val : Nat) : Int)) = tkX ((p.val : Nat) : Int) ∧ tkW ((p.val : Nat) + 1 : Int) = tkW ((p.val : Nat) : Int) + 1 ∧ tkX ((p.val : Nat) + 1 : Int) = 0) ∧ (cT ((p.val : Nat) : Int) ≠ 32 → tkW ((p.val : Nat) + 1 : Int) = tkW ((p.val : Nat) : Int) ∧ tkX ((p.val : Nat) + 1 : Int) = tkX ((p.val : Nat) : Int) * 32 + (cT ((p.val : Nat) : Int) - 97 + 1)) := by decide +kernel
theorem tk_ok {p : Int} (h0 : 0 ≤ p) (h1 : p < 79) : (0 ≤ tkW p ∧ tkW p < 15) ∧ (0 ≤ tkX p ∧ tkX p < 100000000000000) ∧ (0 ≤ cT p ∧ cT p < 256) ∧ (cT p = 32 → KV (tkW p) = tkX p ∧ tkW (p + 1) = tkW p + 1 ∧ tkX (p + 1) = 0) ∧ (cT p ≠ 32 → tkW (p + 1) = tkW p ∧ tkX (p + 1) = tkX p * 32 + (cT p - 97 + 1)) := by
  obtain ⟨q, rfl⟩ : ∃ q : Nat, p = (q : Int) := ⟨p.toNat, by omega⟩
  exact tk_tab ⟨q, by omega⟩
theorem tk_79 : tkW 79 = 15 := by decide +kernel
theorem tk_cd {w : Nat} {x : Int} (h : x = KV (w : Int)) : (fun j => if j = (w : Int) then x else cdF (.inr (w + 2)) j) = cdF (.inr (w + 1 + 2)) := by
  funext j
  show (if j = (w : Int) then x else if 0 ≤ j ∧ j < (w : Int) then KV j else 0) = if 0 ≤ j ∧ j < ((w + 1 : Nat) : Int) then KV j else 0
  by_cases q : j = (w : Int)
  · rw [if_pos q, if_pos (by omega), h, q]
  · rw [if_neg q]
    by_cases r : 0 ≤ j ∧ j < (w : Int)
    · rw [if_pos r, if_pos (by omega)]
    · rw [if_neg r, if_neg (by omega)]
theorem tk_0 : cdF (.inr 2) = cdF (.inr 0) := by
  funext j
  show (if 0 ≤ j ∧ j < ((0 : Nat) : Int) then KV j else 0) = 0
  rw [if_neg (by omega)]
theorem tk_loop {l : Launch} {G : GT} (hG : GVok G) {m : MM} : ∀ (t : Nat) (p : Int) (w : Nat) (x : Int), p + t = 79 → 0 ≤ p → (w : Int) = tkW p → x = tkX p → Wp l G false Y_Tokens_init 4 false (KQ 3 6 [.inl (9, [(1, 5), (0, 4)]), .inr 17, .inr 0] m) 26 [(0, .inr (.inr 3)), (1, .inl (w : Int)), (2, .inr (.inl x)), (4, .inl p)] [] (mkM 3 [.inl (9, [(1, 5), (0, 4)]), .inr (w + 2), .inr 0] m) 6 0 0 := by
  intro t
  induction t with
  | zero =>
    intro p w x hp p0 hw hx
    have ep : p = 79 := by omega
    subst ep
    rw [tk_79] at hw
    have ew : w = 15 := by omega
    subst ew
    refine Wp.iload 3 4 dk_Tokens_init_26 rfl ?_
    refine Wp.ldcT (i := 0) dk_Tokens_init_28 rfl (Or.inl ⟨rfl, rfl⟩) ?_
    refine Wp.callT (i := 0) (d2 := 1) (bc1 := 0) (bs1 := 0) (st := [.inl 79]) [] dk_Tokens_init_30 k_String_length ml_Tokens_19 (o_length (d := 0) hG) rfl (by decide) rfl (by decide) (fun h => by cases h) (Nat.le_of_ble_eq_true rfl) (Nat.le_refl 0) (Nat.le_refl 0) (fun r m1 n1 h => ?_)
    obtain ⟨rfl, rfl, rfl⟩ := h
    show Wp l G false Y_Tokens_init 4 false (KQ 3 6 [.inl (9, [(1, 5), (0, 4)]), .inr 17, .inr 0] m) 33 [(0, .inr (.inr 3)), (1, .inl ((15 : Nat) : Int)), (2, .inr (.inl x)), (4, .inl 79)] [.inl 79, .inl 79] (mkM 3 [.inl (9, [(1, 5), (0, 4)]), .inr 17, .inr 0] m) 6 0 0
    refine Wp.icmp_ge 94 dk_Tokens_init_33 (by decide) (fun _ => ?_) (fun q => absurd (Int.le_refl 79) q)
    exact Wp.vret dk_Tokens_init_94 rfl ⟨rfl, rfl, rfl⟩
  | succ t ih =>
    intro p w x hp p0 hw hx
    have p1 : p < 79 := by omega
    obtain ⟨⟨t1, t2⟩, ⟨t3, t4⟩, ⟨t5, t6⟩, t7, t8⟩ := tk_ok p0 p1
    rw [← hw] at t1 t2 t7 t8
    rw [← hx] at t3 t4 t7 t8
    generalize hM : mkM 3 [.inl (9, [(1, 5), (0, 4)]), .inr (w + 2), .inr 0] m = m1
    refine Wp.iload 3 4 dk_Tokens_init_26 rfl ?_
    refine Wp.ldcT (i := 0) dk_Tokens_init_28 rfl (Or.inl ⟨rfl, rfl⟩) ?_
    refine Wp.callT (i := 0) (d2 := 1) (bc1 := 0) (bs1 := 0) (st := [.inl p]) [] dk_Tokens_init_30 k_String_length ml_Tokens_19 (o_length (d := 0) hG) rfl (by decide) rfl (by decide) (fun h => by cases h) (Nat.le_of_ble_eq_true rfl) (Nat.le_refl 0) (Nat.le_refl 0) (fun r m2 n2 h => ?_)
    obtain ⟨rfl, rfl, rfl⟩ := h
    show Wp l G false Y_Tokens_init 4 false (KQ 3 6 [.inl (9, [(1, 5), (0, 4)]), .inr 17, .inr 0] m) 33 [(0, .inr (.inr 3)), (1, .inl (w : Int)), (2, .inr (.inl x)), (4, .inl p)] [.inl 79, .inl p] _ 6 0 0
    refine Wp.icmp_ge 94 dk_Tokens_init_33 (by decide) (fun q => absurd q (by omega)) (fun _ => ?_)
    refine Wp.iload_n 1 1 dk_Tokens_init_36 rfl rfl ?_
    refine Wp.bipush dk_Tokens_init_37 (by decide) (by decide) ?_
    refine Wp.icmp_ge 94 dk_Tokens_init_39 (by decide) (fun q => absurd q (by omega)) (fun _ => ?_)
    refine Wp.ldcT (i := 0) dk_Tokens_init_42 rfl (Or.inl ⟨rfl, rfl⟩) ?_
    refine Wp.iload 3 4 dk_Tokens_init_44 rfl ?_
    refine Wp.callT (i := 0) (d2 := 3) (bc1 := 0) (bs1 := 0) (st := []) [.inl p] dk_Tokens_init_46 k_String_charAt ml_Tokens_25 (o_char (d := 0) hG p0 p1) rfl (by decide) rfl (by decide) (fun h => by cases h) (Nat.le_of_ble_eq_true rfl) (Nat.le_refl 0) (Nat.le_refl 0) (fun r m3 n3 h => ?_)
    obtain ⟨rfl, rfl, rfl⟩ := h
    show Wp l G false Y_Tokens_init 4 false (KQ 3 6 [.inl (9, [(1, 5), (0, 4)]), .inr 17, .inr 0] m) 49 [(0, .inr (.inr 3)), (1, .inl (w : Int)), (2, .inr (.inl x)), (4, .inl p)] [.inl (cT p)] _ 6 0 0
    refine Wp.istore 5 [(0, .inr (.inr 3)), (1, .inl (w : Int)), (2, .inr (.inl x)), (4, .inl p), (5, .inl (cT p))] dk_Tokens_init_49 (by decide) rfl ?_
    refine Wp.iload 4 5 dk_Tokens_init_51 rfl ?_
    refine Wp.bipush dk_Tokens_init_53 (by decide) (by decide) ?_
    refine Wp.icmp_ne 73 dk_Tokens_init_55 (by decide) (fun q => ?_) (fun q => ?_)
    · obtain ⟨u1, u2⟩ := t8 q
      refine Wp.lload_n 2 2 dk_Tokens_init_73 rfl rfl ?_
      refine Wp.ldc2 (z := 32) dk_Tokens_init_74 kl_Tokens_29 (by decide) (by decide) ?_
      refine Wp.lmul dk_Tokens_init_77 ?_
      refine Wp.iload 4 5 dk_Tokens_init_78 rfl ?_
      refine Wp.bipush dk_Tokens_init_80 (by decide) (by decide) ?_
      refine Wp.isub dk_Tokens_init_82 (by unfold inR; omega) ?_
      refine Wp.iconst dk_Tokens_init_83 (by decide) ?_
      refine Wp.iadd dk_Tokens_init_84 (by unfold inR; omega) ?_
      refine Wp.i2l dk_Tokens_init_85 ?_
      refine Wp.ladd dk_Tokens_init_86 ?_
      rw [w64_id (z := x * 32) (by unfold inL; omega), w64_id (z := x * 32 + (cT p - 97 + 1)) (by unfold inL; omega)]
      refine Wp.lstore_n 2 [(0, .inr (.inr 3)), (1, .inl (w : Int)), (2, .inr (.inl (x * 32 + (cT p - 97 + 1)))), (4, .inl p), (5, .inl (cT p))] dk_Tokens_init_87 rfl (by decide) rfl ?_
      refine Wp.iinc 3 4 [(0, .inr (.inr 3)), (1, .inl (w : Int)), (2, .inr (.inl (x * 32 + (cT p - 97 + 1)))), (4, .inl (p + 1)), (5, .inl (cT p))] dk_Tokens_init_88 rfl (by unfold inR; omega) (by decide) rfl ?_
      refine Wp.goto 26 dk_Tokens_init_91 (by decide) ?_
      refine Wp.pick [0, 1, 2, 3] [(0, .inr (.inr 3)), (1, .inl (w : Int)), (2, .inr (.inl (x * 32 + (cT p - 97 + 1)))), (4, .inl (p + 1))] rfl ?_
      rw [← hM]
      exact ih (p + 1) w (x * 32 + (cT p - 97 + 1)) (by omega) (by omega) u1.symm u2.symm
    · obtain ⟨u0, u1, u2⟩ := t7 (Classical.not_not.mp q)
      refine Wp.aload_n 0 0 dk_Tokens_init_58 rfl rfl ?_
      refine Wp.getR 4 dk_Tokens_init_59 fl_Tokens_9 rfl (Or.inr (by decide)) rfl (by rw [← hM]; rfl) ?_
      refine Wp.iload_n 1 1 dk_Tokens_init_62 rfl rfl ?_
      refine Wp.lload_n 2 2 dk_Tokens_init_63 rfl rfl ?_
      refine Wp.last1 (a := 4) (len := 15) dk_Tokens_init_64 rfl (by decide) t1 t2 ?_
      have e := mk_set (a0 := 3) (a := 4) (t := 1) (L := [.inl (9, [(1, 5), (0, 4)]), .inr (w + 2), .inr 0]) (m0 := m) (x := .inr (w + 2)) (y := .inr (w + 1 + 2)) (ki := (w : Int)) (z := x) rfl rfl (tk_cd u0.symm)
      rw [← hM, e]
      show Wp l G false Y_Tokens_init 4 false (KQ 3 6 [.inl (9, [(1, 5), (0, 4)]), .inr 17, .inr 0] m) 65 [(0, .inr (.inr 3)), (1, .inl (w : Int)), (2, .inr (.inl x)), (4, .inl p), (5, .inl (cT p))] [] (mkM 3 [.inl (9, [(1, 5), (0, 4)]), .inr (w + 1 + 2), .inr 0] m) 6 0 0
      refine Wp.iinc 1 1 [(0, .inr (.inr 3)), (1, .inl ((w : Int) + 1)), (2, .inr (.inl x)), (4, .inl p), (5, .inl (cT p))] dk_Tokens_init_65 rfl (by unfold inR; omega) (by decide) rfl ?_
      refine Wp.lconst (x := 0) dk_Tokens_init_68 (by decide) (by decide) ?_
      refine Wp.lstore_n 2 [(0, .inr (.inr 3)), (1, .inl ((w : Int) + 1)), (2, .inr (.inl 0)), (4, .inl p), (5, .inl (cT p))] dk_Tokens_init_69 rfl (by decide) rfl ?_
      refine Wp.goto 88 dk_Tokens_init_70 (by decide) ?_
      refine Wp.iinc 3 4 [(0, .inr (.inr 3)), (1, .inl ((w : Int) + 1)), (2, .inr (.inl 0)), (4, .inl (p + 1)), (5, .inl (cT p))] dk_Tokens_init_88 rfl (by unfold inR; omega) (by decide) rfl ?_
      refine Wp.goto 26 dk_Tokens_init_91 (by decide) ?_
      refine Wp.pick [0, 1, 2, 3] [(0, .inr (.inr 3)), (1, .inl ((w : Int) + 1)), (2, .inr (.inl 0)), (4, .inl (p + 1))] rfl ?_
      have ew : (w : Int) + 1 = ((w + 1 : Nat) : Int) := by omega
      rw [ew] at u1 ⊢
      exact ih (p + 1) (w + 1) 0 (by omega) (by omega) u1.symm u2.symm
theorem kk_Tokens_3 {l : Launch} {G : GT} (hG : GVok G) : KO l G Y_Tokens_init 4 3 9 2 15 6 [.inl (9, [(1, 5), (0, 4)]), .inr 17, .inr 0] := by
  refine KO.of k_Tokens_init (by decide) (fun m => ?_)
  refine Wp.aload_n 0 0 dk_Tokens_init_0 rfl rfl ?_
  refine Wp.oinit dk_Tokens_init_1 oi_Tokens (by omega) (Nat.le_of_ble_eq_true rfl) ?_
  refine Wp.aload_n 0 0 dk_Tokens_init_4 rfl rfl ?_
  refine Wp.bipush dk_Tokens_init_5 (by decide) (by decide) ?_
  refine Wp.kJ 15 5 1 0 [.inl (9, []), .inr 0] rfl dk_Tokens_init_7 rfl (by decide) rfl ?_
  refine Wp.kP (k := 0) 0 [] 4 0 [.inl (9, [(0, 4)]), .inr 0] rfl dk_Tokens_init_9 fl_Tokens_9 rfl (Or.inr ⟨rfl, rfl, rfl⟩) rfl (by decide) rfl (fun _ => trivial) rfl rfl ?_
  refine Wp.aload_n 0 0 dk_Tokens_init_12 rfl rfl ?_
  refine Wp.iconst dk_Tokens_init_13 (by decide) ?_
  refine Wp.kI 0 6 0 0 [.inl (9, [(0, 4)]), .inr 0, .inr 0] rfl dk_Tokens_init_14 rfl (by decide) rfl ?_
  refine Wp.kP (k := 1) 0 [(0, 4)] 5 1 [.inl (9, [(1, 5), (0, 4)]), .inr 0, .inr 0] rfl dk_Tokens_init_16 fl_Tokens_13 rfl (Or.inl rfl) rfl (by decide) rfl (fun _ => trivial) rfl rfl ?_
  refine Wp.iconst dk_Tokens_init_19 (by decide) ?_
  refine Wp.istore_n 1 [(0, .inr (.inr 3)), (1, .inl 0)] dk_Tokens_init_20 rfl (by decide) rfl ?_
  refine Wp.lconst (x := 0) dk_Tokens_init_21 (by decide) (by decide) ?_
  refine Wp.lstore_n 2 [(0, .inr (.inr 3)), (1, .inl 0), (2, .inr (.inl 0))] dk_Tokens_init_22 rfl (by decide) rfl ?_
  refine Wp.iconst dk_Tokens_init_23 (by decide) ?_
  refine Wp.istore 4 [(0, .inr (.inr 3)), (1, .inl 0), (2, .inr (.inl 0)), (4, .inl 0)] dk_Tokens_init_24 (by decide) rfl ?_
  have e : mkM 3 [.inl (9, [(1, 5), (0, 4)]), .inr 0, .inr 0] m = mkM 3 [.inl (9, [(1, 5), (0, 4)]), .inr (0 + 2), .inr 0] m := by
    refine mk_ext (fun b hb => ?_) (fun t x hx => ?_)
    · rcases hb with q | q
      · exact mk_lo q
      · exact mk_hi q
    · have ht : t < 3 := (List.getElem?_eq_some_iff.mp hx).1
      have h9 : t = 0 ∨ t = 1 ∨ t = 2 := by omega
      rcases h9 with rfl | rfl | rfl <;> cases hx
      · exact mk_at rfl
      · rw [mk_at (x := .inr 0) rfl]
        exact tk_0.symm
      · exact mk_at rfl
  rw [e]
  exact tk_loop hG 79 0 0 0 (by omega) (by omega) (by decide +kernel) (by decide +kernel)
theorem dk_Reader_init_0 : decode Y_Reader_init.2.1 0 = .ok (.aload_n 0, 1) := by decide +kernel
theorem dk_Reader_init_1 : decode Y_Reader_init.2.1 1 = .ok (.invokespecial 3, 3) := by decide +kernel
theorem dk_Reader_init_4 : decode Y_Reader_init.2.1 4 = .ok (.aload_n 0, 1) := by decide +kernel
theorem dk_Reader_init_5 : decode Y_Reader_init.2.1 5 = .ok (.new 9, 3) := by decide +kernel
theorem dk_Reader_init_8 : decode Y_Reader_init.2.1 8 = .ok (.dup, 1) := by decide +kernel
theorem dk_Reader_init_9 : decode Y_Reader_init.2.1 9 = .ok (.invokespecial 11, 3) := by decide +kernel
theorem dk_Reader_init_12 : decode Y_Reader_init.2.1 12 = .ok (.putfield 12, 3) := by decide +kernel
theorem dk_Reader_init_15 : decode Y_Reader_init.2.1 15 = .ok (.aload_n 0, 1) := by decide +kernel
theorem dk_Reader_init_16 : decode Y_Reader_init.2.1 16 = .ok (.iconst 5, 1) := by decide +kernel
theorem dk_Reader_init_17 : decode Y_Reader_init.2.1 17 = .ok (.newarray .long, 2) := by decide +kernel
theorem dk_Reader_init_19 : decode Y_Reader_init.2.1 19 = .ok (.putfield 18, 3) := by decide +kernel
theorem dk_Reader_init_22 : decode Y_Reader_init.2.1 22 = .ok (.return_, 1) := by decide +kernel
theorem kk_Reader_2 {l : Launch} {G : GT} (hG : GVok G) : KO l G Y_Reader_init 5 2 6 4 27 7 [.inl (6, [(1, 6), (0, 3)]), .inl (9, [(1, 5), (0, 4)]), .inr 17, .inr 0, .inr 0] := by
  refine KO.of k_Reader_init (by decide) (fun m => ?_)
  refine Wp.aload_n 0 0 dk_Reader_init_0 rfl rfl ?_
  refine Wp.oinit dk_Reader_init_1 oi_Reader (by omega) (Nat.le_of_ble_eq_true rfl) ?_
  refine Wp.aload_n 0 0 dk_Reader_init_4 rfl rfl ?_
  refine Wp.kN (c := 9) 7 4 3 20 [.inl (6, []), .inl (9, [])] dk_Reader_init_5 cl_Reader_9 rfl rfl (by decide) rfl ?_
  refine Wp.dup dk_Reader_init_8 rfl ?_
  refine Wp.kC 1 4 2 15 6 1 5 [.inl (9, [(1, 5), (0, 4)]), .inr 17, .inr 0] [.inl (6, []), .inl (9, [(1, 5), (0, 4)]), .inr 17, .inr 0] dk_Reader_init_9 k_Tokens_init rfl (Or.inl ml_Reader_11) (kk_Tokens_3 hG) (fun h => by cases h) (Nat.le_of_ble_eq_true rfl) rfl (by decide) rfl ?_
  refine Wp.kP (k := 0) 0 [] 3 0 [.inl (6, [(0, 3)]), .inl (9, [(1, 5), (0, 4)]), .inr 17, .inr 0] rfl dk_Reader_init_12 fl_Reader_12 rfl (Or.inr ⟨rfl, rfl, rfl⟩) rfl (by decide) rfl (fun _ => trivial) rfl rfl ?_
  refine Wp.aload_n 0 0 dk_Reader_init_15 rfl rfl ?_
  refine Wp.iconst dk_Reader_init_16 (by decide) ?_
  refine Wp.kJ 5 7 0 0 [.inl (6, [(0, 3)]), .inl (9, [(1, 5), (0, 4)]), .inr 17, .inr 0, .inr 0] rfl dk_Reader_init_17 rfl (by decide) rfl ?_
  refine Wp.kP (k := 1) 0 [(0, 3)] 6 1 [.inl (6, [(1, 6), (0, 3)]), .inl (9, [(1, 5), (0, 4)]), .inr 17, .inr 0, .inr 0] rfl dk_Reader_init_19 fl_Reader_18 rfl (Or.inr ⟨rfl, rfl, rfl⟩) rfl (by decide) rfl (fun _ => trivial) rfl rfl ?_
  exact Wp.vret dk_Reader_init_22 rfl ⟨rfl, rfl, rfl⟩
theorem dk_Formula_init_0 : decode Y_Formula_init.2.1 0 = .ok (.aload_n 0, 1) := by decide +kernel
theorem dk_Formula_init_1 : decode Y_Formula_init.2.1 1 = .ok (.invokespecial 1, 3) := by decide +kernel
theorem dk_Formula_init_4 : decode Y_Formula_init.2.1 4 = .ok (.aload_n 0, 1) := by decide +kernel
theorem dk_Formula_init_5 : decode Y_Formula_init.2.1 5 = .ok (.sipush 300, 3) := by decide +kernel
theorem dk_Formula_init_8 : decode Y_Formula_init.2.1 8 = .ok (.newarray .int, 2) := by decide +kernel
theorem dk_Formula_init_10 : decode Y_Formula_init.2.1 10 = .ok (.putfield 9, 3) := by decide +kernel
theorem dk_Formula_init_13 : decode Y_Formula_init.2.1 13 = .ok (.aload_n 0, 1) := by decide +kernel
theorem dk_Formula_init_14 : decode Y_Formula_init.2.1 14 = .ok (.bipush 40, 2) := by decide +kernel
theorem dk_Formula_init_16 : decode Y_Formula_init.2.1 16 = .ok (.newarray .int, 2) := by decide +kernel
theorem dk_Formula_init_18 : decode Y_Formula_init.2.1 18 = .ok (.putfield 13, 3) := by decide +kernel
theorem dk_Formula_init_21 : decode Y_Formula_init.2.1 21 = .ok (.return_, 1) := by decide +kernel
theorem kk_Formula_13 {l : Launch} {G : GT} : KO l G Y_Formula_init 1 13 3 2 340 16 [.inl (3, [(1, 15), (0, 14)]), .inr 0, .inr 0] := by
  refine KO.of k_Formula_init (by decide) (fun m => ?_)
  refine Wp.aload_n 0 0 dk_Formula_init_0 rfl rfl ?_
  refine Wp.oinit dk_Formula_init_1 oi_Formula (by omega) (Nat.le_of_ble_eq_true rfl) ?_
  refine Wp.aload_n 0 0 dk_Formula_init_4 rfl rfl ?_
  refine Wp.sipush dk_Formula_init_5 (by decide) (by decide) ?_
  refine Wp.kI 300 15 1 40 [.inl (3, []), .inr 0] rfl dk_Formula_init_8 rfl (by decide) rfl ?_
  refine Wp.kP (k := 0) 0 [] 14 0 [.inl (3, [(0, 14)]), .inr 0] rfl dk_Formula_init_10 fl_Formula_9 rfl (Or.inr ⟨rfl, rfl, rfl⟩) rfl (by decide) rfl (fun _ => trivial) rfl rfl ?_
  refine Wp.aload_n 0 0 dk_Formula_init_13 rfl rfl ?_
  refine Wp.bipush dk_Formula_init_14 (by decide) (by decide) ?_
  refine Wp.kI 40 16 0 0 [.inl (3, [(0, 14)]), .inr 0, .inr 0] rfl dk_Formula_init_16 rfl (by decide) rfl ?_
  refine Wp.kP (k := 1) 0 [(0, 14)] 15 1 [.inl (3, [(1, 15), (0, 14)]), .inr 0, .inr 0] rfl dk_Formula_init_18 fl_Formula_13 rfl (Or.inr ⟨rfl, rfl, rfl⟩) rfl (by decide) rfl (fun _ => trivial) rfl rfl ?_
  exact Wp.vret dk_Formula_init_21 rfl ⟨rfl, rfl, rfl⟩
theorem dk_Board_init_0 : decode Y_Board_init.2.1 0 = .ok (.aload_n 0, 1) := by decide +kernel
theorem dk_Board_init_1 : decode Y_Board_init.2.1 1 = .ok (.invokespecial 3, 3) := by decide +kernel
theorem dk_Board_init_4 : decode Y_Board_init.2.1 4 = .ok (.aload_n 0, 1) := by decide +kernel
theorem dk_Board_init_5 : decode Y_Board_init.2.1 5 = .ok (.iconst 5, 1) := by decide +kernel
theorem dk_Board_init_6 : decode Y_Board_init.2.1 6 = .ok (.newarray .int, 2) := by decide +kernel
theorem dk_Board_init_8 : decode Y_Board_init.2.1 8 = .ok (.putfield 9, 3) := by decide +kernel
theorem dk_Board_init_11 : decode Y_Board_init.2.1 11 = .ok (.aload_n 0, 1) := by decide +kernel
theorem dk_Board_init_12 : decode Y_Board_init.2.1 12 = .ok (.bipush 25, 2) := by decide +kernel
theorem dk_Board_init_14 : decode Y_Board_init.2.1 14 = .ok (.newarray .int, 2) := by decide +kernel
theorem dk_Board_init_16 : decode Y_Board_init.2.1 16 = .ok (.putfield 15, 3) := by decide +kernel
theorem dk_Board_init_19 : decode Y_Board_init.2.1 19 = .ok (.aload_n 0, 1) := by decide +kernel
theorem dk_Board_init_20 : decode Y_Board_init.2.1 20 = .ok (.iconst 5, 1) := by decide +kernel
theorem dk_Board_init_21 : decode Y_Board_init.2.1 21 = .ok (.newarray .int, 2) := by decide +kernel
theorem dk_Board_init_23 : decode Y_Board_init.2.1 23 = .ok (.putfield 18, 3) := by decide +kernel
theorem dk_Board_init_26 : decode Y_Board_init.2.1 26 = .ok (.aload_n 0, 1) := by decide +kernel
theorem dk_Board_init_27 : decode Y_Board_init.2.1 27 = .ok (.iconst 5, 1) := by decide +kernel
theorem dk_Board_init_28 : decode Y_Board_init.2.1 28 = .ok (.newarray .int, 2) := by decide +kernel
theorem dk_Board_init_30 : decode Y_Board_init.2.1 30 = .ok (.putfield 21, 3) := by decide +kernel
theorem dk_Board_init_33 : decode Y_Board_init.2.1 33 = .ok (.aload_n 0, 1) := by decide +kernel
theorem dk_Board_init_34 : decode Y_Board_init.2.1 34 = .ok (.iconst 5, 1) := by decide +kernel
theorem dk_Board_init_35 : decode Y_Board_init.2.1 35 = .ok (.newarray .int, 2) := by decide +kernel
theorem dk_Board_init_37 : decode Y_Board_init.2.1 37 = .ok (.putfield 24, 3) := by decide +kernel
theorem dk_Board_init_40 : decode Y_Board_init.2.1 40 = .ok (.aload_n 0, 1) := by decide +kernel
theorem dk_Board_init_41 : decode Y_Board_init.2.1 41 = .ok (.new 27, 3) := by decide +kernel
theorem dk_Board_init_44 : decode Y_Board_init.2.1 44 = .ok (.dup, 1) := by decide +kernel
theorem dk_Board_init_45 : decode Y_Board_init.2.1 45 = .ok (.invokespecial 29, 3) := by decide +kernel
theorem dk_Board_init_48 : decode Y_Board_init.2.1 48 = .ok (.putfield 30, 3) := by decide +kernel
theorem dk_Board_init_51 : decode Y_Board_init.2.1 51 = .ok (.return_, 1) := by decide +kernel
theorem kk_Board_7 {l : Launch} {G : GT} : KO l G Y_Board_init 2 7 1 8 388 16 [.inl (1, [(10, 13), (9, 12), (8, 11), (7, 10), (6, 9), (5, 8)]), .inr 0, .inr 0, .inr 0, .inr 0, .inr 0, .inl (3, [(1, 15), (0, 14)]), .inr 0, .inr 0] := by
  refine KO.of k_Board_init (by decide) (fun m => ?_)
  refine Wp.aload_n 0 0 dk_Board_init_0 rfl rfl ?_
  refine Wp.oinit dk_Board_init_1 oi_Board (by omega) (Nat.le_of_ble_eq_true rfl) ?_
  refine Wp.aload_n 0 0 dk_Board_init_4 rfl rfl ?_
  refine Wp.iconst dk_Board_init_5 (by decide) ?_
  refine Wp.kI 5 9 7 383 [.inl (1, []), .inr 0] rfl dk_Board_init_6 rfl (by decide) rfl ?_
  refine Wp.kP (k := 5) 0 [] 8 5 [.inl (1, [(5, 8)]), .inr 0] rfl dk_Board_init_8 fl_Board_9 rfl (Or.inr ⟨rfl, rfl, rfl⟩) rfl (by decide) rfl (fun _ => trivial) rfl rfl ?_
  refine Wp.aload_n 0 0 dk_Board_init_11 rfl rfl ?_
  refine Wp.bipush dk_Board_init_12 (by decide) (by decide) ?_
  refine Wp.kI 25 10 6 358 [.inl (1, [(5, 8)]), .inr 0, .inr 0] rfl dk_Board_init_14 rfl (by decide) rfl ?_
  refine Wp.kP (k := 6) 0 [(5, 8)] 9 6 [.inl (1, [(6, 9), (5, 8)]), .inr 0, .inr 0] rfl dk_Board_init_16 fl_Board_15 rfl (Or.inr ⟨rfl, rfl, rfl⟩) rfl (by decide) rfl (fun _ => trivial) rfl rfl ?_
  refine Wp.aload_n 0 0 dk_Board_init_19 rfl rfl ?_
  refine Wp.iconst dk_Board_init_20 (by decide) ?_
  refine Wp.kI 5 11 5 353 [.inl (1, [(6, 9), (5, 8)]), .inr 0, .inr 0, .inr 0] rfl dk_Board_init_21 rfl (by decide) rfl ?_
  refine Wp.kP (k := 7) 0 [(6, 9), (5, 8)] 10 7 [.inl (1, [(7, 10), (6, 9), (5, 8)]), .inr 0, .inr 0, .inr 0] rfl dk_Board_init_23 fl_Board_18 rfl (Or.inr ⟨rfl, rfl, rfl⟩) rfl (by decide) rfl (fun _ => trivial) rfl rfl ?_
  refine Wp.aload_n 0 0 dk_Board_init_26 rfl rfl ?_
  refine Wp.iconst dk_Board_init_27 (by decide) ?_
  refine Wp.kI 5 12 4 348 [.inl (1, [(7, 10), (6, 9), (5, 8)]), .inr 0, .inr 0, .inr 0, .inr 0] rfl dk_Board_init_28 rfl (by decide) rfl ?_
  refine Wp.kP (k := 8) 0 [(7, 10), (6, 9), (5, 8)] 11 8 [.inl (1, [(8, 11), (7, 10), (6, 9), (5, 8)]), .inr 0, .inr 0, .inr 0, .inr 0] rfl dk_Board_init_30 fl_Board_21 rfl (Or.inr ⟨rfl, rfl, rfl⟩) rfl (by decide) rfl (fun _ => trivial) rfl rfl ?_
  refine Wp.aload_n 0 0 dk_Board_init_33 rfl rfl ?_
  refine Wp.iconst dk_Board_init_34 (by decide) ?_
  refine Wp.kI 5 13 3 343 [.inl (1, [(8, 11), (7, 10), (6, 9), (5, 8)]), .inr 0, .inr 0, .inr 0, .inr 0, .inr 0] rfl dk_Board_init_35 rfl (by decide) rfl ?_
  refine Wp.kP (k := 9) 0 [(8, 11), (7, 10), (6, 9), (5, 8)] 12 9 [.inl (1, [(9, 12), (8, 11), (7, 10), (6, 9), (5, 8)]), .inr 0, .inr 0, .inr 0, .inr 0, .inr 0] rfl dk_Board_init_37 fl_Board_24 rfl (Or.inr ⟨rfl, rfl, rfl⟩) rfl (by decide) rfl (fun _ => trivial) rfl rfl ?_
  refine Wp.aload_n 0 0 dk_Board_init_40 rfl rfl ?_
  refine Wp.kN (c := 3) 3 14 2 340 [.inl (1, [(9, 12), (8, 11), (7, 10), (6, 9), (5, 8)]), .inr 0, .inr 0, .inr 0, .inr 0, .inr 0, .inl (3, [])] dk_Board_init_41 cl_Board_27 rfl rfl (by decide) rfl ?_
  refine Wp.dup dk_Board_init_44 rfl ?_
  refine Wp.kC 6 1 2 340 16 0 0 [.inl (3, [(1, 15), (0, 14)]), .inr 0, .inr 0] [.inl (1, [(9, 12), (8, 11), (7, 10), (6, 9), (5, 8)]), .inr 0, .inr 0, .inr 0, .inr 0, .inr 0, .inl (3, [(1, 15), (0, 14)]), .inr 0, .inr 0] dk_Board_init_45 k_Formula_init rfl (Or.inr (List.mem_of_getElem? (i := 2) rfl)) (kk_Formula_13) (fun h => by cases h) (Nat.le_of_ble_eq_true rfl) rfl (by decide) rfl ?_
  refine Wp.kP (k := 10) 0 [(9, 12), (8, 11), (7, 10), (6, 9), (5, 8)] 13 10 [.inl (1, [(10, 13), (9, 12), (8, 11), (7, 10), (6, 9), (5, 8)]), .inr 0, .inr 0, .inr 0, .inr 0, .inr 0, .inl (3, [(1, 15), (0, 14)]), .inr 0, .inr 0] rfl dk_Board_init_48 fl_Board_30 rfl (Or.inr ⟨rfl, rfl, rfl⟩) rfl (by decide) rfl (fun _ => trivial) rfl rfl ?_
  exact Wp.vret dk_Board_init_51 rfl ⟨rfl, rfl, rfl⟩
theorem kk_Formula_22 {l : Launch} {G : GT} : KO l G Y_Formula_init 1 22 3 2 340 25 [.inl (3, [(1, 24), (0, 23)]), .inr 0, .inr 0] := by
  refine KO.of k_Formula_init (by decide) (fun m => ?_)
  refine Wp.aload_n 0 0 dk_Formula_init_0 rfl rfl ?_
  refine Wp.oinit dk_Formula_init_1 oi_Formula (by omega) (Nat.le_of_ble_eq_true rfl) ?_
  refine Wp.aload_n 0 0 dk_Formula_init_4 rfl rfl ?_
  refine Wp.sipush dk_Formula_init_5 (by decide) (by decide) ?_
  refine Wp.kI 300 24 1 40 [.inl (3, []), .inr 0] rfl dk_Formula_init_8 rfl (by decide) rfl ?_
  refine Wp.kP (k := 0) 0 [] 23 0 [.inl (3, [(0, 23)]), .inr 0] rfl dk_Formula_init_10 fl_Formula_9 rfl (Or.inr ⟨rfl, rfl, rfl⟩) rfl (by decide) rfl (fun _ => trivial) rfl rfl ?_
  refine Wp.aload_n 0 0 dk_Formula_init_13 rfl rfl ?_
  refine Wp.bipush dk_Formula_init_14 (by decide) (by decide) ?_
  refine Wp.kI 40 25 0 0 [.inl (3, [(0, 23)]), .inr 0, .inr 0] rfl dk_Formula_init_16 rfl (by decide) rfl ?_
  refine Wp.kP (k := 1) 0 [(0, 23)] 24 1 [.inl (3, [(1, 24), (0, 23)]), .inr 0, .inr 0] rfl dk_Formula_init_18 fl_Formula_13 rfl (Or.inr ⟨rfl, rfl, rfl⟩) rfl (by decide) rfl (fun _ => trivial) rfl rfl ?_
  exact Wp.vret dk_Formula_init_21 rfl ⟨rfl, rfl, rfl⟩
theorem kk_Board_16 {l : Launch} {G : GT} : KO l G Y_Board_init 2 16 1 8 388 25 [.inl (1, [(10, 22), (9, 21), (8, 20), (7, 19), (6, 18), (5, 17)]), .inr 0, .inr 0, .inr 0, .inr 0, .inr 0, .inl (3, [(1, 24), (0, 23)]), .inr 0, .inr 0] := by
  refine KO.of k_Board_init (by decide) (fun m => ?_)
  refine Wp.aload_n 0 0 dk_Board_init_0 rfl rfl ?_
  refine Wp.oinit dk_Board_init_1 oi_Board (by omega) (Nat.le_of_ble_eq_true rfl) ?_
  refine Wp.aload_n 0 0 dk_Board_init_4 rfl rfl ?_
  refine Wp.iconst dk_Board_init_5 (by decide) ?_
  refine Wp.kI 5 18 7 383 [.inl (1, []), .inr 0] rfl dk_Board_init_6 rfl (by decide) rfl ?_
  refine Wp.kP (k := 5) 0 [] 17 5 [.inl (1, [(5, 17)]), .inr 0] rfl dk_Board_init_8 fl_Board_9 rfl (Or.inr ⟨rfl, rfl, rfl⟩) rfl (by decide) rfl (fun _ => trivial) rfl rfl ?_
  refine Wp.aload_n 0 0 dk_Board_init_11 rfl rfl ?_
  refine Wp.bipush dk_Board_init_12 (by decide) (by decide) ?_
  refine Wp.kI 25 19 6 358 [.inl (1, [(5, 17)]), .inr 0, .inr 0] rfl dk_Board_init_14 rfl (by decide) rfl ?_
  refine Wp.kP (k := 6) 0 [(5, 17)] 18 6 [.inl (1, [(6, 18), (5, 17)]), .inr 0, .inr 0] rfl dk_Board_init_16 fl_Board_15 rfl (Or.inr ⟨rfl, rfl, rfl⟩) rfl (by decide) rfl (fun _ => trivial) rfl rfl ?_
  refine Wp.aload_n 0 0 dk_Board_init_19 rfl rfl ?_
  refine Wp.iconst dk_Board_init_20 (by decide) ?_
  refine Wp.kI 5 20 5 353 [.inl (1, [(6, 18), (5, 17)]), .inr 0, .inr 0, .inr 0] rfl dk_Board_init_21 rfl (by decide) rfl ?_
  refine Wp.kP (k := 7) 0 [(6, 18), (5, 17)] 19 7 [.inl (1, [(7, 19), (6, 18), (5, 17)]), .inr 0, .inr 0, .inr 0] rfl dk_Board_init_23 fl_Board_18 rfl (Or.inr ⟨rfl, rfl, rfl⟩) rfl (by decide) rfl (fun _ => trivial) rfl rfl ?_
  refine Wp.aload_n 0 0 dk_Board_init_26 rfl rfl ?_
  refine Wp.iconst dk_Board_init_27 (by decide) ?_
  refine Wp.kI 5 21 4 348 [.inl (1, [(7, 19), (6, 18), (5, 17)]), .inr 0, .inr 0, .inr 0, .inr 0] rfl dk_Board_init_28 rfl (by decide) rfl ?_
  refine Wp.kP (k := 8) 0 [(7, 19), (6, 18), (5, 17)] 20 8 [.inl (1, [(8, 20), (7, 19), (6, 18), (5, 17)]), .inr 0, .inr 0, .inr 0, .inr 0] rfl dk_Board_init_30 fl_Board_21 rfl (Or.inr ⟨rfl, rfl, rfl⟩) rfl (by decide) rfl (fun _ => trivial) rfl rfl ?_
  refine Wp.aload_n 0 0 dk_Board_init_33 rfl rfl ?_
  refine Wp.iconst dk_Board_init_34 (by decide) ?_
  refine Wp.kI 5 22 3 343 [.inl (1, [(8, 20), (7, 19), (6, 18), (5, 17)]), .inr 0, .inr 0, .inr 0, .inr 0, .inr 0] rfl dk_Board_init_35 rfl (by decide) rfl ?_
  refine Wp.kP (k := 9) 0 [(8, 20), (7, 19), (6, 18), (5, 17)] 21 9 [.inl (1, [(9, 21), (8, 20), (7, 19), (6, 18), (5, 17)]), .inr 0, .inr 0, .inr 0, .inr 0, .inr 0] rfl dk_Board_init_37 fl_Board_24 rfl (Or.inr ⟨rfl, rfl, rfl⟩) rfl (by decide) rfl (fun _ => trivial) rfl rfl ?_
  refine Wp.aload_n 0 0 dk_Board_init_40 rfl rfl ?_
  refine Wp.kN (c := 3) 3 23 2 340 [.inl (1, [(9, 21), (8, 20), (7, 19), (6, 18), (5, 17)]), .inr 0, .inr 0, .inr 0, .inr 0, .inr 0, .inl (3, [])] dk_Board_init_41 cl_Board_27 rfl rfl (by decide) rfl ?_
  refine Wp.dup dk_Board_init_44 rfl ?_
  refine Wp.kC 6 1 2 340 25 0 0 [.inl (3, [(1, 24), (0, 23)]), .inr 0, .inr 0] [.inl (1, [(9, 21), (8, 20), (7, 19), (6, 18), (5, 17)]), .inr 0, .inr 0, .inr 0, .inr 0, .inr 0, .inl (3, [(1, 24), (0, 23)]), .inr 0, .inr 0] dk_Board_init_45 k_Formula_init rfl (Or.inr (List.mem_of_getElem? (i := 2) rfl)) (kk_Formula_22) (fun h => by cases h) (Nat.le_of_ble_eq_true rfl) rfl (by decide) rfl ?_
  refine Wp.kP (k := 10) 0 [(9, 21), (8, 20), (7, 19), (6, 18), (5, 17)] 22 10 [.inl (1, [(10, 22), (9, 21), (8, 20), (7, 19), (6, 18), (5, 17)]), .inr 0, .inr 0, .inr 0, .inr 0, .inr 0, .inl (3, [(1, 24), (0, 23)]), .inr 0, .inr 0] rfl dk_Board_init_48 fl_Board_30 rfl (Or.inr ⟨rfl, rfl, rfl⟩) rfl (by decide) rfl (fun _ => trivial) rfl rfl ?_
  exact Wp.vret dk_Board_init_51 rfl ⟨rfl, rfl, rfl⟩
theorem dk_Acts_init_0 : decode Y_Acts_init.2.1 0 = .ok (.aload_n 0, 1) := by decide +kernel
theorem dk_Acts_init_1 : decode Y_Acts_init.2.1 1 = .ok (.invokespecial 3, 3) := by decide +kernel
theorem dk_Acts_init_4 : decode Y_Acts_init.2.1 4 = .ok (.aload_n 0, 1) := by decide +kernel
theorem dk_Acts_init_5 : decode Y_Acts_init.2.1 5 = .ok (.sipush 328, 3) := by decide +kernel
theorem dk_Acts_init_8 : decode Y_Acts_init.2.1 8 = .ok (.newarray .int, 2) := by decide +kernel
theorem dk_Acts_init_10 : decode Y_Acts_init.2.1 10 = .ok (.putfield 11, 3) := by decide +kernel
theorem dk_Acts_init_13 : decode Y_Acts_init.2.1 13 = .ok (.return_, 1) := by decide +kernel
theorem kk_Acts_28 {l : Launch} {G : GT} : KO l G Y_Acts_init 1 28 0 1 328 30 [.inl (0, [(0, 29)]), .inr 0] := by
  refine KO.of k_Acts_init (by decide) (fun m => ?_)
  refine Wp.aload_n 0 0 dk_Acts_init_0 rfl rfl ?_
  refine Wp.oinit dk_Acts_init_1 oi_Acts (by omega) (Nat.le_of_ble_eq_true rfl) ?_
  refine Wp.aload_n 0 0 dk_Acts_init_4 rfl rfl ?_
  refine Wp.sipush dk_Acts_init_5 (by decide) (by decide) ?_
  refine Wp.kI 328 30 0 0 [.inl (0, []), .inr 0] rfl dk_Acts_init_8 rfl (by decide) rfl ?_
  refine Wp.kP (k := 0) 0 [] 29 0 [.inl (0, [(0, 29)]), .inr 0] rfl dk_Acts_init_10 fl_Acts_11 rfl (Or.inr ⟨rfl, rfl, rfl⟩) rfl (by decide) rfl (fun _ => trivial) rfl rfl ?_
  exact Wp.vret dk_Acts_init_13 rfl ⟨rfl, rfl, rfl⟩
theorem dk_Sand_init_0 : decode Y_Sand_init.2.1 0 = .ok (.aload_n 0, 1) := by decide +kernel
theorem dk_Sand_init_1 : decode Y_Sand_init.2.1 1 = .ok (.invokespecial 3, 3) := by decide +kernel
theorem dk_Sand_init_4 : decode Y_Sand_init.2.1 4 = .ok (.aload_n 0, 1) := by decide +kernel
theorem dk_Sand_init_5 : decode Y_Sand_init.2.1 5 = .ok (.iconst 5, 1) := by decide +kernel
theorem dk_Sand_init_6 : decode Y_Sand_init.2.1 6 = .ok (.newarray .int, 2) := by decide +kernel
theorem dk_Sand_init_8 : decode Y_Sand_init.2.1 8 = .ok (.putfield 9, 3) := by decide +kernel
theorem dk_Sand_init_11 : decode Y_Sand_init.2.1 11 = .ok (.aload_n 0, 1) := by decide +kernel
theorem dk_Sand_init_12 : decode Y_Sand_init.2.1 12 = .ok (.iconst 5, 1) := by decide +kernel
theorem dk_Sand_init_13 : decode Y_Sand_init.2.1 13 = .ok (.newarray .int, 2) := by decide +kernel
theorem dk_Sand_init_15 : decode Y_Sand_init.2.1 15 = .ok (.putfield 15, 3) := by decide +kernel
theorem dk_Sand_init_18 : decode Y_Sand_init.2.1 18 = .ok (.return_, 1) := by decide +kernel
theorem kk_Sand_32 {l : Launch} {G : GT} : KO l G Y_Sand_init 1 32 7 2 10 35 [.inl (7, [(1, 34), (0, 33)]), .inr 0, .inr 0] := by
  refine KO.of k_Sand_init (by decide) (fun m => ?_)
  refine Wp.aload_n 0 0 dk_Sand_init_0 rfl rfl ?_
  refine Wp.oinit dk_Sand_init_1 oi_Sand (by omega) (Nat.le_of_ble_eq_true rfl) ?_
  refine Wp.aload_n 0 0 dk_Sand_init_4 rfl rfl ?_
  refine Wp.iconst dk_Sand_init_5 (by decide) ?_
  refine Wp.kI 5 34 1 5 [.inl (7, []), .inr 0] rfl dk_Sand_init_6 rfl (by decide) rfl ?_
  refine Wp.kP (k := 0) 0 [] 33 0 [.inl (7, [(0, 33)]), .inr 0] rfl dk_Sand_init_8 fl_Sand_9 rfl (Or.inr ⟨rfl, rfl, rfl⟩) rfl (by decide) rfl (fun _ => trivial) rfl rfl ?_
  refine Wp.aload_n 0 0 dk_Sand_init_11 rfl rfl ?_
  refine Wp.iconst dk_Sand_init_12 (by decide) ?_
  refine Wp.kI 5 35 0 0 [.inl (7, [(0, 33)]), .inr 0, .inr 0] rfl dk_Sand_init_13 rfl (by decide) rfl ?_
  refine Wp.kP (k := 1) 0 [(0, 33)] 34 1 [.inl (7, [(1, 34), (0, 33)]), .inr 0, .inr 0] rfl dk_Sand_init_15 fl_Sand_15 rfl (Or.inr ⟨rfl, rfl, rfl⟩) rfl (by decide) rfl (fun _ => trivial) rfl rfl ?_
  exact Wp.vret dk_Sand_init_18 rfl ⟨rfl, rfl, rfl⟩
theorem kk_Sand_35 {l : Launch} {G : GT} : KO l G Y_Sand_init 1 35 7 2 10 38 [.inl (7, [(1, 37), (0, 36)]), .inr 0, .inr 0] := by
  refine KO.of k_Sand_init (by decide) (fun m => ?_)
  refine Wp.aload_n 0 0 dk_Sand_init_0 rfl rfl ?_
  refine Wp.oinit dk_Sand_init_1 oi_Sand (by omega) (Nat.le_of_ble_eq_true rfl) ?_
  refine Wp.aload_n 0 0 dk_Sand_init_4 rfl rfl ?_
  refine Wp.iconst dk_Sand_init_5 (by decide) ?_
  refine Wp.kI 5 37 1 5 [.inl (7, []), .inr 0] rfl dk_Sand_init_6 rfl (by decide) rfl ?_
  refine Wp.kP (k := 0) 0 [] 36 0 [.inl (7, [(0, 36)]), .inr 0] rfl dk_Sand_init_8 fl_Sand_9 rfl (Or.inr ⟨rfl, rfl, rfl⟩) rfl (by decide) rfl (fun _ => trivial) rfl rfl ?_
  refine Wp.aload_n 0 0 dk_Sand_init_11 rfl rfl ?_
  refine Wp.iconst dk_Sand_init_12 (by decide) ?_
  refine Wp.kI 5 38 0 0 [.inl (7, [(0, 36)]), .inr 0, .inr 0] rfl dk_Sand_init_13 rfl (by decide) rfl ?_
  refine Wp.kP (k := 1) 0 [(0, 36)] 37 1 [.inl (7, [(1, 37), (0, 36)]), .inr 0, .inr 0] rfl dk_Sand_init_15 fl_Sand_15 rfl (Or.inr ⟨rfl, rfl, rfl⟩) rfl (by decide) rfl (fun _ => trivial) rfl rfl ?_
  exact Wp.vret dk_Sand_init_18 rfl ⟨rfl, rfl, rfl⟩
theorem kk_Sand_41 {l : Launch} {G : GT} : KO l G Y_Sand_init 1 41 7 2 10 44 [.inl (7, [(1, 43), (0, 42)]), .inr 0, .inr 0] := by
  refine KO.of k_Sand_init (by decide) (fun m => ?_)
  refine Wp.aload_n 0 0 dk_Sand_init_0 rfl rfl ?_
  refine Wp.oinit dk_Sand_init_1 oi_Sand (by omega) (Nat.le_of_ble_eq_true rfl) ?_
  refine Wp.aload_n 0 0 dk_Sand_init_4 rfl rfl ?_
  refine Wp.iconst dk_Sand_init_5 (by decide) ?_
  refine Wp.kI 5 43 1 5 [.inl (7, []), .inr 0] rfl dk_Sand_init_6 rfl (by decide) rfl ?_
  refine Wp.kP (k := 0) 0 [] 42 0 [.inl (7, [(0, 42)]), .inr 0] rfl dk_Sand_init_8 fl_Sand_9 rfl (Or.inr ⟨rfl, rfl, rfl⟩) rfl (by decide) rfl (fun _ => trivial) rfl rfl ?_
  refine Wp.aload_n 0 0 dk_Sand_init_11 rfl rfl ?_
  refine Wp.iconst dk_Sand_init_12 (by decide) ?_
  refine Wp.kI 5 44 0 0 [.inl (7, [(0, 42)]), .inr 0, .inr 0] rfl dk_Sand_init_13 rfl (by decide) rfl ?_
  refine Wp.kP (k := 1) 0 [(0, 42)] 43 1 [.inl (7, [(1, 43), (0, 42)]), .inr 0, .inr 0] rfl dk_Sand_init_15 fl_Sand_15 rfl (Or.inr ⟨rfl, rfl, rfl⟩) rfl (by decide) rfl (fun _ => trivial) rfl rfl ?_
  exact Wp.vret dk_Sand_init_18 rfl ⟨rfl, rfl, rfl⟩
theorem dk_Group_init_0 : decode Y_Group_init.2.1 0 = .ok (.aload_n 0, 1) := by decide +kernel
theorem dk_Group_init_1 : decode Y_Group_init.2.1 1 = .ok (.invokespecial 3, 3) := by decide +kernel
theorem dk_Group_init_4 : decode Y_Group_init.2.1 4 = .ok (.aload_n 0, 1) := by decide +kernel
theorem dk_Group_init_5 : decode Y_Group_init.2.1 5 = .ok (.sipush 1024, 3) := by decide +kernel
theorem dk_Group_init_8 : decode Y_Group_init.2.1 8 = .ok (.newarray .int, 2) := by decide +kernel
theorem dk_Group_init_10 : decode Y_Group_init.2.1 10 = .ok (.putfield 11, 3) := by decide +kernel
theorem dk_Group_init_13 : decode Y_Group_init.2.1 13 = .ok (.aload_n 0, 1) := by decide +kernel
theorem dk_Group_init_14 : decode Y_Group_init.2.1 14 = .ok (.iconst 5, 1) := by decide +kernel
theorem dk_Group_init_15 : decode Y_Group_init.2.1 15 = .ok (.newarray .int, 2) := by decide +kernel
theorem dk_Group_init_17 : decode Y_Group_init.2.1 17 = .ok (.putfield 15, 3) := by decide +kernel
theorem dk_Group_init_20 : decode Y_Group_init.2.1 20 = .ok (.aload_n 0, 1) := by decide +kernel
theorem dk_Group_init_21 : decode Y_Group_init.2.1 21 = .ok (.new 18, 3) := by decide +kernel
theorem dk_Group_init_24 : decode Y_Group_init.2.1 24 = .ok (.dup, 1) := by decide +kernel
theorem dk_Group_init_25 : decode Y_Group_init.2.1 25 = .ok (.invokespecial 20, 3) := by decide +kernel
theorem dk_Group_init_28 : decode Y_Group_init.2.1 28 = .ok (.putfield 21, 3) := by decide +kernel
theorem dk_Group_init_31 : decode Y_Group_init.2.1 31 = .ok (.aload_n 0, 1) := by decide +kernel
theorem dk_Group_init_32 : decode Y_Group_init.2.1 32 = .ok (.iconst 5, 1) := by decide +kernel
theorem dk_Group_init_33 : decode Y_Group_init.2.1 33 = .ok (.newarray .int, 2) := by decide +kernel
theorem dk_Group_init_35 : decode Y_Group_init.2.1 35 = .ok (.putfield 25, 3) := by decide +kernel
theorem dk_Group_init_38 : decode Y_Group_init.2.1 38 = .ok (.aload_n 0, 1) := by decide +kernel
theorem dk_Group_init_39 : decode Y_Group_init.2.1 39 = .ok (.lconst 1, 1) := by decide +kernel
theorem dk_Group_init_40 : decode Y_Group_init.2.1 40 = .ok (.putfield 28, 3) := by decide +kernel
theorem dk_Group_init_43 : decode Y_Group_init.2.1 43 = .ok (.return_, 1) := by decide +kernel
theorem kk_Group_38 {l : Launch} {G : GT} : KO l G Y_Group_init 2 38 4 6 1048 45 [.inl (4, [(6, 1), (4, 44), (3, 41), (2, 40), (0, 39)]), .inr 0, .inr 0, .inl (7, [(1, 43), (0, 42)]), .inr 0, .inr 0, .inr 0] := by
  refine KO.of k_Group_init (by decide) (fun m => ?_)
  refine Wp.aload_n 0 0 dk_Group_init_0 rfl rfl ?_
  refine Wp.oinit dk_Group_init_1 oi_Group (by omega) (Nat.le_of_ble_eq_true rfl) ?_
  refine Wp.aload_n 0 0 dk_Group_init_4 rfl rfl ?_
  refine Wp.sipush dk_Group_init_5 (by decide) (by decide) ?_
  refine Wp.kI 1024 40 5 24 [.inl (4, []), .inr 0] rfl dk_Group_init_8 rfl (by decide) rfl ?_
  refine Wp.kP (k := 0) 0 [] 39 0 [.inl (4, [(0, 39)]), .inr 0] rfl dk_Group_init_10 fl_Group_11 rfl (Or.inr ⟨rfl, rfl, rfl⟩) rfl (by decide) rfl (fun _ => trivial) rfl rfl ?_
  refine Wp.aload_n 0 0 dk_Group_init_13 rfl rfl ?_
  refine Wp.iconst dk_Group_init_14 (by decide) ?_
  refine Wp.kI 5 41 4 19 [.inl (4, [(0, 39)]), .inr 0, .inr 0] rfl dk_Group_init_15 rfl (by decide) rfl ?_
  refine Wp.kP (k := 2) 0 [(0, 39)] 40 2 [.inl (4, [(2, 40), (0, 39)]), .inr 0, .inr 0] rfl dk_Group_init_17 fl_Group_15 rfl (Or.inr ⟨rfl, rfl, rfl⟩) rfl (by decide) rfl (fun _ => trivial) rfl rfl ?_
  refine Wp.aload_n 0 0 dk_Group_init_20 rfl rfl ?_
  refine Wp.kN (c := 7) 4 42 3 15 [.inl (4, [(2, 40), (0, 39)]), .inr 0, .inr 0, .inl (7, [])] dk_Group_init_21 cl_Group_18 rfl rfl (by decide) rfl ?_
  refine Wp.dup dk_Group_init_24 rfl ?_
  refine Wp.kC 3 1 2 10 44 1 5 [.inl (7, [(1, 43), (0, 42)]), .inr 0, .inr 0] [.inl (4, [(2, 40), (0, 39)]), .inr 0, .inr 0, .inl (7, [(1, 43), (0, 42)]), .inr 0, .inr 0] dk_Group_init_25 k_Sand_init rfl (Or.inr (List.mem_of_getElem? (i := 6) rfl)) (kk_Sand_41) (fun h => by cases h) (Nat.le_of_ble_eq_true rfl) rfl (by decide) rfl ?_
  refine Wp.kP (k := 3) 0 [(2, 40), (0, 39)] 41 3 [.inl (4, [(3, 41), (2, 40), (0, 39)]), .inr 0, .inr 0, .inl (7, [(1, 43), (0, 42)]), .inr 0, .inr 0] rfl dk_Group_init_28 fl_Group_21 rfl (Or.inr ⟨rfl, rfl, rfl⟩) rfl (by decide) rfl (fun _ => trivial) rfl rfl ?_
  refine Wp.aload_n 0 0 dk_Group_init_31 rfl rfl ?_
  refine Wp.iconst dk_Group_init_32 (by decide) ?_
  refine Wp.kI 5 45 0 0 [.inl (4, [(3, 41), (2, 40), (0, 39)]), .inr 0, .inr 0, .inl (7, [(1, 43), (0, 42)]), .inr 0, .inr 0, .inr 0] rfl dk_Group_init_33 rfl (by decide) rfl ?_
  refine Wp.kP (k := 4) 0 [(3, 41), (2, 40), (0, 39)] 44 4 [.inl (4, [(4, 44), (3, 41), (2, 40), (0, 39)]), .inr 0, .inr 0, .inl (7, [(1, 43), (0, 42)]), .inr 0, .inr 0, .inr 0] rfl dk_Group_init_35 fl_Group_25 rfl (Or.inr ⟨rfl, rfl, rfl⟩) rfl (by decide) rfl (fun _ => trivial) rfl rfl ?_
  refine Wp.aload_n 0 0 dk_Group_init_38 rfl rfl ?_
  refine Wp.lconst (x := 1) dk_Group_init_39 (by decide) (by decide) ?_
  refine Wp.kP (k := 6) 0 [(4, 44), (3, 41), (2, 40), (0, 39)] 1 6 [.inl (4, [(6, 1), (4, 44), (3, 41), (2, 40), (0, 39)]), .inr 0, .inr 0, .inl (7, [(1, 43), (0, 42)]), .inr 0, .inr 0, .inr 0] rfl dk_Group_init_40 fl_Group_28 rfl (Or.inl rfl) rfl (by decide) rfl (fun h => h) rfl rfl ?_
  exact Wp.vret dk_Group_init_43 rfl ⟨rfl, rfl, rfl⟩
theorem dk_Fire_init_0 : decode Y_Fire_init.2.1 0 = .ok (.aload_n 0, 1) := by decide +kernel
theorem dk_Fire_init_1 : decode Y_Fire_init.2.1 1 = .ok (.invokespecial 3, 3) := by decide +kernel
theorem dk_Fire_init_4 : decode Y_Fire_init.2.1 4 = .ok (.aload_n 0, 1) := by decide +kernel
theorem dk_Fire_init_5 : decode Y_Fire_init.2.1 5 = .ok (.bipush 46, 2) := by decide +kernel
theorem dk_Fire_init_7 : decode Y_Fire_init.2.1 7 = .ok (.newarray .int, 2) := by decide +kernel
theorem dk_Fire_init_9 : decode Y_Fire_init.2.1 9 = .ok (.putfield 11, 3) := by decide +kernel
theorem dk_Fire_init_12 : decode Y_Fire_init.2.1 12 = .ok (.aload_n 0, 1) := by decide +kernel
theorem dk_Fire_init_13 : decode Y_Fire_init.2.1 13 = .ok (.bipush 6, 2) := by decide +kernel
theorem dk_Fire_init_15 : decode Y_Fire_init.2.1 15 = .ok (.bipush 46, 2) := by decide +kernel
theorem dk_Fire_init_17 : decode Y_Fire_init.2.1 17 = .ok (.multianewarray 15 2, 4) := by decide +kernel
theorem dk_Fire_init_21 : decode Y_Fire_init.2.1 21 = .ok (.putfield 17, 3) := by decide +kernel
theorem dk_Fire_init_24 : decode Y_Fire_init.2.1 24 = .ok (.aload_n 0, 1) := by decide +kernel
theorem dk_Fire_init_25 : decode Y_Fire_init.2.1 25 = .ok (.bipush 32, 2) := by decide +kernel
theorem dk_Fire_init_27 : decode Y_Fire_init.2.1 27 = .ok (.newarray .int, 2) := by decide +kernel
theorem dk_Fire_init_29 : decode Y_Fire_init.2.1 29 = .ok (.putfield 20, 3) := by decide +kernel
theorem dk_Fire_init_32 : decode Y_Fire_init.2.1 32 = .ok (.return_, 1) := by decide +kernel
theorem kk_Fire_45 {l : Launch} {G : GT} : KO l G Y_Fire_init 1 45 2 9 360 55 [.inl (2, [(2, 54), (1, 47), (0, 46)]), .inr 0, .inr 1, .inr 0, .inr 0, .inr 0, .inr 0, .inr 0, .inr 0, .inr 0] := by
  refine KO.of k_Fire_init (by decide) (fun m => ?_)
  refine Wp.aload_n 0 0 dk_Fire_init_0 rfl rfl ?_
  refine Wp.oinit dk_Fire_init_1 oi_Fire (by omega) (Nat.le_of_ble_eq_true rfl) ?_
  refine Wp.aload_n 0 0 dk_Fire_init_4 rfl rfl ?_
  refine Wp.bipush dk_Fire_init_5 (by decide) (by decide) ?_
  refine Wp.kI 46 47 8 314 [.inl (2, []), .inr 0] rfl dk_Fire_init_7 rfl (by decide) rfl ?_
  refine Wp.kP (k := 0) 0 [] 46 0 [.inl (2, [(0, 46)]), .inr 0] rfl dk_Fire_init_9 fl_Fire_11 rfl (Or.inr ⟨rfl, rfl, rfl⟩) rfl (by decide) rfl (fun _ => trivial) rfl rfl ?_
  refine Wp.aload_n 0 0 dk_Fire_init_12 rfl rfl ?_
  refine Wp.bipush dk_Fire_init_13 (by decide) (by decide) ?_
  refine Wp.bipush dk_Fire_init_15 (by decide) (by decide) ?_
  refine Wp.kM 1 32 [.inl (2, [(0, 46)]), .inr 0, .inr 1, .inr 0, .inr 0, .inr 0, .inr 0, .inr 0, .inr 0] dk_Fire_init_17 ga_link (by decide) rfl ?_
  refine Wp.kP (k := 1) 0 [(0, 46)] 47 1 [.inl (2, [(1, 47), (0, 46)]), .inr 0, .inr 1, .inr 0, .inr 0, .inr 0, .inr 0, .inr 0, .inr 0] rfl dk_Fire_init_21 fl_Fire_17 rfl (Or.inr ⟨rfl, rfl, rfl⟩) rfl (by decide) rfl (fun _ => trivial) rfl rfl ?_
  refine Wp.aload_n 0 0 dk_Fire_init_24 rfl rfl ?_
  refine Wp.bipush dk_Fire_init_25 (by decide) (by decide) ?_
  refine Wp.kI 32 55 0 0 [.inl (2, [(1, 47), (0, 46)]), .inr 0, .inr 1, .inr 0, .inr 0, .inr 0, .inr 0, .inr 0, .inr 0, .inr 0] rfl dk_Fire_init_27 rfl (by decide) rfl ?_
  refine Wp.kP (k := 2) 0 [(1, 47), (0, 46)] 54 2 [.inl (2, [(2, 54), (1, 47), (0, 46)]), .inr 0, .inr 1, .inr 0, .inr 0, .inr 0, .inr 0, .inr 0, .inr 0, .inr 0] rfl dk_Fire_init_29 fl_Fire_20 rfl (Or.inr ⟨rfl, rfl, rfl⟩) rfl (by decide) rfl (fun _ => trivial) rfl rfl ?_
  exact Wp.vret dk_Fire_init_32 rfl ⟨rfl, rfl, rfl⟩
theorem kk_Sand_64 {l : Launch} {G : GT} : KO l G Y_Sand_init 1 64 7 2 10 67 [.inl (7, [(1, 66), (0, 65)]), .inr 0, .inr 0] := by
  refine KO.of k_Sand_init (by decide) (fun m => ?_)
  refine Wp.aload_n 0 0 dk_Sand_init_0 rfl rfl ?_
  refine Wp.oinit dk_Sand_init_1 oi_Sand (by omega) (Nat.le_of_ble_eq_true rfl) ?_
  refine Wp.aload_n 0 0 dk_Sand_init_4 rfl rfl ?_
  refine Wp.iconst dk_Sand_init_5 (by decide) ?_
  refine Wp.kI 5 66 1 5 [.inl (7, []), .inr 0] rfl dk_Sand_init_6 rfl (by decide) rfl ?_
  refine Wp.kP (k := 0) 0 [] 65 0 [.inl (7, [(0, 65)]), .inr 0] rfl dk_Sand_init_8 fl_Sand_9 rfl (Or.inr ⟨rfl, rfl, rfl⟩) rfl (by decide) rfl (fun _ => trivial) rfl rfl ?_
  refine Wp.aload_n 0 0 dk_Sand_init_11 rfl rfl ?_
  refine Wp.iconst dk_Sand_init_12 (by decide) ?_
  refine Wp.kI 5 67 0 0 [.inl (7, [(0, 65)]), .inr 0, .inr 0] rfl dk_Sand_init_13 rfl (by decide) rfl ?_
  refine Wp.kP (k := 1) 0 [(0, 65)] 66 1 [.inl (7, [(1, 66), (0, 65)]), .inr 0, .inr 0] rfl dk_Sand_init_15 fl_Sand_15 rfl (Or.inr ⟨rfl, rfl, rfl⟩) rfl (by decide) rfl (fun _ => trivial) rfl rfl ?_
  exact Wp.vret dk_Sand_init_18 rfl ⟨rfl, rfl, rfl⟩
theorem dk_Sights_init_0 : decode Y_Sights_init.2.1 0 = .ok (.aload_n 0, 1) := by decide +kernel
theorem dk_Sights_init_1 : decode Y_Sights_init.2.1 1 = .ok (.invokespecial 3, 3) := by decide +kernel
theorem dk_Sights_init_4 : decode Y_Sights_init.2.1 4 = .ok (.aload_n 0, 1) := by decide +kernel
theorem dk_Sights_init_5 : decode Y_Sights_init.2.1 5 = .ok (.bipush 30, 2) := by decide +kernel
theorem dk_Sights_init_7 : decode Y_Sights_init.2.1 7 = .ok (.newarray .int, 2) := by decide +kernel
theorem dk_Sights_init_9 : decode Y_Sights_init.2.1 9 = .ok (.putfield 11, 3) := by decide +kernel
theorem dk_Sights_init_12 : decode Y_Sights_init.2.1 12 = .ok (.aload_n 0, 1) := by decide +kernel
theorem dk_Sights_init_13 : decode Y_Sights_init.2.1 13 = .ok (.bipush 30, 2) := by decide +kernel
theorem dk_Sights_init_15 : decode Y_Sights_init.2.1 15 = .ok (.newarray .int, 2) := by decide +kernel
theorem dk_Sights_init_17 : decode Y_Sights_init.2.1 17 = .ok (.putfield 15, 3) := by decide +kernel
theorem dk_Sights_init_20 : decode Y_Sights_init.2.1 20 = .ok (.aload_n 0, 1) := by decide +kernel
theorem dk_Sights_init_21 : decode Y_Sights_init.2.1 21 = .ok (.bipush 30, 2) := by decide +kernel
theorem dk_Sights_init_23 : decode Y_Sights_init.2.1 23 = .ok (.newarray .boolean, 2) := by decide +kernel
theorem dk_Sights_init_25 : decode Y_Sights_init.2.1 25 = .ok (.putfield 18, 3) := by decide +kernel
theorem dk_Sights_init_28 : decode Y_Sights_init.2.1 28 = .ok (.aload_n 0, 1) := by decide +kernel
theorem dk_Sights_init_29 : decode Y_Sights_init.2.1 29 = .ok (.bipush 30, 2) := by decide +kernel
theorem dk_Sights_init_31 : decode Y_Sights_init.2.1 31 = .ok (.newarray .int, 2) := by decide +kernel
theorem dk_Sights_init_33 : decode Y_Sights_init.2.1 33 = .ok (.putfield 22, 3) := by decide +kernel
theorem dk_Sights_init_36 : decode Y_Sights_init.2.1 36 = .ok (.aload_n 0, 1) := by decide +kernel
theorem dk_Sights_init_37 : decode Y_Sights_init.2.1 37 = .ok (.bipush 30, 2) := by decide +kernel
theorem dk_Sights_init_39 : decode Y_Sights_init.2.1 39 = .ok (.newarray .int, 2) := by decide +kernel
theorem dk_Sights_init_41 : decode Y_Sights_init.2.1 41 = .ok (.putfield 25, 3) := by decide +kernel
theorem dk_Sights_init_44 : decode Y_Sights_init.2.1 44 = .ok (.aload_n 0, 1) := by decide +kernel
theorem dk_Sights_init_45 : decode Y_Sights_init.2.1 45 = .ok (.sipush 155, 3) := by decide +kernel
theorem dk_Sights_init_48 : decode Y_Sights_init.2.1 48 = .ok (.newarray .int, 2) := by decide +kernel
theorem dk_Sights_init_50 : decode Y_Sights_init.2.1 50 = .ok (.putfield 28, 3) := by decide +kernel
theorem dk_Sights_init_53 : decode Y_Sights_init.2.1 53 = .ok (.aload_n 0, 1) := by decide +kernel
theorem dk_Sights_init_54 : decode Y_Sights_init.2.1 54 = .ok (.bipush 31, 2) := by decide +kernel
theorem dk_Sights_init_56 : decode Y_Sights_init.2.1 56 = .ok (.newarray .boolean, 2) := by decide +kernel
theorem dk_Sights_init_58 : decode Y_Sights_init.2.1 58 = .ok (.putfield 31, 3) := by decide +kernel
theorem dk_Sights_init_61 : decode Y_Sights_init.2.1 61 = .ok (.aload_n 0, 1) := by decide +kernel
theorem dk_Sights_init_62 : decode Y_Sights_init.2.1 62 = .ok (.bipush 10, 2) := by decide +kernel
theorem dk_Sights_init_64 : decode Y_Sights_init.2.1 64 = .ok (.newarray .int, 2) := by decide +kernel
theorem dk_Sights_init_66 : decode Y_Sights_init.2.1 66 = .ok (.putfield 34, 3) := by decide +kernel
theorem dk_Sights_init_69 : decode Y_Sights_init.2.1 69 = .ok (.aload_n 0, 1) := by decide +kernel
theorem dk_Sights_init_70 : decode Y_Sights_init.2.1 70 = .ok (.new 37, 3) := by decide +kernel
theorem dk_Sights_init_73 : decode Y_Sights_init.2.1 73 = .ok (.dup, 1) := by decide +kernel
theorem dk_Sights_init_74 : decode Y_Sights_init.2.1 74 = .ok (.invokespecial 39, 3) := by decide +kernel
theorem dk_Sights_init_77 : decode Y_Sights_init.2.1 77 = .ok (.putfield 40, 3) := by decide +kernel
theorem dk_Sights_init_80 : decode Y_Sights_init.2.1 80 = .ok (.return_, 1) := by decide +kernel
theorem kk_Sights_55 {l : Launch} {G : GT} : KO l G Y_Sights_init 2 55 8 11 360 67 [.inl (8, [(8, 64), (7, 63), (6, 62), (5, 61), (4, 60), (3, 59), (2, 58), (1, 57), (0, 56)]), .inr 0, .inr 0, .inr 0, .inr 0, .inr 0, .inr 0, .inr 0, .inr 0, .inl (7, [(1, 66), (0, 65)]), .inr 0, .inr 0] := by
  refine KO.of k_Sights_init (by decide) (fun m => ?_)
  refine Wp.aload_n 0 0 dk_Sights_init_0 rfl rfl ?_
  refine Wp.oinit dk_Sights_init_1 oi_Sights (by omega) (Nat.le_of_ble_eq_true rfl) ?_
  refine Wp.aload_n 0 0 dk_Sights_init_4 rfl rfl ?_
  refine Wp.bipush dk_Sights_init_5 (by decide) (by decide) ?_
  refine Wp.kI 30 57 10 330 [.inl (8, []), .inr 0] rfl dk_Sights_init_7 rfl (by decide) rfl ?_
  refine Wp.kP (k := 0) 0 [] 56 0 [.inl (8, [(0, 56)]), .inr 0] rfl dk_Sights_init_9 fl_Sights_11 rfl (Or.inr ⟨rfl, rfl, rfl⟩) rfl (by decide) rfl (fun _ => trivial) rfl rfl ?_
  refine Wp.aload_n 0 0 dk_Sights_init_12 rfl rfl ?_
  refine Wp.bipush dk_Sights_init_13 (by decide) (by decide) ?_
  refine Wp.kI 30 58 9 300 [.inl (8, [(0, 56)]), .inr 0, .inr 0] rfl dk_Sights_init_15 rfl (by decide) rfl ?_
  refine Wp.kP (k := 1) 0 [(0, 56)] 57 1 [.inl (8, [(1, 57), (0, 56)]), .inr 0, .inr 0] rfl dk_Sights_init_17 fl_Sights_15 rfl (Or.inr ⟨rfl, rfl, rfl⟩) rfl (by decide) rfl (fun _ => trivial) rfl rfl ?_
  refine Wp.aload_n 0 0 dk_Sights_init_20 rfl rfl ?_
  refine Wp.bipush dk_Sights_init_21 (by decide) (by decide) ?_
  refine Wp.kZ 30 59 8 270 [.inl (8, [(1, 57), (0, 56)]), .inr 0, .inr 0, .inr 0] rfl dk_Sights_init_23 rfl (by decide) rfl ?_
  refine Wp.kP (k := 2) 0 [(1, 57), (0, 56)] 58 2 [.inl (8, [(2, 58), (1, 57), (0, 56)]), .inr 0, .inr 0, .inr 0] rfl dk_Sights_init_25 fl_Sights_18 rfl (Or.inr ⟨rfl, rfl, rfl⟩) rfl (by decide) rfl (fun _ => trivial) rfl rfl ?_
  refine Wp.aload_n 0 0 dk_Sights_init_28 rfl rfl ?_
  refine Wp.bipush dk_Sights_init_29 (by decide) (by decide) ?_
  refine Wp.kI 30 60 7 240 [.inl (8, [(2, 58), (1, 57), (0, 56)]), .inr 0, .inr 0, .inr 0, .inr 0] rfl dk_Sights_init_31 rfl (by decide) rfl ?_
  refine Wp.kP (k := 3) 0 [(2, 58), (1, 57), (0, 56)] 59 3 [.inl (8, [(3, 59), (2, 58), (1, 57), (0, 56)]), .inr 0, .inr 0, .inr 0, .inr 0] rfl dk_Sights_init_33 fl_Sights_22 rfl (Or.inr ⟨rfl, rfl, rfl⟩) rfl (by decide) rfl (fun _ => trivial) rfl rfl ?_
  refine Wp.aload_n 0 0 dk_Sights_init_36 rfl rfl ?_
  refine Wp.bipush dk_Sights_init_37 (by decide) (by decide) ?_
  refine Wp.kI 30 61 6 210 [.inl (8, [(3, 59), (2, 58), (1, 57), (0, 56)]), .inr 0, .inr 0, .inr 0, .inr 0, .inr 0] rfl dk_Sights_init_39 rfl (by decide) rfl ?_
  refine Wp.kP (k := 4) 0 [(3, 59), (2, 58), (1, 57), (0, 56)] 60 4 [.inl (8, [(4, 60), (3, 59), (2, 58), (1, 57), (0, 56)]), .inr 0, .inr 0, .inr 0, .inr 0, .inr 0] rfl dk_Sights_init_41 fl_Sights_25 rfl (Or.inr ⟨rfl, rfl, rfl⟩) rfl (by decide) rfl (fun _ => trivial) rfl rfl ?_
  refine Wp.aload_n 0 0 dk_Sights_init_44 rfl rfl ?_
  refine Wp.sipush dk_Sights_init_45 (by decide) (by decide) ?_
  refine Wp.kI 155 62 5 55 [.inl (8, [(4, 60), (3, 59), (2, 58), (1, 57), (0, 56)]), .inr 0, .inr 0, .inr 0, .inr 0, .inr 0, .inr 0] rfl dk_Sights_init_48 rfl (by decide) rfl ?_
  refine Wp.kP (k := 5) 0 [(4, 60), (3, 59), (2, 58), (1, 57), (0, 56)] 61 5 [.inl (8, [(5, 61), (4, 60), (3, 59), (2, 58), (1, 57), (0, 56)]), .inr 0, .inr 0, .inr 0, .inr 0, .inr 0, .inr 0] rfl dk_Sights_init_50 fl_Sights_28 rfl (Or.inr ⟨rfl, rfl, rfl⟩) rfl (by decide) rfl (fun _ => trivial) rfl rfl ?_
  refine Wp.aload_n 0 0 dk_Sights_init_53 rfl rfl ?_
  refine Wp.bipush dk_Sights_init_54 (by decide) (by decide) ?_
  refine Wp.kZ 31 63 4 24 [.inl (8, [(5, 61), (4, 60), (3, 59), (2, 58), (1, 57), (0, 56)]), .inr 0, .inr 0, .inr 0, .inr 0, .inr 0, .inr 0, .inr 0] rfl dk_Sights_init_56 rfl (by decide) rfl ?_
  refine Wp.kP (k := 6) 0 [(5, 61), (4, 60), (3, 59), (2, 58), (1, 57), (0, 56)] 62 6 [.inl (8, [(6, 62), (5, 61), (4, 60), (3, 59), (2, 58), (1, 57), (0, 56)]), .inr 0, .inr 0, .inr 0, .inr 0, .inr 0, .inr 0, .inr 0] rfl dk_Sights_init_58 fl_Sights_31 rfl (Or.inr ⟨rfl, rfl, rfl⟩) rfl (by decide) rfl (fun _ => trivial) rfl rfl ?_
  refine Wp.aload_n 0 0 dk_Sights_init_61 rfl rfl ?_
  refine Wp.bipush dk_Sights_init_62 (by decide) (by decide) ?_
  refine Wp.kI 10 64 3 14 [.inl (8, [(6, 62), (5, 61), (4, 60), (3, 59), (2, 58), (1, 57), (0, 56)]), .inr 0, .inr 0, .inr 0, .inr 0, .inr 0, .inr 0, .inr 0, .inr 0] rfl dk_Sights_init_64 rfl (by decide) rfl ?_
  refine Wp.kP (k := 7) 0 [(6, 62), (5, 61), (4, 60), (3, 59), (2, 58), (1, 57), (0, 56)] 63 7 [.inl (8, [(7, 63), (6, 62), (5, 61), (4, 60), (3, 59), (2, 58), (1, 57), (0, 56)]), .inr 0, .inr 0, .inr 0, .inr 0, .inr 0, .inr 0, .inr 0, .inr 0] rfl dk_Sights_init_66 fl_Sights_34 rfl (Or.inr ⟨rfl, rfl, rfl⟩) rfl (by decide) rfl (fun _ => trivial) rfl rfl ?_
  refine Wp.aload_n 0 0 dk_Sights_init_69 rfl rfl ?_
  refine Wp.kN (c := 7) 4 65 2 10 [.inl (8, [(7, 63), (6, 62), (5, 61), (4, 60), (3, 59), (2, 58), (1, 57), (0, 56)]), .inr 0, .inr 0, .inr 0, .inr 0, .inr 0, .inr 0, .inr 0, .inr 0, .inl (7, [])] dk_Sights_init_70 cl_Sights_37 rfl rfl (by decide) rfl ?_
  refine Wp.dup dk_Sights_init_73 rfl ?_
  refine Wp.kC 9 1 2 10 67 0 0 [.inl (7, [(1, 66), (0, 65)]), .inr 0, .inr 0] [.inl (8, [(7, 63), (6, 62), (5, 61), (4, 60), (3, 59), (2, 58), (1, 57), (0, 56)]), .inr 0, .inr 0, .inr 0, .inr 0, .inr 0, .inr 0, .inr 0, .inr 0, .inl (7, [(1, 66), (0, 65)]), .inr 0, .inr 0] dk_Sights_init_74 k_Sand_init rfl (Or.inr (List.mem_of_getElem? (i := 9) rfl)) (kk_Sand_64) (fun h => by cases h) (Nat.le_of_ble_eq_true rfl) rfl (by decide) rfl ?_
  refine Wp.kP (k := 8) 0 [(7, 63), (6, 62), (5, 61), (4, 60), (3, 59), (2, 58), (1, 57), (0, 56)] 64 8 [.inl (8, [(8, 64), (7, 63), (6, 62), (5, 61), (4, 60), (3, 59), (2, 58), (1, 57), (0, 56)]), .inr 0, .inr 0, .inr 0, .inr 0, .inr 0, .inr 0, .inr 0, .inr 0, .inl (7, [(1, 66), (0, 65)]), .inr 0, .inr 0] rfl dk_Sights_init_77 fl_Sights_40 rfl (Or.inr ⟨rfl, rfl, rfl⟩) rfl (by decide) rfl (fun _ => trivial) rfl rfl ?_
  exact Wp.vret dk_Sights_init_80 rfl ⟨rfl, rfl, rfl⟩
theorem dk_Lying_init_0 : decode Y_Lying_init.2.1 0 = .ok (.aload_n 0, 1) := by decide +kernel
theorem dk_Lying_init_1 : decode Y_Lying_init.2.1 1 = .ok (.invokespecial 1, 3) := by decide +kernel
theorem dk_Lying_init_4 : decode Y_Lying_init.2.1 4 = .ok (.aload_n 0, 1) := by decide +kernel
theorem dk_Lying_init_5 : decode Y_Lying_init.2.1 5 = .ok (.bipush 60, 2) := by decide +kernel
theorem dk_Lying_init_7 : decode Y_Lying_init.2.1 7 = .ok (.newarray .int, 2) := by decide +kernel
theorem dk_Lying_init_9 : decode Y_Lying_init.2.1 9 = .ok (.putfield 9, 3) := by decide +kernel
theorem dk_Lying_init_12 : decode Y_Lying_init.2.1 12 = .ok (.return_, 1) := by decide +kernel
theorem kk_Lying_67 {l : Launch} {G : GT} : KO l G Y_Lying_init 1 67 5 1 60 69 [.inl (5, [(0, 68)]), .inr 0] := by
  refine KO.of k_Lying_init (by decide) (fun m => ?_)
  refine Wp.aload_n 0 0 dk_Lying_init_0 rfl rfl ?_
  refine Wp.oinit dk_Lying_init_1 oi_Lying (by omega) (Nat.le_of_ble_eq_true rfl) ?_
  refine Wp.aload_n 0 0 dk_Lying_init_4 rfl rfl ?_
  refine Wp.bipush dk_Lying_init_5 (by decide) (by decide) ?_
  refine Wp.kI 60 69 0 0 [.inl (5, []), .inr 0] rfl dk_Lying_init_7 rfl (by decide) rfl ?_
  refine Wp.kP (k := 0) 0 [] 68 0 [.inl (5, [(0, 68)]), .inr 0] rfl dk_Lying_init_9 fl_Lying_9 rfl (Or.inr ⟨rfl, rfl, rfl⟩) rfl (by decide) rfl (fun _ => trivial) rfl rfl ?_
  exact Wp.vret dk_Lying_init_12 rfl ⟨rfl, rfl, rfl⟩
theorem dk_S_init_0 : decode Y_S_init.2.1 0 = .ok (.aload_n 0, 1) := by decide +kernel
theorem dk_S_init_1 : decode Y_S_init.2.1 1 = .ok (.invokespecial 1, 3) := by decide +kernel
theorem dk_S_init_4 : decode Y_S_init.2.1 4 = .ok (.aload_n 0, 1) := by decide +kernel
theorem dk_S_init_5 : decode Y_S_init.2.1 5 = .ok (.sipush 1600, 3) := by decide +kernel
theorem dk_S_init_8 : decode Y_S_init.2.1 8 = .ok (.newarray .int, 2) := by decide +kernel
theorem dk_S_init_10 : decode Y_S_init.2.1 10 = .ok (.putfield 9, 3) := by decide +kernel
theorem dk_S_init_13 : decode Y_S_init.2.1 13 = .ok (.aload_n 0, 1) := by decide +kernel
theorem dk_S_init_14 : decode Y_S_init.2.1 14 = .ok (.new 13, 3) := by decide +kernel
theorem dk_S_init_17 : decode Y_S_init.2.1 17 = .ok (.dup, 1) := by decide +kernel
theorem dk_S_init_18 : decode Y_S_init.2.1 18 = .ok (.invokespecial 15, 3) := by decide +kernel
theorem dk_S_init_21 : decode Y_S_init.2.1 21 = .ok (.putfield 16, 3) := by decide +kernel
theorem dk_S_init_24 : decode Y_S_init.2.1 24 = .ok (.aload_n 0, 1) := by decide +kernel
theorem dk_S_init_25 : decode Y_S_init.2.1 25 = .ok (.iconst (-1), 1) := by decide +kernel
theorem dk_S_init_26 : decode Y_S_init.2.1 26 = .ok (.putfield 20, 3) := by decide +kernel
theorem dk_S_init_29 : decode Y_S_init.2.1 29 = .ok (.aload_n 0, 1) := by decide +kernel
theorem dk_S_init_30 : decode Y_S_init.2.1 30 = .ok (.new 24, 3) := by decide +kernel
theorem dk_S_init_33 : decode Y_S_init.2.1 33 = .ok (.dup, 1) := by decide +kernel
theorem dk_S_init_34 : decode Y_S_init.2.1 34 = .ok (.invokespecial 26, 3) := by decide +kernel
theorem dk_S_init_37 : decode Y_S_init.2.1 37 = .ok (.putfield 27, 3) := by decide +kernel
theorem dk_S_init_40 : decode Y_S_init.2.1 40 = .ok (.aload_n 0, 1) := by decide +kernel
theorem dk_S_init_41 : decode Y_S_init.2.1 41 = .ok (.new 24, 3) := by decide +kernel
theorem dk_S_init_44 : decode Y_S_init.2.1 44 = .ok (.dup, 1) := by decide +kernel
theorem dk_S_init_45 : decode Y_S_init.2.1 45 = .ok (.invokespecial 26, 3) := by decide +kernel
theorem dk_S_init_48 : decode Y_S_init.2.1 48 = .ok (.putfield 31, 3) := by decide +kernel
theorem dk_S_init_51 : decode Y_S_init.2.1 51 = .ok (.aload_n 0, 1) := by decide +kernel
theorem dk_S_init_52 : decode Y_S_init.2.1 52 = .ok (.bipush 8, 2) := by decide +kernel
theorem dk_S_init_54 : decode Y_S_init.2.1 54 = .ok (.newarray .int, 2) := by decide +kernel
theorem dk_S_init_56 : decode Y_S_init.2.1 56 = .ok (.putfield 34, 3) := by decide +kernel
theorem dk_S_init_59 : decode Y_S_init.2.1 59 = .ok (.aload_n 0, 1) := by decide +kernel
theorem dk_S_init_60 : decode Y_S_init.2.1 60 = .ok (.bipush 8, 2) := by decide +kernel
theorem dk_S_init_62 : decode Y_S_init.2.1 62 = .ok (.newarray .int, 2) := by decide +kernel
theorem dk_S_init_64 : decode Y_S_init.2.1 64 = .ok (.putfield 37, 3) := by decide +kernel
theorem dk_S_init_67 : decode Y_S_init.2.1 67 = .ok (.aload_n 0, 1) := by decide +kernel
theorem dk_S_init_68 : decode Y_S_init.2.1 68 = .ok (.bipush 8, 2) := by decide +kernel
theorem dk_S_init_70 : decode Y_S_init.2.1 70 = .ok (.newarray .int, 2) := by decide +kernel
theorem dk_S_init_72 : decode Y_S_init.2.1 72 = .ok (.putfield 40, 3) := by decide +kernel
theorem dk_S_init_75 : decode Y_S_init.2.1 75 = .ok (.aload_n 0, 1) := by decide +kernel
theorem dk_S_init_76 : decode Y_S_init.2.1 76 = .ok (.new 43, 3) := by decide +kernel
theorem dk_S_init_79 : decode Y_S_init.2.1 79 = .ok (.dup, 1) := by decide +kernel
theorem dk_S_init_80 : decode Y_S_init.2.1 80 = .ok (.invokespecial 45, 3) := by decide +kernel
theorem dk_S_init_83 : decode Y_S_init.2.1 83 = .ok (.putfield 46, 3) := by decide +kernel
theorem dk_S_init_86 : decode Y_S_init.2.1 86 = .ok (.aload_n 0, 1) := by decide +kernel
theorem dk_S_init_87 : decode Y_S_init.2.1 87 = .ok (.bipush 24, 2) := by decide +kernel
theorem dk_S_init_89 : decode Y_S_init.2.1 89 = .ok (.newarray .int, 2) := by decide +kernel
theorem dk_S_init_91 : decode Y_S_init.2.1 91 = .ok (.putfield 50, 3) := by decide +kernel
theorem dk_S_init_94 : decode Y_S_init.2.1 94 = .ok (.aload_n 0, 1) := by decide +kernel
theorem dk_S_init_95 : decode Y_S_init.2.1 95 = .ok (.iconst 3, 1) := by decide +kernel
theorem dk_S_init_96 : decode Y_S_init.2.1 96 = .ok (.newarray .boolean, 2) := by decide +kernel
theorem dk_S_init_98 : decode Y_S_init.2.1 98 = .ok (.putfield 53, 3) := by decide +kernel
theorem dk_S_init_101 : decode Y_S_init.2.1 101 = .ok (.aload_n 0, 1) := by decide +kernel
theorem dk_S_init_102 : decode Y_S_init.2.1 102 = .ok (.new 57, 3) := by decide +kernel
theorem dk_S_init_105 : decode Y_S_init.2.1 105 = .ok (.dup, 1) := by decide +kernel
theorem dk_S_init_106 : decode Y_S_init.2.1 106 = .ok (.invokespecial 59, 3) := by decide +kernel
theorem dk_S_init_109 : decode Y_S_init.2.1 109 = .ok (.putfield 60, 3) := by decide +kernel
theorem dk_S_init_112 : decode Y_S_init.2.1 112 = .ok (.aload_n 0, 1) := by decide +kernel
theorem dk_S_init_113 : decode Y_S_init.2.1 113 = .ok (.new 57, 3) := by decide +kernel
theorem dk_S_init_116 : decode Y_S_init.2.1 116 = .ok (.dup, 1) := by decide +kernel
theorem dk_S_init_117 : decode Y_S_init.2.1 117 = .ok (.invokespecial 59, 3) := by decide +kernel
theorem dk_S_init_120 : decode Y_S_init.2.1 120 = .ok (.putfield 64, 3) := by decide +kernel
theorem dk_S_init_123 : decode Y_S_init.2.1 123 = .ok (.aload_n 0, 1) := by decide +kernel
theorem dk_S_init_124 : decode Y_S_init.2.1 124 = .ok (.new 67, 3) := by decide +kernel
theorem dk_S_init_127 : decode Y_S_init.2.1 127 = .ok (.dup, 1) := by decide +kernel
theorem dk_S_init_128 : decode Y_S_init.2.1 128 = .ok (.invokespecial 69, 3) := by decide +kernel
theorem dk_S_init_131 : decode Y_S_init.2.1 131 = .ok (.putfield 70, 3) := by decide +kernel
theorem dk_S_init_134 : decode Y_S_init.2.1 134 = .ok (.aload_n 0, 1) := by decide +kernel
theorem dk_S_init_135 : decode Y_S_init.2.1 135 = .ok (.new 74, 3) := by decide +kernel
theorem dk_S_init_138 : decode Y_S_init.2.1 138 = .ok (.dup, 1) := by decide +kernel
theorem dk_S_init_139 : decode Y_S_init.2.1 139 = .ok (.invokespecial 76, 3) := by decide +kernel
theorem dk_S_init_142 : decode Y_S_init.2.1 142 = .ok (.putfield 77, 3) := by decide +kernel
theorem dk_S_init_145 : decode Y_S_init.2.1 145 = .ok (.aload_n 0, 1) := by decide +kernel
theorem dk_S_init_146 : decode Y_S_init.2.1 146 = .ok (.new 81, 3) := by decide +kernel
theorem dk_S_init_149 : decode Y_S_init.2.1 149 = .ok (.dup, 1) := by decide +kernel
theorem dk_S_init_150 : decode Y_S_init.2.1 150 = .ok (.invokespecial 83, 3) := by decide +kernel
theorem dk_S_init_153 : decode Y_S_init.2.1 153 = .ok (.putfield 84, 3) := by decide +kernel
theorem dk_S_init_156 : decode Y_S_init.2.1 156 = .ok (.aload_n 0, 1) := by decide +kernel
theorem dk_S_init_157 : decode Y_S_init.2.1 157 = .ok (.new 88, 3) := by decide +kernel
theorem dk_S_init_160 : decode Y_S_init.2.1 160 = .ok (.dup, 1) := by decide +kernel
theorem dk_S_init_161 : decode Y_S_init.2.1 161 = .ok (.invokespecial 90, 3) := by decide +kernel
theorem dk_S_init_164 : decode Y_S_init.2.1 164 = .ok (.putfield 91, 3) := by decide +kernel
theorem dk_S_init_167 : decode Y_S_init.2.1 167 = .ok (.aload_n 0, 1) := by decide +kernel
theorem dk_S_init_168 : decode Y_S_init.2.1 168 = .ok (.bipush 32, 2) := by decide +kernel
theorem dk_S_init_170 : decode Y_S_init.2.1 170 = .ok (.newarray .int, 2) := by decide +kernel
theorem dk_S_init_172 : decode Y_S_init.2.1 172 = .ok (.putfield 95, 3) := by decide +kernel
theorem dk_S_init_175 : decode Y_S_init.2.1 175 = .ok (.return_, 1) := by decide +kernel
theorem kk_S_0 {l : Launch} {G : GT} (hG : GVok G) : KO l G Y_S_init 6 0 10 69 4730 70 [.inl (10, [(19, 69), (18, 67), (17, 55), (16, 45), (15, 38), (14, 35), (13, 32), (12, 31), (11, 30), (10, 28), (9, 27), (8, 26), (7, 25), (6, 16), (5, 7), (4, (-1)), (2, 2), (0, 1)]), .inr 0, .inl (6, [(1, 6), (0, 3)]), .inl (9, [(1, 5), (0, 4)]), .inr 17, .inr 0, .inr 0, .inl (1, [(10, 13), (9, 12), (8, 11), (7, 10), (6, 9), (5, 8)]), .inr 0, .inr 0, .inr 0, .inr 0, .inr 0, .inl (3, [(1, 15), (0, 14)]), .inr 0, .inr 0, .inl (1, [(10, 22), (9, 21), (8, 20), (7, 19), (6, 18), (5, 17)]), .inr 0, .inr 0, .inr 0, .inr 0, .inr 0, .inl (3, [(1, 24), (0, 23)]), .inr 0, .inr 0, .inr 0, .inr 0, .inr 0, .inl (0, [(0, 29)]), .inr 0, .inr 0, .inr 0, .inl (7, [(1, 34), (0, 33)]), .inr 0, .inr 0, .inl (7, [(1, 37), (0, 36)]), .inr 0, .inr 0, .inl (4, [(6, 1), (4, 44), (3, 41), (2, 40), (0, 39)]), .inr 0, .inr 0, .inl (7, [(1, 43), (0, 42)]), .inr 0, .inr 0, .inr 0, .inl (2, [(2, 54), (1, 47), (0, 46)]), .inr 0, .inr 1, .inr 0, .inr 0, .inr 0, .inr 0, .inr 0, .inr 0, .inr 0, .inl (8, [(8, 64), (7, 63), (6, 62), (5, 61), (4, 60), (3, 59), (2, 58), (1, 57), (0, 56)]), .inr 0, .inr 0, .inr 0, .inr 0, .inr 0, .inr 0, .inr 0, .inr 0, .inl (7, [(1, 66), (0, 65)]), .inr 0, .inr 0, .inl (5, [(0, 68)]), .inr 0, .inr 0] := by
  refine KO.of k_S_init (by decide) (fun m => ?_)
  refine Wp.aload_n 0 0 dk_S_init_0 rfl rfl ?_
  refine Wp.oinit dk_S_init_1 oi_S (by omega) (Nat.le_of_ble_eq_true rfl) ?_
  refine Wp.aload_n 0 0 dk_S_init_4 rfl rfl ?_
  refine Wp.sipush dk_S_init_5 (by decide) (by decide) ?_
  refine Wp.kI 1600 2 68 3130 [.inl (10, []), .inr 0] rfl dk_S_init_8 rfl (by decide) rfl ?_
  refine Wp.kP (k := 0) 0 [] 1 0 [.inl (10, [(0, 1)]), .inr 0] rfl dk_S_init_10 fl_S_9 rfl (Or.inr ⟨rfl, rfl, rfl⟩) rfl (by decide) rfl (fun _ => trivial) rfl rfl ?_
  refine Wp.aload_n 0 0 dk_S_init_13 rfl rfl ?_
  refine Wp.kN (c := 6) 8 3 67 3122 [.inl (10, [(0, 1)]), .inr 0, .inl (6, [])] dk_S_init_14 cl_S_13 rfl rfl (by decide) rfl ?_
  refine Wp.dup dk_S_init_17 rfl ?_
  refine Wp.kC 2 5 4 27 7 63 3095 [.inl (6, [(1, 6), (0, 3)]), .inl (9, [(1, 5), (0, 4)]), .inr 17, .inr 0, .inr 0] [.inl (10, [(0, 1)]), .inr 0, .inl (6, [(1, 6), (0, 3)]), .inl (9, [(1, 5), (0, 4)]), .inr 17, .inr 0, .inr 0] dk_S_init_18 k_Reader_init rfl (Or.inr (List.mem_of_getElem? (i := 0) rfl)) (kk_Reader_2 hG) (fun h => by cases h) (Nat.le_of_ble_eq_true rfl) rfl (by decide) rfl ?_
  refine Wp.kP (k := 2) 0 [(0, 1)] 2 2 [.inl (10, [(2, 2), (0, 1)]), .inr 0, .inl (6, [(1, 6), (0, 3)]), .inl (9, [(1, 5), (0, 4)]), .inr 17, .inr 0, .inr 0] rfl dk_S_init_21 fl_S_16 rfl (Or.inr ⟨rfl, rfl, rfl⟩) rfl (by decide) rfl (fun _ => trivial) rfl rfl ?_
  refine Wp.aload_n 0 0 dk_S_init_24 rfl rfl ?_
  refine Wp.iconst dk_S_init_25 (by decide) ?_
  refine Wp.kP (k := 4) 0 [(2, 2), (0, 1)] (-1) 4 [.inl (10, [(4, (-1)), (2, 2), (0, 1)]), .inr 0, .inl (6, [(1, 6), (0, 3)]), .inl (9, [(1, 5), (0, 4)]), .inr 17, .inr 0, .inr 0] rfl dk_S_init_26 fl_S_20 rfl (Or.inl rfl) rfl (by decide) rfl (fun h => h) rfl rfl ?_
  refine Wp.aload_n 0 0 dk_S_init_29 rfl rfl ?_
  refine Wp.kN (c := 1) 11 8 62 3084 [.inl (10, [(4, (-1)), (2, 2), (0, 1)]), .inr 0, .inl (6, [(1, 6), (0, 3)]), .inl (9, [(1, 5), (0, 4)]), .inr 17, .inr 0, .inr 0, .inl (1, [])] dk_S_init_30 cl_S_24 rfl rfl (by decide) rfl ?_
  refine Wp.dup dk_S_init_33 rfl ?_
  refine Wp.kC 7 2 8 388 16 54 2696 [.inl (1, [(10, 13), (9, 12), (8, 11), (7, 10), (6, 9), (5, 8)]), .inr 0, .inr 0, .inr 0, .inr 0, .inr 0, .inl (3, [(1, 15), (0, 14)]), .inr 0, .inr 0] [.inl (10, [(4, (-1)), (2, 2), (0, 1)]), .inr 0, .inl (6, [(1, 6), (0, 3)]), .inl (9, [(1, 5), (0, 4)]), .inr 17, .inr 0, .inr 0, .inl (1, [(10, 13), (9, 12), (8, 11), (7, 10), (6, 9), (5, 8)]), .inr 0, .inr 0, .inr 0, .inr 0, .inr 0, .inl (3, [(1, 15), (0, 14)]), .inr 0, .inr 0] dk_S_init_34 k_Board_init rfl (Or.inr (List.mem_of_getElem? (i := 1) rfl)) (kk_Board_7) (fun h => by cases h) (Nat.le_of_ble_eq_true rfl) rfl (by decide) rfl ?_
  refine Wp.kP (k := 5) 0 [(4, (-1)), (2, 2), (0, 1)] 7 5 [.inl (10, [(5, 7), (4, (-1)), (2, 2), (0, 1)]), .inr 0, .inl (6, [(1, 6), (0, 3)]), .inl (9, [(1, 5), (0, 4)]), .inr 17, .inr 0, .inr 0, .inl (1, [(10, 13), (9, 12), (8, 11), (7, 10), (6, 9), (5, 8)]), .inr 0, .inr 0, .inr 0, .inr 0, .inr 0, .inl (3, [(1, 15), (0, 14)]), .inr 0, .inr 0] rfl dk_S_init_37 fl_S_27 rfl (Or.inl rfl) rfl (by decide) rfl (fun _ => trivial) rfl rfl ?_
  refine Wp.aload_n 0 0 dk_S_init_40 rfl rfl ?_
  refine Wp.kN (c := 1) 11 17 53 2685 [.inl (10, [(5, 7), (4, (-1)), (2, 2), (0, 1)]), .inr 0, .inl (6, [(1, 6), (0, 3)]), .inl (9, [(1, 5), (0, 4)]), .inr 17, .inr 0, .inr 0, .inl (1, [(10, 13), (9, 12), (8, 11), (7, 10), (6, 9), (5, 8)]), .inr 0, .inr 0, .inr 0, .inr 0, .inr 0, .inl (3, [(1, 15), (0, 14)]), .inr 0, .inr 0, .inl (1, [])] dk_S_init_41 cl_S_24 rfl rfl (by decide) rfl ?_
  refine Wp.dup dk_S_init_44 rfl ?_
  refine Wp.kC 16 2 8 388 25 45 2297 [.inl (1, [(10, 22), (9, 21), (8, 20), (7, 19), (6, 18), (5, 17)]), .inr 0, .inr 0, .inr 0, .inr 0, .inr 0, .inl (3, [(1, 24), (0, 23)]), .inr 0, .inr 0] [.inl (10, [(5, 7), (4, (-1)), (2, 2), (0, 1)]), .inr 0, .inl (6, [(1, 6), (0, 3)]), .inl (9, [(1, 5), (0, 4)]), .inr 17, .inr 0, .inr 0, .inl (1, [(10, 13), (9, 12), (8, 11), (7, 10), (6, 9), (5, 8)]), .inr 0, .inr 0, .inr 0, .inr 0, .inr 0, .inl (3, [(1, 15), (0, 14)]), .inr 0, .inr 0, .inl (1, [(10, 22), (9, 21), (8, 20), (7, 19), (6, 18), (5, 17)]), .inr 0, .inr 0, .inr 0, .inr 0, .inr 0, .inl (3, [(1, 24), (0, 23)]), .inr 0, .inr 0] dk_S_init_45 k_Board_init rfl (Or.inr (List.mem_of_getElem? (i := 1) rfl)) (kk_Board_16) (fun h => by cases h) (Nat.le_of_ble_eq_true rfl) rfl (by decide) rfl ?_
  refine Wp.kP (k := 6) 0 [(5, 7), (4, (-1)), (2, 2), (0, 1)] 16 6 [.inl (10, [(6, 16), (5, 7), (4, (-1)), (2, 2), (0, 1)]), .inr 0, .inl (6, [(1, 6), (0, 3)]), .inl (9, [(1, 5), (0, 4)]), .inr 17, .inr 0, .inr 0, .inl (1, [(10, 13), (9, 12), (8, 11), (7, 10), (6, 9), (5, 8)]), .inr 0, .inr 0, .inr 0, .inr 0, .inr 0, .inl (3, [(1, 15), (0, 14)]), .inr 0, .inr 0, .inl (1, [(10, 22), (9, 21), (8, 20), (7, 19), (6, 18), (5, 17)]), .inr 0, .inr 0, .inr 0, .inr 0, .inr 0, .inl (3, [(1, 24), (0, 23)]), .inr 0, .inr 0] rfl dk_S_init_48 fl_S_31 rfl (Or.inl rfl) rfl (by decide) rfl (fun _ => trivial) rfl rfl ?_
  refine Wp.aload_n 0 0 dk_S_init_51 rfl rfl ?_
  refine Wp.bipush dk_S_init_52 (by decide) (by decide) ?_
  refine Wp.kI 8 26 44 2289 [.inl (10, [(6, 16), (5, 7), (4, (-1)), (2, 2), (0, 1)]), .inr 0, .inl (6, [(1, 6), (0, 3)]), .inl (9, [(1, 5), (0, 4)]), .inr 17, .inr 0, .inr 0, .inl (1, [(10, 13), (9, 12), (8, 11), (7, 10), (6, 9), (5, 8)]), .inr 0, .inr 0, .inr 0, .inr 0, .inr 0, .inl (3, [(1, 15), (0, 14)]), .inr 0, .inr 0, .inl (1, [(10, 22), (9, 21), (8, 20), (7, 19), (6, 18), (5, 17)]), .inr 0, .inr 0, .inr 0, .inr 0, .inr 0, .inl (3, [(1, 24), (0, 23)]), .inr 0, .inr 0, .inr 0] rfl dk_S_init_54 rfl (by decide) rfl ?_
  refine Wp.kP (k := 7) 0 [(6, 16), (5, 7), (4, (-1)), (2, 2), (0, 1)] 25 7 [.inl (10, [(7, 25), (6, 16), (5, 7), (4, (-1)), (2, 2), (0, 1)]), .inr 0, .inl (6, [(1, 6), (0, 3)]), .inl (9, [(1, 5), (0, 4)]), .inr 17, .inr 0, .inr 0, .inl (1, [(10, 13), (9, 12), (8, 11), (7, 10), (6, 9), (5, 8)]), .inr 0, .inr 0, .inr 0, .inr 0, .inr 0, .inl (3, [(1, 15), (0, 14)]), .inr 0, .inr 0, .inl (1, [(10, 22), (9, 21), (8, 20), (7, 19), (6, 18), (5, 17)]), .inr 0, .inr 0, .inr 0, .inr 0, .inr 0, .inl (3, [(1, 24), (0, 23)]), .inr 0, .inr 0, .inr 0] rfl dk_S_init_56 fl_S_34 rfl (Or.inr ⟨rfl, rfl, rfl⟩) rfl (by decide) rfl (fun _ => trivial) rfl rfl ?_
  refine Wp.aload_n 0 0 dk_S_init_59 rfl rfl ?_
  refine Wp.bipush dk_S_init_60 (by decide) (by decide) ?_
  refine Wp.kI 8 27 43 2281 [.inl (10, [(7, 25), (6, 16), (5, 7), (4, (-1)), (2, 2), (0, 1)]), .inr 0, .inl (6, [(1, 6), (0, 3)]), .inl (9, [(1, 5), (0, 4)]), .inr 17, .inr 0, .inr 0, .inl (1, [(10, 13), (9, 12), (8, 11), (7, 10), (6, 9), (5, 8)]), .inr 0, .inr 0, .inr 0, .inr 0, .inr 0, .inl (3, [(1, 15), (0, 14)]), .inr 0, .inr 0, .inl (1, [(10, 22), (9, 21), (8, 20), (7, 19), (6, 18), (5, 17)]), .inr 0, .inr 0, .inr 0, .inr 0, .inr 0, .inl (3, [(1, 24), (0, 23)]), .inr 0, .inr 0, .inr 0, .inr 0] rfl dk_S_init_62 rfl (by decide) rfl ?_
  refine Wp.kP (k := 8) 0 [(7, 25), (6, 16), (5, 7), (4, (-1)), (2, 2), (0, 1)] 26 8 [.inl (10, [(8, 26), (7, 25), (6, 16), (5, 7), (4, (-1)), (2, 2), (0, 1)]), .inr 0, .inl (6, [(1, 6), (0, 3)]), .inl (9, [(1, 5), (0, 4)]), .inr 17, .inr 0, .inr 0, .inl (1, [(10, 13), (9, 12), (8, 11), (7, 10), (6, 9), (5, 8)]), .inr 0, .inr 0, .inr 0, .inr 0, .inr 0, .inl (3, [(1, 15), (0, 14)]), .inr 0, .inr 0, .inl (1, [(10, 22), (9, 21), (8, 20), (7, 19), (6, 18), (5, 17)]), .inr 0, .inr 0, .inr 0, .inr 0, .inr 0, .inl (3, [(1, 24), (0, 23)]), .inr 0, .inr 0, .inr 0, .inr 0] rfl dk_S_init_64 fl_S_37 rfl (Or.inr ⟨rfl, rfl, rfl⟩) rfl (by decide) rfl (fun _ => trivial) rfl rfl ?_
  refine Wp.aload_n 0 0 dk_S_init_67 rfl rfl ?_
  refine Wp.bipush dk_S_init_68 (by decide) (by decide) ?_
  refine Wp.kI 8 28 42 2273 [.inl (10, [(8, 26), (7, 25), (6, 16), (5, 7), (4, (-1)), (2, 2), (0, 1)]), .inr 0, .inl (6, [(1, 6), (0, 3)]), .inl (9, [(1, 5), (0, 4)]), .inr 17, .inr 0, .inr 0, .inl (1, [(10, 13), (9, 12), (8, 11), (7, 10), (6, 9), (5, 8)]), .inr 0, .inr 0, .inr 0, .inr 0, .inr 0, .inl (3, [(1, 15), (0, 14)]), .inr 0, .inr 0, .inl (1, [(10, 22), (9, 21), (8, 20), (7, 19), (6, 18), (5, 17)]), .inr 0, .inr 0, .inr 0, .inr 0, .inr 0, .inl (3, [(1, 24), (0, 23)]), .inr 0, .inr 0, .inr 0, .inr 0, .inr 0] rfl dk_S_init_70 rfl (by decide) rfl ?_
  refine Wp.kP (k := 9) 0 [(8, 26), (7, 25), (6, 16), (5, 7), (4, (-1)), (2, 2), (0, 1)] 27 9 [.inl (10, [(9, 27), (8, 26), (7, 25), (6, 16), (5, 7), (4, (-1)), (2, 2), (0, 1)]), .inr 0, .inl (6, [(1, 6), (0, 3)]), .inl (9, [(1, 5), (0, 4)]), .inr 17, .inr 0, .inr 0, .inl (1, [(10, 13), (9, 12), (8, 11), (7, 10), (6, 9), (5, 8)]), .inr 0, .inr 0, .inr 0, .inr 0, .inr 0, .inl (3, [(1, 15), (0, 14)]), .inr 0, .inr 0, .inl (1, [(10, 22), (9, 21), (8, 20), (7, 19), (6, 18), (5, 17)]), .inr 0, .inr 0, .inr 0, .inr 0, .inr 0, .inl (3, [(1, 24), (0, 23)]), .inr 0, .inr 0, .inr 0, .inr 0, .inr 0] rfl dk_S_init_72 fl_S_40 rfl (Or.inr ⟨rfl, rfl, rfl⟩) rfl (by decide) rfl (fun _ => trivial) rfl rfl ?_
  refine Wp.aload_n 0 0 dk_S_init_75 rfl rfl ?_
  refine Wp.kN (c := 0) 3 29 41 2270 [.inl (10, [(9, 27), (8, 26), (7, 25), (6, 16), (5, 7), (4, (-1)), (2, 2), (0, 1)]), .inr 0, .inl (6, [(1, 6), (0, 3)]), .inl (9, [(1, 5), (0, 4)]), .inr 17, .inr 0, .inr 0, .inl (1, [(10, 13), (9, 12), (8, 11), (7, 10), (6, 9), (5, 8)]), .inr 0, .inr 0, .inr 0, .inr 0, .inr 0, .inl (3, [(1, 15), (0, 14)]), .inr 0, .inr 0, .inl (1, [(10, 22), (9, 21), (8, 20), (7, 19), (6, 18), (5, 17)]), .inr 0, .inr 0, .inr 0, .inr 0, .inr 0, .inl (3, [(1, 24), (0, 23)]), .inr 0, .inr 0, .inr 0, .inr 0, .inr 0, .inl (0, [])] dk_S_init_76 cl_S_43 rfl rfl (by decide) rfl ?_
  refine Wp.dup dk_S_init_79 rfl ?_
  refine Wp.kC 28 1 1 328 30 40 1942 [.inl (0, [(0, 29)]), .inr 0] [.inl (10, [(9, 27), (8, 26), (7, 25), (6, 16), (5, 7), (4, (-1)), (2, 2), (0, 1)]), .inr 0, .inl (6, [(1, 6), (0, 3)]), .inl (9, [(1, 5), (0, 4)]), .inr 17, .inr 0, .inr 0, .inl (1, [(10, 13), (9, 12), (8, 11), (7, 10), (6, 9), (5, 8)]), .inr 0, .inr 0, .inr 0, .inr 0, .inr 0, .inl (3, [(1, 15), (0, 14)]), .inr 0, .inr 0, .inl (1, [(10, 22), (9, 21), (8, 20), (7, 19), (6, 18), (5, 17)]), .inr 0, .inr 0, .inr 0, .inr 0, .inr 0, .inl (3, [(1, 24), (0, 23)]), .inr 0, .inr 0, .inr 0, .inr 0, .inr 0, .inl (0, [(0, 29)]), .inr 0] dk_S_init_80 k_Acts_init rfl (Or.inr (List.mem_of_getElem? (i := 3) rfl)) (kk_Acts_28) (fun h => by cases h) (Nat.le_of_ble_eq_true rfl) rfl (by decide) rfl ?_
  refine Wp.kP (k := 10) 0 [(9, 27), (8, 26), (7, 25), (6, 16), (5, 7), (4, (-1)), (2, 2), (0, 1)] 28 10 [.inl (10, [(10, 28), (9, 27), (8, 26), (7, 25), (6, 16), (5, 7), (4, (-1)), (2, 2), (0, 1)]), .inr 0, .inl (6, [(1, 6), (0, 3)]), .inl (9, [(1, 5), (0, 4)]), .inr 17, .inr 0, .inr 0, .inl (1, [(10, 13), (9, 12), (8, 11), (7, 10), (6, 9), (5, 8)]), .inr 0, .inr 0, .inr 0, .inr 0, .inr 0, .inl (3, [(1, 15), (0, 14)]), .inr 0, .inr 0, .inl (1, [(10, 22), (9, 21), (8, 20), (7, 19), (6, 18), (5, 17)]), .inr 0, .inr 0, .inr 0, .inr 0, .inr 0, .inl (3, [(1, 24), (0, 23)]), .inr 0, .inr 0, .inr 0, .inr 0, .inr 0, .inl (0, [(0, 29)]), .inr 0] rfl dk_S_init_83 fl_S_46 rfl (Or.inr ⟨rfl, rfl, rfl⟩) rfl (by decide) rfl (fun _ => trivial) rfl rfl ?_
  refine Wp.aload_n 0 0 dk_S_init_86 rfl rfl ?_
  refine Wp.bipush dk_S_init_87 (by decide) (by decide) ?_
  refine Wp.kI 24 31 39 1918 [.inl (10, [(10, 28), (9, 27), (8, 26), (7, 25), (6, 16), (5, 7), (4, (-1)), (2, 2), (0, 1)]), .inr 0, .inl (6, [(1, 6), (0, 3)]), .inl (9, [(1, 5), (0, 4)]), .inr 17, .inr 0, .inr 0, .inl (1, [(10, 13), (9, 12), (8, 11), (7, 10), (6, 9), (5, 8)]), .inr 0, .inr 0, .inr 0, .inr 0, .inr 0, .inl (3, [(1, 15), (0, 14)]), .inr 0, .inr 0, .inl (1, [(10, 22), (9, 21), (8, 20), (7, 19), (6, 18), (5, 17)]), .inr 0, .inr 0, .inr 0, .inr 0, .inr 0, .inl (3, [(1, 24), (0, 23)]), .inr 0, .inr 0, .inr 0, .inr 0, .inr 0, .inl (0, [(0, 29)]), .inr 0, .inr 0] rfl dk_S_init_89 rfl (by decide) rfl ?_
  refine Wp.kP (k := 11) 0 [(10, 28), (9, 27), (8, 26), (7, 25), (6, 16), (5, 7), (4, (-1)), (2, 2), (0, 1)] 30 11 [.inl (10, [(11, 30), (10, 28), (9, 27), (8, 26), (7, 25), (6, 16), (5, 7), (4, (-1)), (2, 2), (0, 1)]), .inr 0, .inl (6, [(1, 6), (0, 3)]), .inl (9, [(1, 5), (0, 4)]), .inr 17, .inr 0, .inr 0, .inl (1, [(10, 13), (9, 12), (8, 11), (7, 10), (6, 9), (5, 8)]), .inr 0, .inr 0, .inr 0, .inr 0, .inr 0, .inl (3, [(1, 15), (0, 14)]), .inr 0, .inr 0, .inl (1, [(10, 22), (9, 21), (8, 20), (7, 19), (6, 18), (5, 17)]), .inr 0, .inr 0, .inr 0, .inr 0, .inr 0, .inl (3, [(1, 24), (0, 23)]), .inr 0, .inr 0, .inr 0, .inr 0, .inr 0, .inl (0, [(0, 29)]), .inr 0, .inr 0] rfl dk_S_init_91 fl_S_50 rfl (Or.inr ⟨rfl, rfl, rfl⟩) rfl (by decide) rfl (fun _ => trivial) rfl rfl ?_
  refine Wp.aload_n 0 0 dk_S_init_94 rfl rfl ?_
  refine Wp.iconst dk_S_init_95 (by decide) ?_
  refine Wp.kZ 3 32 38 1915 [.inl (10, [(11, 30), (10, 28), (9, 27), (8, 26), (7, 25), (6, 16), (5, 7), (4, (-1)), (2, 2), (0, 1)]), .inr 0, .inl (6, [(1, 6), (0, 3)]), .inl (9, [(1, 5), (0, 4)]), .inr 17, .inr 0, .inr 0, .inl (1, [(10, 13), (9, 12), (8, 11), (7, 10), (6, 9), (5, 8)]), .inr 0, .inr 0, .inr 0, .inr 0, .inr 0, .inl (3, [(1, 15), (0, 14)]), .inr 0, .inr 0, .inl (1, [(10, 22), (9, 21), (8, 20), (7, 19), (6, 18), (5, 17)]), .inr 0, .inr 0, .inr 0, .inr 0, .inr 0, .inl (3, [(1, 24), (0, 23)]), .inr 0, .inr 0, .inr 0, .inr 0, .inr 0, .inl (0, [(0, 29)]), .inr 0, .inr 0, .inr 0] rfl dk_S_init_96 rfl (by decide) rfl ?_
  refine Wp.kP (k := 12) 0 [(11, 30), (10, 28), (9, 27), (8, 26), (7, 25), (6, 16), (5, 7), (4, (-1)), (2, 2), (0, 1)] 31 12 [.inl (10, [(12, 31), (11, 30), (10, 28), (9, 27), (8, 26), (7, 25), (6, 16), (5, 7), (4, (-1)), (2, 2), (0, 1)]), .inr 0, .inl (6, [(1, 6), (0, 3)]), .inl (9, [(1, 5), (0, 4)]), .inr 17, .inr 0, .inr 0, .inl (1, [(10, 13), (9, 12), (8, 11), (7, 10), (6, 9), (5, 8)]), .inr 0, .inr 0, .inr 0, .inr 0, .inr 0, .inl (3, [(1, 15), (0, 14)]), .inr 0, .inr 0, .inl (1, [(10, 22), (9, 21), (8, 20), (7, 19), (6, 18), (5, 17)]), .inr 0, .inr 0, .inr 0, .inr 0, .inr 0, .inl (3, [(1, 24), (0, 23)]), .inr 0, .inr 0, .inr 0, .inr 0, .inr 0, .inl (0, [(0, 29)]), .inr 0, .inr 0, .inr 0] rfl dk_S_init_98 fl_S_53 rfl (Or.inr ⟨rfl, rfl, rfl⟩) rfl (by decide) rfl (fun _ => trivial) rfl rfl ?_
  refine Wp.aload_n 0 0 dk_S_init_101 rfl rfl ?_
  refine Wp.kN (c := 7) 4 33 37 1911 [.inl (10, [(12, 31), (11, 30), (10, 28), (9, 27), (8, 26), (7, 25), (6, 16), (5, 7), (4, (-1)), (2, 2), (0, 1)]), .inr 0, .inl (6, [(1, 6), (0, 3)]), .inl (9, [(1, 5), (0, 4)]), .inr 17, .inr 0, .inr 0, .inl (1, [(10, 13), (9, 12), (8, 11), (7, 10), (6, 9), (5, 8)]), .inr 0, .inr 0, .inr 0, .inr 0, .inr 0, .inl (3, [(1, 15), (0, 14)]), .inr 0, .inr 0, .inl (1, [(10, 22), (9, 21), (8, 20), (7, 19), (6, 18), (5, 17)]), .inr 0, .inr 0, .inr 0, .inr 0, .inr 0, .inl (3, [(1, 24), (0, 23)]), .inr 0, .inr 0, .inr 0, .inr 0, .inr 0, .inl (0, [(0, 29)]), .inr 0, .inr 0, .inr 0, .inl (7, [])] dk_S_init_102 cl_S_57 rfl rfl (by decide) rfl ?_
  refine Wp.dup dk_S_init_105 rfl ?_
  refine Wp.kC 32 1 2 10 35 35 1901 [.inl (7, [(1, 34), (0, 33)]), .inr 0, .inr 0] [.inl (10, [(12, 31), (11, 30), (10, 28), (9, 27), (8, 26), (7, 25), (6, 16), (5, 7), (4, (-1)), (2, 2), (0, 1)]), .inr 0, .inl (6, [(1, 6), (0, 3)]), .inl (9, [(1, 5), (0, 4)]), .inr 17, .inr 0, .inr 0, .inl (1, [(10, 13), (9, 12), (8, 11), (7, 10), (6, 9), (5, 8)]), .inr 0, .inr 0, .inr 0, .inr 0, .inr 0, .inl (3, [(1, 15), (0, 14)]), .inr 0, .inr 0, .inl (1, [(10, 22), (9, 21), (8, 20), (7, 19), (6, 18), (5, 17)]), .inr 0, .inr 0, .inr 0, .inr 0, .inr 0, .inl (3, [(1, 24), (0, 23)]), .inr 0, .inr 0, .inr 0, .inr 0, .inr 0, .inl (0, [(0, 29)]), .inr 0, .inr 0, .inr 0, .inl (7, [(1, 34), (0, 33)]), .inr 0, .inr 0] dk_S_init_106 k_Sand_init rfl (Or.inr (List.mem_of_getElem? (i := 4) rfl)) (kk_Sand_32) (fun h => by cases h) (Nat.le_of_ble_eq_true rfl) rfl (by decide) rfl ?_
  refine Wp.kP (k := 13) 0 [(12, 31), (11, 30), (10, 28), (9, 27), (8, 26), (7, 25), (6, 16), (5, 7), (4, (-1)), (2, 2), (0, 1)] 32 13 [.inl (10, [(13, 32), (12, 31), (11, 30), (10, 28), (9, 27), (8, 26), (7, 25), (6, 16), (5, 7), (4, (-1)), (2, 2), (0, 1)]), .inr 0, .inl (6, [(1, 6), (0, 3)]), .inl (9, [(1, 5), (0, 4)]), .inr 17, .inr 0, .inr 0, .inl (1, [(10, 13), (9, 12), (8, 11), (7, 10), (6, 9), (5, 8)]), .inr 0, .inr 0, .inr 0, .inr 0, .inr 0, .inl (3, [(1, 15), (0, 14)]), .inr 0, .inr 0, .inl (1, [(10, 22), (9, 21), (8, 20), (7, 19), (6, 18), (5, 17)]), .inr 0, .inr 0, .inr 0, .inr 0, .inr 0, .inl (3, [(1, 24), (0, 23)]), .inr 0, .inr 0, .inr 0, .inr 0, .inr 0, .inl (0, [(0, 29)]), .inr 0, .inr 0, .inr 0, .inl (7, [(1, 34), (0, 33)]), .inr 0, .inr 0] rfl dk_S_init_109 fl_S_60 rfl (Or.inr ⟨rfl, rfl, rfl⟩) rfl (by decide) rfl (fun _ => trivial) rfl rfl ?_
  refine Wp.aload_n 0 0 dk_S_init_112 rfl rfl ?_
  refine Wp.kN (c := 7) 4 36 34 1897 [.inl (10, [(13, 32), (12, 31), (11, 30), (10, 28), (9, 27), (8, 26), (7, 25), (6, 16), (5, 7), (4, (-1)), (2, 2), (0, 1)]), .inr 0, .inl (6, [(1, 6), (0, 3)]), .inl (9, [(1, 5), (0, 4)]), .inr 17, .inr 0, .inr 0, .inl (1, [(10, 13), (9, 12), (8, 11), (7, 10), (6, 9), (5, 8)]), .inr 0, .inr 0, .inr 0, .inr 0, .inr 0, .inl (3, [(1, 15), (0, 14)]), .inr 0, .inr 0, .inl (1, [(10, 22), (9, 21), (8, 20), (7, 19), (6, 18), (5, 17)]), .inr 0, .inr 0, .inr 0, .inr 0, .inr 0, .inl (3, [(1, 24), (0, 23)]), .inr 0, .inr 0, .inr 0, .inr 0, .inr 0, .inl (0, [(0, 29)]), .inr 0, .inr 0, .inr 0, .inl (7, [(1, 34), (0, 33)]), .inr 0, .inr 0, .inl (7, [])] dk_S_init_113 cl_S_57 rfl rfl (by decide) rfl ?_
  refine Wp.dup dk_S_init_116 rfl ?_
  refine Wp.kC 35 1 2 10 38 32 1887 [.inl (7, [(1, 37), (0, 36)]), .inr 0, .inr 0] [.inl (10, [(13, 32), (12, 31), (11, 30), (10, 28), (9, 27), (8, 26), (7, 25), (6, 16), (5, 7), (4, (-1)), (2, 2), (0, 1)]), .inr 0, .inl (6, [(1, 6), (0, 3)]), .inl (9, [(1, 5), (0, 4)]), .inr 17, .inr 0, .inr 0, .inl (1, [(10, 13), (9, 12), (8, 11), (7, 10), (6, 9), (5, 8)]), .inr 0, .inr 0, .inr 0, .inr 0, .inr 0, .inl (3, [(1, 15), (0, 14)]), .inr 0, .inr 0, .inl (1, [(10, 22), (9, 21), (8, 20), (7, 19), (6, 18), (5, 17)]), .inr 0, .inr 0, .inr 0, .inr 0, .inr 0, .inl (3, [(1, 24), (0, 23)]), .inr 0, .inr 0, .inr 0, .inr 0, .inr 0, .inl (0, [(0, 29)]), .inr 0, .inr 0, .inr 0, .inl (7, [(1, 34), (0, 33)]), .inr 0, .inr 0, .inl (7, [(1, 37), (0, 36)]), .inr 0, .inr 0] dk_S_init_117 k_Sand_init rfl (Or.inr (List.mem_of_getElem? (i := 4) rfl)) (kk_Sand_35) (fun h => by cases h) (Nat.le_of_ble_eq_true rfl) rfl (by decide) rfl ?_
  refine Wp.kP (k := 14) 0 [(13, 32), (12, 31), (11, 30), (10, 28), (9, 27), (8, 26), (7, 25), (6, 16), (5, 7), (4, (-1)), (2, 2), (0, 1)] 35 14 [.inl (10, [(14, 35), (13, 32), (12, 31), (11, 30), (10, 28), (9, 27), (8, 26), (7, 25), (6, 16), (5, 7), (4, (-1)), (2, 2), (0, 1)]), .inr 0, .inl (6, [(1, 6), (0, 3)]), .inl (9, [(1, 5), (0, 4)]), .inr 17, .inr 0, .inr 0, .inl (1, [(10, 13), (9, 12), (8, 11), (7, 10), (6, 9), (5, 8)]), .inr 0, .inr 0, .inr 0, .inr 0, .inr 0, .inl (3, [(1, 15), (0, 14)]), .inr 0, .inr 0, .inl (1, [(10, 22), (9, 21), (8, 20), (7, 19), (6, 18), (5, 17)]), .inr 0, .inr 0, .inr 0, .inr 0, .inr 0, .inl (3, [(1, 24), (0, 23)]), .inr 0, .inr 0, .inr 0, .inr 0, .inr 0, .inl (0, [(0, 29)]), .inr 0, .inr 0, .inr 0, .inl (7, [(1, 34), (0, 33)]), .inr 0, .inr 0, .inl (7, [(1, 37), (0, 36)]), .inr 0, .inr 0] rfl dk_S_init_120 fl_S_64 rfl (Or.inr ⟨rfl, rfl, rfl⟩) rfl (by decide) rfl (fun _ => trivial) rfl rfl ?_
  refine Wp.aload_n 0 0 dk_S_init_123 rfl rfl ?_
  refine Wp.kN (c := 4) 7 39 31 1880 [.inl (10, [(14, 35), (13, 32), (12, 31), (11, 30), (10, 28), (9, 27), (8, 26), (7, 25), (6, 16), (5, 7), (4, (-1)), (2, 2), (0, 1)]), .inr 0, .inl (6, [(1, 6), (0, 3)]), .inl (9, [(1, 5), (0, 4)]), .inr 17, .inr 0, .inr 0, .inl (1, [(10, 13), (9, 12), (8, 11), (7, 10), (6, 9), (5, 8)]), .inr 0, .inr 0, .inr 0, .inr 0, .inr 0, .inl (3, [(1, 15), (0, 14)]), .inr 0, .inr 0, .inl (1, [(10, 22), (9, 21), (8, 20), (7, 19), (6, 18), (5, 17)]), .inr 0, .inr 0, .inr 0, .inr 0, .inr 0, .inl (3, [(1, 24), (0, 23)]), .inr 0, .inr 0, .inr 0, .inr 0, .inr 0, .inl (0, [(0, 29)]), .inr 0, .inr 0, .inr 0, .inl (7, [(1, 34), (0, 33)]), .inr 0, .inr 0, .inl (7, [(1, 37), (0, 36)]), .inr 0, .inr 0, .inl (4, [])] dk_S_init_124 cl_S_67 rfl rfl (by decide) rfl ?_
  refine Wp.dup dk_S_init_127 rfl ?_
  refine Wp.kC 38 2 6 1048 45 25 832 [.inl (4, [(6, 1), (4, 44), (3, 41), (2, 40), (0, 39)]), .inr 0, .inr 0, .inl (7, [(1, 43), (0, 42)]), .inr 0, .inr 0, .inr 0] [.inl (10, [(14, 35), (13, 32), (12, 31), (11, 30), (10, 28), (9, 27), (8, 26), (7, 25), (6, 16), (5, 7), (4, (-1)), (2, 2), (0, 1)]), .inr 0, .inl (6, [(1, 6), (0, 3)]), .inl (9, [(1, 5), (0, 4)]), .inr 17, .inr 0, .inr 0, .inl (1, [(10, 13), (9, 12), (8, 11), (7, 10), (6, 9), (5, 8)]), .inr 0, .inr 0, .inr 0, .inr 0, .inr 0, .inl (3, [(1, 15), (0, 14)]), .inr 0, .inr 0, .inl (1, [(10, 22), (9, 21), (8, 20), (7, 19), (6, 18), (5, 17)]), .inr 0, .inr 0, .inr 0, .inr 0, .inr 0, .inl (3, [(1, 24), (0, 23)]), .inr 0, .inr 0, .inr 0, .inr 0, .inr 0, .inl (0, [(0, 29)]), .inr 0, .inr 0, .inr 0, .inl (7, [(1, 34), (0, 33)]), .inr 0, .inr 0, .inl (7, [(1, 37), (0, 36)]), .inr 0, .inr 0, .inl (4, [(6, 1), (4, 44), (3, 41), (2, 40), (0, 39)]), .inr 0, .inr 0, .inl (7, [(1, 43), (0, 42)]), .inr 0, .inr 0, .inr 0] dk_S_init_128 k_Group_init rfl (Or.inr (List.mem_of_getElem? (i := 5) rfl)) (kk_Group_38) (fun h => by cases h) (Nat.le_of_ble_eq_true rfl) rfl (by decide) rfl ?_
  refine Wp.kP (k := 15) 0 [(14, 35), (13, 32), (12, 31), (11, 30), (10, 28), (9, 27), (8, 26), (7, 25), (6, 16), (5, 7), (4, (-1)), (2, 2), (0, 1)] 38 15 [.inl (10, [(15, 38), (14, 35), (13, 32), (12, 31), (11, 30), (10, 28), (9, 27), (8, 26), (7, 25), (6, 16), (5, 7), (4, (-1)), (2, 2), (0, 1)]), .inr 0, .inl (6, [(1, 6), (0, 3)]), .inl (9, [(1, 5), (0, 4)]), .inr 17, .inr 0, .inr 0, .inl (1, [(10, 13), (9, 12), (8, 11), (7, 10), (6, 9), (5, 8)]), .inr 0, .inr 0, .inr 0, .inr 0, .inr 0, .inl (3, [(1, 15), (0, 14)]), .inr 0, .inr 0, .inl (1, [(10, 22), (9, 21), (8, 20), (7, 19), (6, 18), (5, 17)]), .inr 0, .inr 0, .inr 0, .inr 0, .inr 0, .inl (3, [(1, 24), (0, 23)]), .inr 0, .inr 0, .inr 0, .inr 0, .inr 0, .inl (0, [(0, 29)]), .inr 0, .inr 0, .inr 0, .inl (7, [(1, 34), (0, 33)]), .inr 0, .inr 0, .inl (7, [(1, 37), (0, 36)]), .inr 0, .inr 0, .inl (4, [(6, 1), (4, 44), (3, 41), (2, 40), (0, 39)]), .inr 0, .inr 0, .inl (7, [(1, 43), (0, 42)]), .inr 0, .inr 0, .inr 0] rfl dk_S_init_131 fl_S_70 rfl (Or.inr ⟨rfl, rfl, rfl⟩) rfl (by decide) rfl (fun _ => trivial) rfl rfl ?_
  refine Wp.aload_n 0 0 dk_S_init_134 rfl rfl ?_
  refine Wp.kN (c := 2) 4 46 24 828 [.inl (10, [(15, 38), (14, 35), (13, 32), (12, 31), (11, 30), (10, 28), (9, 27), (8, 26), (7, 25), (6, 16), (5, 7), (4, (-1)), (2, 2), (0, 1)]), .inr 0, .inl (6, [(1, 6), (0, 3)]), .inl (9, [(1, 5), (0, 4)]), .inr 17, .inr 0, .inr 0, .inl (1, [(10, 13), (9, 12), (8, 11), (7, 10), (6, 9), (5, 8)]), .inr 0, .inr 0, .inr 0, .inr 0, .inr 0, .inl (3, [(1, 15), (0, 14)]), .inr 0, .inr 0, .inl (1, [(10, 22), (9, 21), (8, 20), (7, 19), (6, 18), (5, 17)]), .inr 0, .inr 0, .inr 0, .inr 0, .inr 0, .inl (3, [(1, 24), (0, 23)]), .inr 0, .inr 0, .inr 0, .inr 0, .inr 0, .inl (0, [(0, 29)]), .inr 0, .inr 0, .inr 0, .inl (7, [(1, 34), (0, 33)]), .inr 0, .inr 0, .inl (7, [(1, 37), (0, 36)]), .inr 0, .inr 0, .inl (4, [(6, 1), (4, 44), (3, 41), (2, 40), (0, 39)]), .inr 0, .inr 0, .inl (7, [(1, 43), (0, 42)]), .inr 0, .inr 0, .inr 0, .inl (2, [])] dk_S_init_135 cl_S_74 rfl rfl (by decide) rfl ?_
  refine Wp.dup dk_S_init_138 rfl ?_
  refine Wp.kC 45 1 9 360 55 15 468 [.inl (2, [(2, 54), (1, 47), (0, 46)]), .inr 0, .inr 1, .inr 0, .inr 0, .inr 0, .inr 0, .inr 0, .inr 0, .inr 0] [.inl (10, [(15, 38), (14, 35), (13, 32), (12, 31), (11, 30), (10, 28), (9, 27), (8, 26), (7, 25), (6, 16), (5, 7), (4, (-1)), (2, 2), (0, 1)]), .inr 0, .inl (6, [(1, 6), (0, 3)]), .inl (9, [(1, 5), (0, 4)]), .inr 17, .inr 0, .inr 0, .inl (1, [(10, 13), (9, 12), (8, 11), (7, 10), (6, 9), (5, 8)]), .inr 0, .inr 0, .inr 0, .inr 0, .inr 0, .inl (3, [(1, 15), (0, 14)]), .inr 0, .inr 0, .inl (1, [(10, 22), (9, 21), (8, 20), (7, 19), (6, 18), (5, 17)]), .inr 0, .inr 0, .inr 0, .inr 0, .inr 0, .inl (3, [(1, 24), (0, 23)]), .inr 0, .inr 0, .inr 0, .inr 0, .inr 0, .inl (0, [(0, 29)]), .inr 0, .inr 0, .inr 0, .inl (7, [(1, 34), (0, 33)]), .inr 0, .inr 0, .inl (7, [(1, 37), (0, 36)]), .inr 0, .inr 0, .inl (4, [(6, 1), (4, 44), (3, 41), (2, 40), (0, 39)]), .inr 0, .inr 0, .inl (7, [(1, 43), (0, 42)]), .inr 0, .inr 0, .inr 0, .inl (2, [(2, 54), (1, 47), (0, 46)]), .inr 0, .inr 1, .inr 0, .inr 0, .inr 0, .inr 0, .inr 0, .inr 0, .inr 0] dk_S_init_139 k_Fire_init rfl (Or.inr (List.mem_of_getElem? (i := 7) rfl)) (kk_Fire_45) (fun h => by cases h) (Nat.le_of_ble_eq_true rfl) rfl (by decide) rfl ?_
  refine Wp.kP (k := 16) 0 [(15, 38), (14, 35), (13, 32), (12, 31), (11, 30), (10, 28), (9, 27), (8, 26), (7, 25), (6, 16), (5, 7), (4, (-1)), (2, 2), (0, 1)] 45 16 [.inl (10, [(16, 45), (15, 38), (14, 35), (13, 32), (12, 31), (11, 30), (10, 28), (9, 27), (8, 26), (7, 25), (6, 16), (5, 7), (4, (-1)), (2, 2), (0, 1)]), .inr 0, .inl (6, [(1, 6), (0, 3)]), .inl (9, [(1, 5), (0, 4)]), .inr 17, .inr 0, .inr 0, .inl (1, [(10, 13), (9, 12), (8, 11), (7, 10), (6, 9), (5, 8)]), .inr 0, .inr 0, .inr 0, .inr 0, .inr 0, .inl (3, [(1, 15), (0, 14)]), .inr 0, .inr 0, .inl (1, [(10, 22), (9, 21), (8, 20), (7, 19), (6, 18), (5, 17)]), .inr 0, .inr 0, .inr 0, .inr 0, .inr 0, .inl (3, [(1, 24), (0, 23)]), .inr 0, .inr 0, .inr 0, .inr 0, .inr 0, .inl (0, [(0, 29)]), .inr 0, .inr 0, .inr 0, .inl (7, [(1, 34), (0, 33)]), .inr 0, .inr 0, .inl (7, [(1, 37), (0, 36)]), .inr 0, .inr 0, .inl (4, [(6, 1), (4, 44), (3, 41), (2, 40), (0, 39)]), .inr 0, .inr 0, .inl (7, [(1, 43), (0, 42)]), .inr 0, .inr 0, .inr 0, .inl (2, [(2, 54), (1, 47), (0, 46)]), .inr 0, .inr 1, .inr 0, .inr 0, .inr 0, .inr 0, .inr 0, .inr 0, .inr 0] rfl dk_S_init_142 fl_S_77 rfl (Or.inr ⟨rfl, rfl, rfl⟩) rfl (by decide) rfl (fun _ => trivial) rfl rfl ?_
  refine Wp.aload_n 0 0 dk_S_init_145 rfl rfl ?_
  refine Wp.kN (c := 8) 14 56 14 454 [.inl (10, [(16, 45), (15, 38), (14, 35), (13, 32), (12, 31), (11, 30), (10, 28), (9, 27), (8, 26), (7, 25), (6, 16), (5, 7), (4, (-1)), (2, 2), (0, 1)]), .inr 0, .inl (6, [(1, 6), (0, 3)]), .inl (9, [(1, 5), (0, 4)]), .inr 17, .inr 0, .inr 0, .inl (1, [(10, 13), (9, 12), (8, 11), (7, 10), (6, 9), (5, 8)]), .inr 0, .inr 0, .inr 0, .inr 0, .inr 0, .inl (3, [(1, 15), (0, 14)]), .inr 0, .inr 0, .inl (1, [(10, 22), (9, 21), (8, 20), (7, 19), (6, 18), (5, 17)]), .inr 0, .inr 0, .inr 0, .inr 0, .inr 0, .inl (3, [(1, 24), (0, 23)]), .inr 0, .inr 0, .inr 0, .inr 0, .inr 0, .inl (0, [(0, 29)]), .inr 0, .inr 0, .inr 0, .inl (7, [(1, 34), (0, 33)]), .inr 0, .inr 0, .inl (7, [(1, 37), (0, 36)]), .inr 0, .inr 0, .inl (4, [(6, 1), (4, 44), (3, 41), (2, 40), (0, 39)]), .inr 0, .inr 0, .inl (7, [(1, 43), (0, 42)]), .inr 0, .inr 0, .inr 0, .inl (2, [(2, 54), (1, 47), (0, 46)]), .inr 0, .inr 1, .inr 0, .inr 0, .inr 0, .inr 0, .inr 0, .inr 0, .inr 0, .inl (8, [])] dk_S_init_146 cl_S_81 rfl rfl (by decide) rfl ?_
  refine Wp.dup dk_S_init_149 rfl ?_
  refine Wp.kC 55 2 11 360 67 3 94 [.inl (8, [(8, 64), (7, 63), (6, 62), (5, 61), (4, 60), (3, 59), (2, 58), (1, 57), (0, 56)]), .inr 0, .inr 0, .inr 0, .inr 0, .inr 0, .inr 0, .inr 0, .inr 0, .inl (7, [(1, 66), (0, 65)]), .inr 0, .inr 0] [.inl (10, [(16, 45), (15, 38), (14, 35), (13, 32), (12, 31), (11, 30), (10, 28), (9, 27), (8, 26), (7, 25), (6, 16), (5, 7), (4, (-1)), (2, 2), (0, 1)]), .inr 0, .inl (6, [(1, 6), (0, 3)]), .inl (9, [(1, 5), (0, 4)]), .inr 17, .inr 0, .inr 0, .inl (1, [(10, 13), (9, 12), (8, 11), (7, 10), (6, 9), (5, 8)]), .inr 0, .inr 0, .inr 0, .inr 0, .inr 0, .inl (3, [(1, 15), (0, 14)]), .inr 0, .inr 0, .inl (1, [(10, 22), (9, 21), (8, 20), (7, 19), (6, 18), (5, 17)]), .inr 0, .inr 0, .inr 0, .inr 0, .inr 0, .inl (3, [(1, 24), (0, 23)]), .inr 0, .inr 0, .inr 0, .inr 0, .inr 0, .inl (0, [(0, 29)]), .inr 0, .inr 0, .inr 0, .inl (7, [(1, 34), (0, 33)]), .inr 0, .inr 0, .inl (7, [(1, 37), (0, 36)]), .inr 0, .inr 0, .inl (4, [(6, 1), (4, 44), (3, 41), (2, 40), (0, 39)]), .inr 0, .inr 0, .inl (7, [(1, 43), (0, 42)]), .inr 0, .inr 0, .inr 0, .inl (2, [(2, 54), (1, 47), (0, 46)]), .inr 0, .inr 1, .inr 0, .inr 0, .inr 0, .inr 0, .inr 0, .inr 0, .inr 0, .inl (8, [(8, 64), (7, 63), (6, 62), (5, 61), (4, 60), (3, 59), (2, 58), (1, 57), (0, 56)]), .inr 0, .inr 0, .inr 0, .inr 0, .inr 0, .inr 0, .inr 0, .inr 0, .inl (7, [(1, 66), (0, 65)]), .inr 0, .inr 0] dk_S_init_150 k_Sights_init rfl (Or.inr (List.mem_of_getElem? (i := 8) rfl)) (kk_Sights_55) (fun h => by cases h) (Nat.le_of_ble_eq_true rfl) rfl (by decide) rfl ?_
  refine Wp.kP (k := 17) 0 [(16, 45), (15, 38), (14, 35), (13, 32), (12, 31), (11, 30), (10, 28), (9, 27), (8, 26), (7, 25), (6, 16), (5, 7), (4, (-1)), (2, 2), (0, 1)] 55 17 [.inl (10, [(17, 55), (16, 45), (15, 38), (14, 35), (13, 32), (12, 31), (11, 30), (10, 28), (9, 27), (8, 26), (7, 25), (6, 16), (5, 7), (4, (-1)), (2, 2), (0, 1)]), .inr 0, .inl (6, [(1, 6), (0, 3)]), .inl (9, [(1, 5), (0, 4)]), .inr 17, .inr 0, .inr 0, .inl (1, [(10, 13), (9, 12), (8, 11), (7, 10), (6, 9), (5, 8)]), .inr 0, .inr 0, .inr 0, .inr 0, .inr 0, .inl (3, [(1, 15), (0, 14)]), .inr 0, .inr 0, .inl (1, [(10, 22), (9, 21), (8, 20), (7, 19), (6, 18), (5, 17)]), .inr 0, .inr 0, .inr 0, .inr 0, .inr 0, .inl (3, [(1, 24), (0, 23)]), .inr 0, .inr 0, .inr 0, .inr 0, .inr 0, .inl (0, [(0, 29)]), .inr 0, .inr 0, .inr 0, .inl (7, [(1, 34), (0, 33)]), .inr 0, .inr 0, .inl (7, [(1, 37), (0, 36)]), .inr 0, .inr 0, .inl (4, [(6, 1), (4, 44), (3, 41), (2, 40), (0, 39)]), .inr 0, .inr 0, .inl (7, [(1, 43), (0, 42)]), .inr 0, .inr 0, .inr 0, .inl (2, [(2, 54), (1, 47), (0, 46)]), .inr 0, .inr 1, .inr 0, .inr 0, .inr 0, .inr 0, .inr 0, .inr 0, .inr 0, .inl (8, [(8, 64), (7, 63), (6, 62), (5, 61), (4, 60), (3, 59), (2, 58), (1, 57), (0, 56)]), .inr 0, .inr 0, .inr 0, .inr 0, .inr 0, .inr 0, .inr 0, .inr 0, .inl (7, [(1, 66), (0, 65)]), .inr 0, .inr 0] rfl dk_S_init_153 fl_S_84 rfl (Or.inr ⟨rfl, rfl, rfl⟩) rfl (by decide) rfl (fun _ => trivial) rfl rfl ?_
  refine Wp.aload_n 0 0 dk_S_init_156 rfl rfl ?_
  refine Wp.kN (c := 5) 2 68 2 92 [.inl (10, [(17, 55), (16, 45), (15, 38), (14, 35), (13, 32), (12, 31), (11, 30), (10, 28), (9, 27), (8, 26), (7, 25), (6, 16), (5, 7), (4, (-1)), (2, 2), (0, 1)]), .inr 0, .inl (6, [(1, 6), (0, 3)]), .inl (9, [(1, 5), (0, 4)]), .inr 17, .inr 0, .inr 0, .inl (1, [(10, 13), (9, 12), (8, 11), (7, 10), (6, 9), (5, 8)]), .inr 0, .inr 0, .inr 0, .inr 0, .inr 0, .inl (3, [(1, 15), (0, 14)]), .inr 0, .inr 0, .inl (1, [(10, 22), (9, 21), (8, 20), (7, 19), (6, 18), (5, 17)]), .inr 0, .inr 0, .inr 0, .inr 0, .inr 0, .inl (3, [(1, 24), (0, 23)]), .inr 0, .inr 0, .inr 0, .inr 0, .inr 0, .inl (0, [(0, 29)]), .inr 0, .inr 0, .inr 0, .inl (7, [(1, 34), (0, 33)]), .inr 0, .inr 0, .inl (7, [(1, 37), (0, 36)]), .inr 0, .inr 0, .inl (4, [(6, 1), (4, 44), (3, 41), (2, 40), (0, 39)]), .inr 0, .inr 0, .inl (7, [(1, 43), (0, 42)]), .inr 0, .inr 0, .inr 0, .inl (2, [(2, 54), (1, 47), (0, 46)]), .inr 0, .inr 1, .inr 0, .inr 0, .inr 0, .inr 0, .inr 0, .inr 0, .inr 0, .inl (8, [(8, 64), (7, 63), (6, 62), (5, 61), (4, 60), (3, 59), (2, 58), (1, 57), (0, 56)]), .inr 0, .inr 0, .inr 0, .inr 0, .inr 0, .inr 0, .inr 0, .inr 0, .inl (7, [(1, 66), (0, 65)]), .inr 0, .inr 0, .inl (5, [])] dk_S_init_157 cl_S_88 rfl rfl (by decide) rfl ?_
  refine Wp.dup dk_S_init_160 rfl ?_
  refine Wp.kC 67 1 1 60 69 1 32 [.inl (5, [(0, 68)]), .inr 0] [.inl (10, [(17, 55), (16, 45), (15, 38), (14, 35), (13, 32), (12, 31), (11, 30), (10, 28), (9, 27), (8, 26), (7, 25), (6, 16), (5, 7), (4, (-1)), (2, 2), (0, 1)]), .inr 0, .inl (6, [(1, 6), (0, 3)]), .inl (9, [(1, 5), (0, 4)]), .inr 17, .inr 0, .inr 0, .inl (1, [(10, 13), (9, 12), (8, 11), (7, 10), (6, 9), (5, 8)]), .inr 0, .inr 0, .inr 0, .inr 0, .inr 0, .inl (3, [(1, 15), (0, 14)]), .inr 0, .inr 0, .inl (1, [(10, 22), (9, 21), (8, 20), (7, 19), (6, 18), (5, 17)]), .inr 0, .inr 0, .inr 0, .inr 0, .inr 0, .inl (3, [(1, 24), (0, 23)]), .inr 0, .inr 0, .inr 0, .inr 0, .inr 0, .inl (0, [(0, 29)]), .inr 0, .inr 0, .inr 0, .inl (7, [(1, 34), (0, 33)]), .inr 0, .inr 0, .inl (7, [(1, 37), (0, 36)]), .inr 0, .inr 0, .inl (4, [(6, 1), (4, 44), (3, 41), (2, 40), (0, 39)]), .inr 0, .inr 0, .inl (7, [(1, 43), (0, 42)]), .inr 0, .inr 0, .inr 0, .inl (2, [(2, 54), (1, 47), (0, 46)]), .inr 0, .inr 1, .inr 0, .inr 0, .inr 0, .inr 0, .inr 0, .inr 0, .inr 0, .inl (8, [(8, 64), (7, 63), (6, 62), (5, 61), (4, 60), (3, 59), (2, 58), (1, 57), (0, 56)]), .inr 0, .inr 0, .inr 0, .inr 0, .inr 0, .inr 0, .inr 0, .inr 0, .inl (7, [(1, 66), (0, 65)]), .inr 0, .inr 0, .inl (5, [(0, 68)]), .inr 0] dk_S_init_161 k_Lying_init rfl (Or.inr (List.mem_of_getElem? (i := 10) rfl)) (kk_Lying_67) (fun h => by cases h) (Nat.le_of_ble_eq_true rfl) rfl (by decide) rfl ?_
  refine Wp.kP (k := 18) 0 [(17, 55), (16, 45), (15, 38), (14, 35), (13, 32), (12, 31), (11, 30), (10, 28), (9, 27), (8, 26), (7, 25), (6, 16), (5, 7), (4, (-1)), (2, 2), (0, 1)] 67 18 [.inl (10, [(18, 67), (17, 55), (16, 45), (15, 38), (14, 35), (13, 32), (12, 31), (11, 30), (10, 28), (9, 27), (8, 26), (7, 25), (6, 16), (5, 7), (4, (-1)), (2, 2), (0, 1)]), .inr 0, .inl (6, [(1, 6), (0, 3)]), .inl (9, [(1, 5), (0, 4)]), .inr 17, .inr 0, .inr 0, .inl (1, [(10, 13), (9, 12), (8, 11), (7, 10), (6, 9), (5, 8)]), .inr 0, .inr 0, .inr 0, .inr 0, .inr 0, .inl (3, [(1, 15), (0, 14)]), .inr 0, .inr 0, .inl (1, [(10, 22), (9, 21), (8, 20), (7, 19), (6, 18), (5, 17)]), .inr 0, .inr 0, .inr 0, .inr 0, .inr 0, .inl (3, [(1, 24), (0, 23)]), .inr 0, .inr 0, .inr 0, .inr 0, .inr 0, .inl (0, [(0, 29)]), .inr 0, .inr 0, .inr 0, .inl (7, [(1, 34), (0, 33)]), .inr 0, .inr 0, .inl (7, [(1, 37), (0, 36)]), .inr 0, .inr 0, .inl (4, [(6, 1), (4, 44), (3, 41), (2, 40), (0, 39)]), .inr 0, .inr 0, .inl (7, [(1, 43), (0, 42)]), .inr 0, .inr 0, .inr 0, .inl (2, [(2, 54), (1, 47), (0, 46)]), .inr 0, .inr 1, .inr 0, .inr 0, .inr 0, .inr 0, .inr 0, .inr 0, .inr 0, .inl (8, [(8, 64), (7, 63), (6, 62), (5, 61), (4, 60), (3, 59), (2, 58), (1, 57), (0, 56)]), .inr 0, .inr 0, .inr 0, .inr 0, .inr 0, .inr 0, .inr 0, .inr 0, .inl (7, [(1, 66), (0, 65)]), .inr 0, .inr 0, .inl (5, [(0, 68)]), .inr 0] rfl dk_S_init_164 fl_S_91 rfl (Or.inr ⟨rfl, rfl, rfl⟩) rfl (by decide) rfl (fun _ => trivial) rfl rfl ?_
  refine Wp.aload_n 0 0 dk_S_init_167 rfl rfl ?_
  refine Wp.bipush dk_S_init_168 (by decide) (by decide) ?_
  refine Wp.kI 32 70 0 0 [.inl (10, [(18, 67), (17, 55), (16, 45), (15, 38), (14, 35), (13, 32), (12, 31), (11, 30), (10, 28), (9, 27), (8, 26), (7, 25), (6, 16), (5, 7), (4, (-1)), (2, 2), (0, 1)]), .inr 0, .inl (6, [(1, 6), (0, 3)]), .inl (9, [(1, 5), (0, 4)]), .inr 17, .inr 0, .inr 0, .inl (1, [(10, 13), (9, 12), (8, 11), (7, 10), (6, 9), (5, 8)]), .inr 0, .inr 0, .inr 0, .inr 0, .inr 0, .inl (3, [(1, 15), (0, 14)]), .inr 0, .inr 0, .inl (1, [(10, 22), (9, 21), (8, 20), (7, 19), (6, 18), (5, 17)]), .inr 0, .inr 0, .inr 0, .inr 0, .inr 0, .inl (3, [(1, 24), (0, 23)]), .inr 0, .inr 0, .inr 0, .inr 0, .inr 0, .inl (0, [(0, 29)]), .inr 0, .inr 0, .inr 0, .inl (7, [(1, 34), (0, 33)]), .inr 0, .inr 0, .inl (7, [(1, 37), (0, 36)]), .inr 0, .inr 0, .inl (4, [(6, 1), (4, 44), (3, 41), (2, 40), (0, 39)]), .inr 0, .inr 0, .inl (7, [(1, 43), (0, 42)]), .inr 0, .inr 0, .inr 0, .inl (2, [(2, 54), (1, 47), (0, 46)]), .inr 0, .inr 1, .inr 0, .inr 0, .inr 0, .inr 0, .inr 0, .inr 0, .inr 0, .inl (8, [(8, 64), (7, 63), (6, 62), (5, 61), (4, 60), (3, 59), (2, 58), (1, 57), (0, 56)]), .inr 0, .inr 0, .inr 0, .inr 0, .inr 0, .inr 0, .inr 0, .inr 0, .inl (7, [(1, 66), (0, 65)]), .inr 0, .inr 0, .inl (5, [(0, 68)]), .inr 0, .inr 0] rfl dk_S_init_170 rfl (by decide) rfl ?_
  refine Wp.kP (k := 19) 0 [(18, 67), (17, 55), (16, 45), (15, 38), (14, 35), (13, 32), (12, 31), (11, 30), (10, 28), (9, 27), (8, 26), (7, 25), (6, 16), (5, 7), (4, (-1)), (2, 2), (0, 1)] 69 19 [.inl (10, [(19, 69), (18, 67), (17, 55), (16, 45), (15, 38), (14, 35), (13, 32), (12, 31), (11, 30), (10, 28), (9, 27), (8, 26), (7, 25), (6, 16), (5, 7), (4, (-1)), (2, 2), (0, 1)]), .inr 0, .inl (6, [(1, 6), (0, 3)]), .inl (9, [(1, 5), (0, 4)]), .inr 17, .inr 0, .inr 0, .inl (1, [(10, 13), (9, 12), (8, 11), (7, 10), (6, 9), (5, 8)]), .inr 0, .inr 0, .inr 0, .inr 0, .inr 0, .inl (3, [(1, 15), (0, 14)]), .inr 0, .inr 0, .inl (1, [(10, 22), (9, 21), (8, 20), (7, 19), (6, 18), (5, 17)]), .inr 0, .inr 0, .inr 0, .inr 0, .inr 0, .inl (3, [(1, 24), (0, 23)]), .inr 0, .inr 0, .inr 0, .inr 0, .inr 0, .inl (0, [(0, 29)]), .inr 0, .inr 0, .inr 0, .inl (7, [(1, 34), (0, 33)]), .inr 0, .inr 0, .inl (7, [(1, 37), (0, 36)]), .inr 0, .inr 0, .inl (4, [(6, 1), (4, 44), (3, 41), (2, 40), (0, 39)]), .inr 0, .inr 0, .inl (7, [(1, 43), (0, 42)]), .inr 0, .inr 0, .inr 0, .inl (2, [(2, 54), (1, 47), (0, 46)]), .inr 0, .inr 1, .inr 0, .inr 0, .inr 0, .inr 0, .inr 0, .inr 0, .inr 0, .inl (8, [(8, 64), (7, 63), (6, 62), (5, 61), (4, 60), (3, 59), (2, 58), (1, 57), (0, 56)]), .inr 0, .inr 0, .inr 0, .inr 0, .inr 0, .inr 0, .inr 0, .inr 0, .inl (7, [(1, 66), (0, 65)]), .inr 0, .inr 0, .inl (5, [(0, 68)]), .inr 0, .inr 0] rfl dk_S_init_172 fl_S_95 rfl (Or.inr ⟨rfl, rfl, rfl⟩) rfl (by decide) rfl (fun _ => trivial) rfl rfl ?_
  exact Wp.vret dk_S_init_175 rfl ⟨rfl, rfl, rfl⟩
theorem dk_M_init_0 : decode Y_M_init.2.1 0 = .ok (.aload_n 0, 1) := by decide +kernel
theorem dk_M_init_1 : decode Y_M_init.2.1 1 = .ok (.invokespecial 1, 3) := by decide +kernel
theorem dk_M_init_4 : decode Y_M_init.2.1 4 = .ok (.aload_n 0, 1) := by decide +kernel
theorem dk_M_init_5 : decode Y_M_init.2.1 5 = .ok (.sipush 1620, 3) := by decide +kernel
theorem dk_M_init_8 : decode Y_M_init.2.1 8 = .ok (.newarray .byte, 2) := by decide +kernel
theorem dk_M_init_10 : decode Y_M_init.2.1 10 = .ok (.putfield 7, 3) := by decide +kernel
theorem dk_M_init_13 : decode Y_M_init.2.1 13 = .ok (.aload_n 0, 1) := by decide +kernel
theorem dk_M_init_14 : decode Y_M_init.2.1 14 = .ok (.sipush 1600, 3) := by decide +kernel
theorem dk_M_init_17 : decode Y_M_init.2.1 17 = .ok (.newarray .byte, 2) := by decide +kernel
theorem dk_M_init_19 : decode Y_M_init.2.1 19 = .ok (.putfield 13, 3) := by decide +kernel
theorem dk_M_init_22 : decode Y_M_init.2.1 22 = .ok (.aload_n 0, 1) := by decide +kernel
theorem dk_M_init_23 : decode Y_M_init.2.1 23 = .ok (.iconst (-1), 1) := by decide +kernel
theorem dk_M_init_24 : decode Y_M_init.2.1 24 = .ok (.putfield 16, 3) := by decide +kernel
theorem dk_M_init_27 : decode Y_M_init.2.1 27 = .ok (.aload_n 0, 1) := by decide +kernel
theorem dk_M_init_28 : decode Y_M_init.2.1 28 = .ok (.iconst 2, 1) := by decide +kernel
theorem dk_M_init_29 : decode Y_M_init.2.1 29 = .ok (.newarray .int, 2) := by decide +kernel
theorem dk_M_init_31 : decode Y_M_init.2.1 31 = .ok (.putfield 20, 3) := by decide +kernel
theorem dk_M_init_34 : decode Y_M_init.2.1 34 = .ok (.aload_n 0, 1) := by decide +kernel
theorem dk_M_init_35 : decode Y_M_init.2.1 35 = .ok (.iconst 2, 1) := by decide +kernel
theorem dk_M_init_36 : decode Y_M_init.2.1 36 = .ok (.newarray .int, 2) := by decide +kernel
theorem dk_M_init_38 : decode Y_M_init.2.1 38 = .ok (.putfield 24, 3) := by decide +kernel
theorem dk_M_init_41 : decode Y_M_init.2.1 41 = .ok (.aload_n 0, 1) := by decide +kernel
theorem dk_M_init_42 : decode Y_M_init.2.1 42 = .ok (.iconst 2, 1) := by decide +kernel
theorem dk_M_init_43 : decode Y_M_init.2.1 43 = .ok (.newarray .int, 2) := by decide +kernel
theorem dk_M_init_45 : decode Y_M_init.2.1 45 = .ok (.putfield 27, 3) := by decide +kernel
theorem dk_M_init_48 : decode Y_M_init.2.1 48 = .ok (.aload_n 0, 1) := by decide +kernel
theorem dk_M_init_49 : decode Y_M_init.2.1 49 = .ok (.iconst 2, 1) := by decide +kernel
theorem dk_M_init_50 : decode Y_M_init.2.1 50 = .ok (.newarray .int, 2) := by decide +kernel
theorem dk_M_init_52 : decode Y_M_init.2.1 52 = .ok (.putfield 30, 3) := by decide +kernel
theorem dk_M_init_55 : decode Y_M_init.2.1 55 = .ok (.aload_n 0, 1) := by decide +kernel
theorem dk_M_init_56 : decode Y_M_init.2.1 56 = .ok (.iconst 2, 1) := by decide +kernel
theorem dk_M_init_57 : decode Y_M_init.2.1 57 = .ok (.newarray .int, 2) := by decide +kernel
theorem dk_M_init_59 : decode Y_M_init.2.1 59 = .ok (.putfield 33, 3) := by decide +kernel
theorem dk_M_init_62 : decode Y_M_init.2.1 62 = .ok (.aload_n 0, 1) := by decide +kernel
theorem dk_M_init_63 : decode Y_M_init.2.1 63 = .ok (.iconst 2, 1) := by decide +kernel
theorem dk_M_init_64 : decode Y_M_init.2.1 64 = .ok (.newarray .int, 2) := by decide +kernel
theorem dk_M_init_66 : decode Y_M_init.2.1 66 = .ok (.putfield 36, 3) := by decide +kernel
theorem dk_M_init_69 : decode Y_M_init.2.1 69 = .ok (.aload_n 0, 1) := by decide +kernel
theorem dk_M_init_70 : decode Y_M_init.2.1 70 = .ok (.bipush 10, 2) := by decide +kernel
theorem dk_M_init_72 : decode Y_M_init.2.1 72 = .ok (.newarray .int, 2) := by decide +kernel
theorem dk_M_init_74 : decode Y_M_init.2.1 74 = .ok (.putfield 39, 3) := by decide +kernel
theorem dk_M_init_77 : decode Y_M_init.2.1 77 = .ok (.aload_n 0, 1) := by decide +kernel
theorem dk_M_init_78 : decode Y_M_init.2.1 78 = .ok (.bipush 50, 2) := by decide +kernel
theorem dk_M_init_80 : decode Y_M_init.2.1 80 = .ok (.newarray .int, 2) := by decide +kernel
theorem dk_M_init_82 : decode Y_M_init.2.1 82 = .ok (.putfield 42, 3) := by decide +kernel
theorem dk_M_init_85 : decode Y_M_init.2.1 85 = .ok (.aload_n 0, 1) := by decide +kernel
theorem dk_M_init_86 : decode Y_M_init.2.1 86 = .ok (.bipush 10, 2) := by decide +kernel
theorem dk_M_init_88 : decode Y_M_init.2.1 88 = .ok (.newarray .int, 2) := by decide +kernel
theorem dk_M_init_90 : decode Y_M_init.2.1 90 = .ok (.putfield 45, 3) := by decide +kernel
theorem dk_M_init_93 : decode Y_M_init.2.1 93 = .ok (.aload_n 0, 1) := by decide +kernel
theorem dk_M_init_94 : decode Y_M_init.2.1 94 = .ok (.iconst 2, 1) := by decide +kernel
theorem dk_M_init_95 : decode Y_M_init.2.1 95 = .ok (.newarray .int, 2) := by decide +kernel
theorem dk_M_init_97 : decode Y_M_init.2.1 97 = .ok (.putfield 48, 3) := by decide +kernel
theorem dk_M_init_100 : decode Y_M_init.2.1 100 = .ok (.aload_n 0, 1) := by decide +kernel
theorem dk_M_init_101 : decode Y_M_init.2.1 101 = .ok (.iconst 2, 1) := by decide +kernel
theorem dk_M_init_102 : decode Y_M_init.2.1 102 = .ok (.newarray .int, 2) := by decide +kernel
theorem dk_M_init_104 : decode Y_M_init.2.1 104 = .ok (.putfield 51, 3) := by decide +kernel
theorem dk_M_init_107 : decode Y_M_init.2.1 107 = .ok (.aload_n 0, 1) := by decide +kernel
theorem dk_M_init_108 : decode Y_M_init.2.1 108 = .ok (.bipush 10, 2) := by decide +kernel
theorem dk_M_init_110 : decode Y_M_init.2.1 110 = .ok (.newarray .long, 2) := by decide +kernel
theorem dk_M_init_112 : decode Y_M_init.2.1 112 = .ok (.putfield 54, 3) := by decide +kernel
theorem dk_M_init_115 : decode Y_M_init.2.1 115 = .ok (.aload_n 0, 1) := by decide +kernel
theorem dk_M_init_116 : decode Y_M_init.2.1 116 = .ok (.sipush 1120, 3) := by decide +kernel
theorem dk_M_init_119 : decode Y_M_init.2.1 119 = .ok (.newarray .int, 2) := by decide +kernel
theorem dk_M_init_121 : decode Y_M_init.2.1 121 = .ok (.putfield 58, 3) := by decide +kernel
theorem dk_M_init_124 : decode Y_M_init.2.1 124 = .ok (.aload_n 0, 1) := by decide +kernel
theorem dk_M_init_125 : decode Y_M_init.2.1 125 = .ok (.sipush 1120, 3) := by decide +kernel
theorem dk_M_init_128 : decode Y_M_init.2.1 128 = .ok (.newarray .int, 2) := by decide +kernel
theorem dk_M_init_130 : decode Y_M_init.2.1 130 = .ok (.putfield 61, 3) := by decide +kernel
theorem dk_M_init_133 : decode Y_M_init.2.1 133 = .ok (.aload_n 0, 1) := by decide +kernel
theorem dk_M_init_134 : decode Y_M_init.2.1 134 = .ok (.bipush 90, 2) := by decide +kernel
theorem dk_M_init_136 : decode Y_M_init.2.1 136 = .ok (.newarray .int, 2) := by decide +kernel
theorem dk_M_init_138 : decode Y_M_init.2.1 138 = .ok (.putfield 64, 3) := by decide +kernel
theorem dk_M_init_141 : decode Y_M_init.2.1 141 = .ok (.aload_n 0, 1) := by decide +kernel
theorem dk_M_init_142 : decode Y_M_init.2.1 142 = .ok (.bipush 90, 2) := by decide +kernel
theorem dk_M_init_144 : decode Y_M_init.2.1 144 = .ok (.newarray .int, 2) := by decide +kernel
theorem dk_M_init_146 : decode Y_M_init.2.1 146 = .ok (.putfield 67, 3) := by decide +kernel
theorem dk_M_init_149 : decode Y_M_init.2.1 149 = .ok (.aload_n 0, 1) := by decide +kernel
theorem dk_M_init_150 : decode Y_M_init.2.1 150 = .ok (.bipush 60, 2) := by decide +kernel
theorem dk_M_init_152 : decode Y_M_init.2.1 152 = .ok (.newarray .int, 2) := by decide +kernel
theorem dk_M_init_154 : decode Y_M_init.2.1 154 = .ok (.putfield 70, 3) := by decide +kernel
theorem dk_M_init_157 : decode Y_M_init.2.1 157 = .ok (.aload_n 0, 1) := by decide +kernel
theorem dk_M_init_158 : decode Y_M_init.2.1 158 = .ok (.bipush 8, 2) := by decide +kernel
theorem dk_M_init_160 : decode Y_M_init.2.1 160 = .ok (.newarray .int, 2) := by decide +kernel
theorem dk_M_init_162 : decode Y_M_init.2.1 162 = .ok (.putfield 73, 3) := by decide +kernel
theorem dk_M_init_165 : decode Y_M_init.2.1 165 = .ok (.aload_n 0, 1) := by decide +kernel
theorem dk_M_init_166 : decode Y_M_init.2.1 166 = .ok (.bipush 8, 2) := by decide +kernel
theorem dk_M_init_168 : decode Y_M_init.2.1 168 = .ok (.newarray .int, 2) := by decide +kernel
theorem dk_M_init_170 : decode Y_M_init.2.1 170 = .ok (.putfield 76, 3) := by decide +kernel
theorem dk_M_init_173 : decode Y_M_init.2.1 173 = .ok (.aload_n 0, 1) := by decide +kernel
theorem dk_M_init_174 : decode Y_M_init.2.1 174 = .ok (.iconst 5, 1) := by decide +kernel
theorem dk_M_init_175 : decode Y_M_init.2.1 175 = .ok (.newarray .int, 2) := by decide +kernel
theorem dk_M_init_177 : decode Y_M_init.2.1 177 = .ok (.putfield 79, 3) := by decide +kernel
theorem dk_M_init_180 : decode Y_M_init.2.1 180 = .ok (.aload_n 0, 1) := by decide +kernel
theorem dk_M_init_181 : decode Y_M_init.2.1 181 = .ok (.iconst 5, 1) := by decide +kernel
theorem dk_M_init_182 : decode Y_M_init.2.1 182 = .ok (.newarray .int, 2) := by decide +kernel
theorem dk_M_init_184 : decode Y_M_init.2.1 184 = .ok (.putfield 82, 3) := by decide +kernel
theorem dk_M_init_187 : decode Y_M_init.2.1 187 = .ok (.aload_n 0, 1) := by decide +kernel
theorem dk_M_init_188 : decode Y_M_init.2.1 188 = .ok (.iconst 5, 1) := by decide +kernel
theorem dk_M_init_189 : decode Y_M_init.2.1 189 = .ok (.newarray .int, 2) := by decide +kernel
theorem dk_M_init_191 : decode Y_M_init.2.1 191 = .ok (.putfield 85, 3) := by decide +kernel
theorem dk_M_init_194 : decode Y_M_init.2.1 194 = .ok (.aload_n 0, 1) := by decide +kernel
theorem dk_M_init_195 : decode Y_M_init.2.1 195 = .ok (.iconst 5, 1) := by decide +kernel
theorem dk_M_init_196 : decode Y_M_init.2.1 196 = .ok (.newarray .int, 2) := by decide +kernel
theorem dk_M_init_198 : decode Y_M_init.2.1 198 = .ok (.putfield 88, 3) := by decide +kernel
theorem dk_M_init_201 : decode Y_M_init.2.1 201 = .ok (.aload_n 0, 1) := by decide +kernel
theorem dk_M_init_202 : decode Y_M_init.2.1 202 = .ok (.sipush 328, 3) := by decide +kernel
theorem dk_M_init_205 : decode Y_M_init.2.1 205 = .ok (.newarray .int, 2) := by decide +kernel
theorem dk_M_init_207 : decode Y_M_init.2.1 207 = .ok (.putfield 91, 3) := by decide +kernel
theorem dk_M_init_210 : decode Y_M_init.2.1 210 = .ok (.aload_n 0, 1) := by decide +kernel
theorem dk_M_init_211 : decode Y_M_init.2.1 211 = .ok (.bipush 60, 2) := by decide +kernel
theorem dk_M_init_213 : decode Y_M_init.2.1 213 = .ok (.newarray .int, 2) := by decide +kernel
theorem dk_M_init_215 : decode Y_M_init.2.1 215 = .ok (.putfield 94, 3) := by decide +kernel
theorem dk_M_init_218 : decode Y_M_init.2.1 218 = .ok (.aload_n 0, 1) := by decide +kernel
theorem dk_M_init_219 : decode Y_M_init.2.1 219 = .ok (.iconst 5, 1) := by decide +kernel
theorem dk_M_init_220 : decode Y_M_init.2.1 220 = .ok (.newarray .int, 2) := by decide +kernel
theorem dk_M_init_222 : decode Y_M_init.2.1 222 = .ok (.putfield 97, 3) := by decide +kernel
theorem dk_M_init_225 : decode Y_M_init.2.1 225 = .ok (.aload_n 0, 1) := by decide +kernel
theorem dk_M_init_226 : decode Y_M_init.2.1 226 = .ok (.bipush 25, 2) := by decide +kernel
theorem dk_M_init_228 : decode Y_M_init.2.1 228 = .ok (.newarray .long, 2) := by decide +kernel
theorem dk_M_init_230 : decode Y_M_init.2.1 230 = .ok (.putfield 100, 3) := by decide +kernel
theorem dk_M_init_233 : decode Y_M_init.2.1 233 = .ok (.aload_n 0, 1) := by decide +kernel
theorem dk_M_init_234 : decode Y_M_init.2.1 234 = .ok (.bipush 16, 2) := by decide +kernel
theorem dk_M_init_236 : decode Y_M_init.2.1 236 = .ok (.newarray .int, 2) := by decide +kernel
theorem dk_M_init_238 : decode Y_M_init.2.1 238 = .ok (.putfield 103, 3) := by decide +kernel
theorem dk_M_init_241 : decode Y_M_init.2.1 241 = .ok (.aload_n 0, 1) := by decide +kernel
theorem dk_M_init_242 : decode Y_M_init.2.1 242 = .ok (.bipush 16, 2) := by decide +kernel
theorem dk_M_init_244 : decode Y_M_init.2.1 244 = .ok (.newarray .int, 2) := by decide +kernel
theorem dk_M_init_246 : decode Y_M_init.2.1 246 = .ok (.putfield 106, 3) := by decide +kernel
theorem dk_M_init_249 : decode Y_M_init.2.1 249 = .ok (.aload_n 0, 1) := by decide +kernel
theorem dk_M_init_250 : decode Y_M_init.2.1 250 = .ok (.sipush 155, 3) := by decide +kernel
theorem dk_M_init_253 : decode Y_M_init.2.1 253 = .ok (.newarray .int, 2) := by decide +kernel
theorem dk_M_init_255 : decode Y_M_init.2.1 255 = .ok (.putfield 109, 3) := by decide +kernel
theorem dk_M_init_258 : decode Y_M_init.2.1 258 = .ok (.aload_n 0, 1) := by decide +kernel
theorem dk_M_init_259 : decode Y_M_init.2.1 259 = .ok (.bipush 30, 2) := by decide +kernel
theorem dk_M_init_261 : decode Y_M_init.2.1 261 = .ok (.newarray .int, 2) := by decide +kernel
theorem dk_M_init_263 : decode Y_M_init.2.1 263 = .ok (.putfield 112, 3) := by decide +kernel
theorem dk_M_init_266 : decode Y_M_init.2.1 266 = .ok (.aload_n 0, 1) := by decide +kernel
theorem dk_M_init_267 : decode Y_M_init.2.1 267 = .ok (.bipush 30, 2) := by decide +kernel
theorem dk_M_init_269 : decode Y_M_init.2.1 269 = .ok (.newarray .int, 2) := by decide +kernel
theorem dk_M_init_271 : decode Y_M_init.2.1 271 = .ok (.putfield 115, 3) := by decide +kernel
theorem dk_M_init_274 : decode Y_M_init.2.1 274 = .ok (.aload_n 0, 1) := by decide +kernel
theorem dk_M_init_275 : decode Y_M_init.2.1 275 = .ok (.bipush 30, 2) := by decide +kernel
theorem dk_M_init_277 : decode Y_M_init.2.1 277 = .ok (.newarray .int, 2) := by decide +kernel
theorem dk_M_init_279 : decode Y_M_init.2.1 279 = .ok (.putfield 118, 3) := by decide +kernel
theorem dk_M_init_282 : decode Y_M_init.2.1 282 = .ok (.aload_n 0, 1) := by decide +kernel
theorem dk_M_init_283 : decode Y_M_init.2.1 283 = .ok (.bipush 30, 2) := by decide +kernel
theorem dk_M_init_285 : decode Y_M_init.2.1 285 = .ok (.newarray .int, 2) := by decide +kernel
theorem dk_M_init_287 : decode Y_M_init.2.1 287 = .ok (.putfield 121, 3) := by decide +kernel
theorem dk_M_init_290 : decode Y_M_init.2.1 290 = .ok (.aload_n 0, 1) := by decide +kernel
theorem dk_M_init_291 : decode Y_M_init.2.1 291 = .ok (.bipush 30, 2) := by decide +kernel
theorem dk_M_init_293 : decode Y_M_init.2.1 293 = .ok (.newarray .int, 2) := by decide +kernel
theorem dk_M_init_295 : decode Y_M_init.2.1 295 = .ok (.putfield 124, 3) := by decide +kernel
theorem dk_M_init_298 : decode Y_M_init.2.1 298 = .ok (.aload_n 0, 1) := by decide +kernel
theorem dk_M_init_299 : decode Y_M_init.2.1 299 = .ok (.bipush 10, 2) := by decide +kernel
theorem dk_M_init_301 : decode Y_M_init.2.1 301 = .ok (.newarray .int, 2) := by decide +kernel
theorem dk_M_init_303 : decode Y_M_init.2.1 303 = .ok (.putfield 127, 3) := by decide +kernel
theorem dk_M_init_306 : decode Y_M_init.2.1 306 = .ok (.aload_n 0, 1) := by decide +kernel
theorem dk_M_init_307 : decode Y_M_init.2.1 307 = .ok (.bipush 24, 2) := by decide +kernel
theorem dk_M_init_309 : decode Y_M_init.2.1 309 = .ok (.newarray .int, 2) := by decide +kernel
theorem dk_M_init_311 : decode Y_M_init.2.1 311 = .ok (.putfield 130, 3) := by decide +kernel
theorem dk_M_init_314 : decode Y_M_init.2.1 314 = .ok (.aload_n 0, 1) := by decide +kernel
theorem dk_M_init_315 : decode Y_M_init.2.1 315 = .ok (.iconst 3, 1) := by decide +kernel
theorem dk_M_init_316 : decode Y_M_init.2.1 316 = .ok (.newarray .boolean, 2) := by decide +kernel
theorem dk_M_init_318 : decode Y_M_init.2.1 318 = .ok (.putfield 133, 3) := by decide +kernel
theorem dk_M_init_321 : decode Y_M_init.2.1 321 = .ok (.aload_n 0, 1) := by decide +kernel
theorem dk_M_init_322 : decode Y_M_init.2.1 322 = .ok (.invokevirtual 137, 3) := by decide +kernel
theorem dk_M_init_325 : decode Y_M_init.2.1 325 = .ok (.aload_n 0, 1) := by decide +kernel
theorem dk_M_init_326 : decode Y_M_init.2.1 326 = .ok (.invokevirtual 140, 3) := by decide +kernel
theorem dk_M_init_329 : decode Y_M_init.2.1 329 = .ok (.return_, 1) := by decide +kernel
def LcM : List Cd := [.inl (11, [(63, 110), (62, 109), (59, 108), (58, 107), (57, 106), (56, 105), (55, 104), (54, 103), (53, 102), (52, 101), (51, 100), (50, 99), (49, 98), (47, 97), (44, 96), (40, 95), (39, 94), (38, 93), (37, 92), (36, 91), (35, 90), (27, 89), (26, 88), (25, 87), (24, 86), (23, 85), (22, 84), (21, 83), (20, 82), (19, 81), (18, 80), (17, 79), (16, 78), (15, 77), (14, 76), (13, 75), (12, 74), (11, 73), (5, (-1)), (1, 72), (0, 71)]), .inr 0, .inr 0, .inr 0, .inr 0, .inr 0, .inr 0, .inr 0, .inr 0, .inr 0, .inr 0, .inr 0, .inr 0, .inr 0, .inr 0, .inr 0, .inr 0, .inr 0, .inr 0, .inr 0, .inr 0, .inr 0, .inr 0, .inr 0, .inr 0, .inr 0, .inr 0, .inr 0, .inr 0, .inr 0, .inr 0, .inr 0, .inr 0, .inr 0, .inr 0, .inr 0, .inr 0, .inr 0, .inr 0, .inr 0, .inr 0]
def LcS : List Cd := [.inl (10, [(19, 69), (18, 67), (17, 55), (16, 45), (15, 38), (14, 35), (13, 32), (12, 31), (11, 30), (10, 28), (9, 27), (8, 26), (7, 25), (6, 16), (5, 7), (4, (-1)), (2, 2), (0, 1)]), .inr 0, .inl (6, [(1, 6), (0, 3)]), .inl (9, [(1, 5), (0, 4)]), .inr 17, .inr 0, .inr 0, .inl (1, [(10, 13), (9, 12), (8, 11), (7, 10), (6, 9), (5, 8)]), .inr 0, .inr 0, .inr 0, .inr 0, .inr 0, .inl (3, [(1, 15), (0, 14)]), .inr 0, .inr 0, .inl (1, [(10, 22), (9, 21), (8, 20), (7, 19), (6, 18), (5, 17)]), .inr 0, .inr 0, .inr 0, .inr 0, .inr 0, .inl (3, [(1, 24), (0, 23)]), .inr 0, .inr 0, .inr 0, .inr 0, .inr 0, .inl (0, [(0, 29)]), .inr 0, .inr 0, .inr 0, .inl (7, [(1, 34), (0, 33)]), .inr 0, .inr 0, .inl (7, [(1, 37), (0, 36)]), .inr 0, .inr 0, .inl (4, [(6, 1), (4, 44), (3, 41), (2, 40), (0, 39)]), .inr 0, .inr 0, .inl (7, [(1, 43), (0, 42)]), .inr 0, .inr 0, .inr 0, .inl (2, [(2, 54), (1, 47), (0, 46)]), .inr 0, .inr 1, .inr 0, .inr 0, .inr 0, .inr 0, .inr 0, .inr 0, .inr 0, .inl (8, [(8, 64), (7, 63), (6, 62), (5, 61), (4, 60), (3, 59), (2, 58), (1, 57), (0, 56)]), .inr 0, .inr 0, .inr 0, .inr 0, .inr 0, .inr 0, .inr 0, .inr 0, .inl (7, [(1, 66), (0, 65)]), .inr 0, .inr 0, .inl (5, [(0, 68)]), .inr 0, .inr 0]
/-- rows of the reference, up to its two calls -/
theorem kk_M {l : Launch} {G : GT} {Q : Option MV → MM → Nat → Prop} {m : MM} (K : Wp l G false Y_M_init 6 false Q 321 [(0, .inr (.inr 70))] [] (mkM 70 LcM m) 111 0 0) : Wp l G false Y_M_init 6 false Q 0 [(0, .inr (.inr 70))] [] (mkM 70 [.inl (11, [])] m) 71 40 6624 := by
  refine Wp.aload_n 0 0 dk_M_init_0 rfl rfl ?_
  refine Wp.oinit dk_M_init_1 oi_M (by omega) (Nat.le_of_ble_eq_true rfl) ?_
  refine Wp.aload_n 0 0 dk_M_init_4 rfl rfl ?_
  refine Wp.sipush dk_M_init_5 (by decide) (by decide) ?_
  refine Wp.kB 1620 72 39 5004 [.inl (11, []), .inr 0] rfl dk_M_init_8 rfl (by decide) rfl ?_
  refine Wp.kP (k := 0) 0 [] 71 0 [.inl (11, [(0, 71)]), .inr 0] rfl dk_M_init_10 fl_M_7 rfl (Or.inr ⟨rfl, rfl, rfl⟩) rfl (by decide) rfl (fun _ => trivial) rfl rfl ?_
  refine Wp.aload_n 0 0 dk_M_init_13 rfl rfl ?_
  refine Wp.sipush dk_M_init_14 (by decide) (by decide) ?_
  refine Wp.kB 1600 73 38 3404 [.inl (11, [(0, 71)]), .inr 0, .inr 0] rfl dk_M_init_17 rfl (by decide) rfl ?_
  refine Wp.kP (k := 1) 0 [(0, 71)] 72 1 [.inl (11, [(1, 72), (0, 71)]), .inr 0, .inr 0] rfl dk_M_init_19 fl_M_13 rfl (Or.inr ⟨rfl, rfl, rfl⟩) rfl (by decide) rfl (fun _ => trivial) rfl rfl ?_
  refine Wp.aload_n 0 0 dk_M_init_22 rfl rfl ?_
  refine Wp.iconst dk_M_init_23 (by decide) ?_
  refine Wp.kP (k := 5) 0 [(1, 72), (0, 71)] (-1) 5 [.inl (11, [(5, (-1)), (1, 72), (0, 71)]), .inr 0, .inr 0] rfl dk_M_init_24 fl_M_16 rfl (Or.inl rfl) rfl (by decide) rfl (fun h => h) rfl rfl ?_
  refine Wp.aload_n 0 0 dk_M_init_27 rfl rfl ?_
  refine Wp.iconst dk_M_init_28 (by decide) ?_
  refine Wp.kI 2 74 37 3402 [.inl (11, [(5, (-1)), (1, 72), (0, 71)]), .inr 0, .inr 0, .inr 0] rfl dk_M_init_29 rfl (by decide) rfl ?_
  refine Wp.kP (k := 11) 0 [(5, (-1)), (1, 72), (0, 71)] 73 11 [.inl (11, [(11, 73), (5, (-1)), (1, 72), (0, 71)]), .inr 0, .inr 0, .inr 0] rfl dk_M_init_31 fl_M_20 rfl (Or.inr ⟨rfl, rfl, rfl⟩) rfl (by decide) rfl (fun _ => trivial) rfl rfl ?_
  refine Wp.aload_n 0 0 dk_M_init_34 rfl rfl ?_
  refine Wp.iconst dk_M_init_35 (by decide) ?_
  refine Wp.kI 2 75 36 3400 [.inl (11, [(11, 73), (5, (-1)), (1, 72), (0, 71)]), .inr 0, .inr 0, .inr 0, .inr 0] rfl dk_M_init_36 rfl (by decide) rfl ?_
  refine Wp.kP (k := 12) 0 [(11, 73), (5, (-1)), (1, 72), (0, 71)] 74 12 [.inl (11, [(12, 74), (11, 73), (5, (-1)), (1, 72), (0, 71)]), .inr 0, .inr 0, .inr 0, .inr 0] rfl dk_M_init_38 fl_M_24 rfl (Or.inr ⟨rfl, rfl, rfl⟩) rfl (by decide) rfl (fun _ => trivial) rfl rfl ?_
  refine Wp.aload_n 0 0 dk_M_init_41 rfl rfl ?_
  refine Wp.iconst dk_M_init_42 (by decide) ?_
  refine Wp.kI 2 76 35 3398 [.inl (11, [(12, 74), (11, 73), (5, (-1)), (1, 72), (0, 71)]), .inr 0, .inr 0, .inr 0, .inr 0, .inr 0] rfl dk_M_init_43 rfl (by decide) rfl ?_
  refine Wp.kP (k := 13) 0 [(12, 74), (11, 73), (5, (-1)), (1, 72), (0, 71)] 75 13 [.inl (11, [(13, 75), (12, 74), (11, 73), (5, (-1)), (1, 72), (0, 71)]), .inr 0, .inr 0, .inr 0, .inr 0, .inr 0] rfl dk_M_init_45 fl_M_27 rfl (Or.inr ⟨rfl, rfl, rfl⟩) rfl (by decide) rfl (fun _ => trivial) rfl rfl ?_
  refine Wp.aload_n 0 0 dk_M_init_48 rfl rfl ?_
  refine Wp.iconst dk_M_init_49 (by decide) ?_
  refine Wp.kI 2 77 34 3396 [.inl (11, [(13, 75), (12, 74), (11, 73), (5, (-1)), (1, 72), (0, 71)]), .inr 0, .inr 0, .inr 0, .inr 0, .inr 0, .inr 0] rfl dk_M_init_50 rfl (by decide) rfl ?_
  refine Wp.kP (k := 14) 0 [(13, 75), (12, 74), (11, 73), (5, (-1)), (1, 72), (0, 71)] 76 14 [.inl (11, [(14, 76), (13, 75), (12, 74), (11, 73), (5, (-1)), (1, 72), (0, 71)]), .inr 0, .inr 0, .inr 0, .inr 0, .inr 0, .inr 0] rfl dk_M_init_52 fl_M_30 rfl (Or.inr ⟨rfl, rfl, rfl⟩) rfl (by decide) rfl (fun _ => trivial) rfl rfl ?_
  refine Wp.aload_n 0 0 dk_M_init_55 rfl rfl ?_
  refine Wp.iconst dk_M_init_56 (by decide) ?_
  refine Wp.kI 2 78 33 3394 [.inl (11, [(14, 76), (13, 75), (12, 74), (11, 73), (5, (-1)), (1, 72), (0, 71)]), .inr 0, .inr 0, .inr 0, .inr 0, .inr 0, .inr 0, .inr 0] rfl dk_M_init_57 rfl (by decide) rfl ?_
  refine Wp.kP (k := 15) 0 [(14, 76), (13, 75), (12, 74), (11, 73), (5, (-1)), (1, 72), (0, 71)] 77 15 [.inl (11, [(15, 77), (14, 76), (13, 75), (12, 74), (11, 73), (5, (-1)), (1, 72), (0, 71)]), .inr 0, .inr 0, .inr 0, .inr 0, .inr 0, .inr 0, .inr 0] rfl dk_M_init_59 fl_M_33 rfl (Or.inr ⟨rfl, rfl, rfl⟩) rfl (by decide) rfl (fun _ => trivial) rfl rfl ?_
  refine Wp.aload_n 0 0 dk_M_init_62 rfl rfl ?_
  refine Wp.iconst dk_M_init_63 (by decide) ?_
  refine Wp.kI 2 79 32 3392 [.inl (11, [(15, 77), (14, 76), (13, 75), (12, 74), (11, 73), (5, (-1)), (1, 72), (0, 71)]), .inr 0, .inr 0, .inr 0, .inr 0, .inr 0, .inr 0, .inr 0, .inr 0] rfl dk_M_init_64 rfl (by decide) rfl ?_
  refine Wp.kP (k := 16) 0 [(15, 77), (14, 76), (13, 75), (12, 74), (11, 73), (5, (-1)), (1, 72), (0, 71)] 78 16 [.inl (11, [(16, 78), (15, 77), (14, 76), (13, 75), (12, 74), (11, 73), (5, (-1)), (1, 72), (0, 71)]), .inr 0, .inr 0, .inr 0, .inr 0, .inr 0, .inr 0, .inr 0, .inr 0] rfl dk_M_init_66 fl_M_36 rfl (Or.inr ⟨rfl, rfl, rfl⟩) rfl (by decide) rfl (fun _ => trivial) rfl rfl ?_
  refine Wp.aload_n 0 0 dk_M_init_69 rfl rfl ?_
  refine Wp.bipush dk_M_init_70 (by decide) (by decide) ?_
  refine Wp.kI 10 80 31 3382 [.inl (11, [(16, 78), (15, 77), (14, 76), (13, 75), (12, 74), (11, 73), (5, (-1)), (1, 72), (0, 71)]), .inr 0, .inr 0, .inr 0, .inr 0, .inr 0, .inr 0, .inr 0, .inr 0, .inr 0] rfl dk_M_init_72 rfl (by decide) rfl ?_
  refine Wp.kP (k := 17) 0 [(16, 78), (15, 77), (14, 76), (13, 75), (12, 74), (11, 73), (5, (-1)), (1, 72), (0, 71)] 79 17 [.inl (11, [(17, 79), (16, 78), (15, 77), (14, 76), (13, 75), (12, 74), (11, 73), (5, (-1)), (1, 72), (0, 71)]), .inr 0, .inr 0, .inr 0, .inr 0, .inr 0, .inr 0, .inr 0, .inr 0, .inr 0] rfl dk_M_init_74 fl_M_39 rfl (Or.inr ⟨rfl, rfl, rfl⟩) rfl (by decide) rfl (fun _ => trivial) rfl rfl ?_
  refine Wp.aload_n 0 0 dk_M_init_77 rfl rfl ?_
  refine Wp.bipush dk_M_init_78 (by decide) (by decide) ?_
  refine Wp.kI 50 81 30 3332 [.inl (11, [(17, 79), (16, 78), (15, 77), (14, 76), (13, 75), (12, 74), (11, 73), (5, (-1)), (1, 72), (0, 71)]), .inr 0, .inr 0, .inr 0, .inr 0, .inr 0, .inr 0, .inr 0, .inr 0, .inr 0, .inr 0] rfl dk_M_init_80 rfl (by decide) rfl ?_
  refine Wp.kP (k := 18) 0 [(17, 79), (16, 78), (15, 77), (14, 76), (13, 75), (12, 74), (11, 73), (5, (-1)), (1, 72), (0, 71)] 80 18 [.inl (11, [(18, 80), (17, 79), (16, 78), (15, 77), (14, 76), (13, 75), (12, 74), (11, 73), (5, (-1)), (1, 72), (0, 71)]), .inr 0, .inr 0, .inr 0, .inr 0, .inr 0, .inr 0, .inr 0, .inr 0, .inr 0, .inr 0] rfl dk_M_init_82 fl_M_42 rfl (Or.inr ⟨rfl, rfl, rfl⟩) rfl (by decide) rfl (fun _ => trivial) rfl rfl ?_
  refine Wp.aload_n 0 0 dk_M_init_85 rfl rfl ?_
  refine Wp.bipush dk_M_init_86 (by decide) (by decide) ?_
  refine Wp.kI 10 82 29 3322 [.inl (11, [(18, 80), (17, 79), (16, 78), (15, 77), (14, 76), (13, 75), (12, 74), (11, 73), (5, (-1)), (1, 72), (0, 71)]), .inr 0, .inr 0, .inr 0, .inr 0, .inr 0, .inr 0, .inr 0, .inr 0, .inr 0, .inr 0, .inr 0] rfl dk_M_init_88 rfl (by decide) rfl ?_
  refine Wp.kP (k := 19) 0 [(18, 80), (17, 79), (16, 78), (15, 77), (14, 76), (13, 75), (12, 74), (11, 73), (5, (-1)), (1, 72), (0, 71)] 81 19 [.inl (11, [(19, 81), (18, 80), (17, 79), (16, 78), (15, 77), (14, 76), (13, 75), (12, 74), (11, 73), (5, (-1)), (1, 72), (0, 71)]), .inr 0, .inr 0, .inr 0, .inr 0, .inr 0, .inr 0, .inr 0, .inr 0, .inr 0, .inr 0, .inr 0] rfl dk_M_init_90 fl_M_45 rfl (Or.inr ⟨rfl, rfl, rfl⟩) rfl (by decide) rfl (fun _ => trivial) rfl rfl ?_
  refine Wp.aload_n 0 0 dk_M_init_93 rfl rfl ?_
  refine Wp.iconst dk_M_init_94 (by decide) ?_
  refine Wp.kI 2 83 28 3320 [.inl (11, [(19, 81), (18, 80), (17, 79), (16, 78), (15, 77), (14, 76), (13, 75), (12, 74), (11, 73), (5, (-1)), (1, 72), (0, 71)]), .inr 0, .inr 0, .inr 0, .inr 0, .inr 0, .inr 0, .inr 0, .inr 0, .inr 0, .inr 0, .inr 0, .inr 0] rfl dk_M_init_95 rfl (by decide) rfl ?_
  refine Wp.kP (k := 20) 0 [(19, 81), (18, 80), (17, 79), (16, 78), (15, 77), (14, 76), (13, 75), (12, 74), (11, 73), (5, (-1)), (1, 72), (0, 71)] 82 20 [.inl (11, [(20, 82), (19, 81), (18, 80), (17, 79), (16, 78), (15, 77), (14, 76), (13, 75), (12, 74), (11, 73), (5, (-1)), (1, 72), (0, 71)]), .inr 0, .inr 0, .inr 0, .inr 0, .inr 0, .inr 0, .inr 0, .inr 0, .inr 0, .inr 0, .inr 0, .inr 0] rfl dk_M_init_97 fl_M_48 rfl (Or.inr ⟨rfl, rfl, rfl⟩) rfl (by decide) rfl (fun _ => trivial) rfl rfl ?_
  refine Wp.aload_n 0 0 dk_M_init_100 rfl rfl ?_
  refine Wp.iconst dk_M_init_101 (by decide) ?_
  refine Wp.kI 2 84 27 3318 [.inl (11, [(20, 82), (19, 81), (18, 80), (17, 79), (16, 78), (15, 77), (14, 76), (13, 75), (12, 74), (11, 73), (5, (-1)), (1, 72), (0, 71)]), .inr 0, .inr 0, .inr 0, .inr 0, .inr 0, .inr 0, .inr 0, .inr 0, .inr 0, .inr 0, .inr 0, .inr 0, .inr 0] rfl dk_M_init_102 rfl (by decide) rfl ?_
  refine Wp.kP (k := 21) 0 [(20, 82), (19, 81), (18, 80), (17, 79), (16, 78), (15, 77), (14, 76), (13, 75), (12, 74), (11, 73), (5, (-1)), (1, 72), (0, 71)] 83 21 [.inl (11, [(21, 83), (20, 82), (19, 81), (18, 80), (17, 79), (16, 78), (15, 77), (14, 76), (13, 75), (12, 74), (11, 73), (5, (-1)), (1, 72), (0, 71)]), .inr 0, .inr 0, .inr 0, .inr 0, .inr 0, .inr 0, .inr 0, .inr 0, .inr 0, .inr 0, .inr 0, .inr 0, .inr 0] rfl dk_M_init_104 fl_M_51 rfl (Or.inr ⟨rfl, rfl, rfl⟩) rfl (by decide) rfl (fun _ => trivial) rfl rfl ?_
  refine Wp.aload_n 0 0 dk_M_init_107 rfl rfl ?_
  refine Wp.bipush dk_M_init_108 (by decide) (by decide) ?_
  refine Wp.kJ 10 85 26 3308 [.inl (11, [(21, 83), (20, 82), (19, 81), (18, 80), (17, 79), (16, 78), (15, 77), (14, 76), (13, 75), (12, 74), (11, 73), (5, (-1)), (1, 72), (0, 71)]), .inr 0, .inr 0, .inr 0, .inr 0, .inr 0, .inr 0, .inr 0, .inr 0, .inr 0, .inr 0, .inr 0, .inr 0, .inr 0, .inr 0] rfl dk_M_init_110 rfl (by decide) rfl ?_
  refine Wp.kP (k := 22) 0 [(21, 83), (20, 82), (19, 81), (18, 80), (17, 79), (16, 78), (15, 77), (14, 76), (13, 75), (12, 74), (11, 73), (5, (-1)), (1, 72), (0, 71)] 84 22 [.inl (11, [(22, 84), (21, 83), (20, 82), (19, 81), (18, 80), (17, 79), (16, 78), (15, 77), (14, 76), (13, 75), (12, 74), (11, 73), (5, (-1)), (1, 72), (0, 71)]), .inr 0, .inr 0, .inr 0, .inr 0, .inr 0, .inr 0, .inr 0, .inr 0, .inr 0, .inr 0, .inr 0, .inr 0, .inr 0, .inr 0] rfl dk_M_init_112 fl_M_54 rfl (Or.inr ⟨rfl, rfl, rfl⟩) rfl (by decide) rfl (fun _ => trivial) rfl rfl ?_
  refine Wp.aload_n 0 0 dk_M_init_115 rfl rfl ?_
  refine Wp.sipush dk_M_init_116 (by decide) (by decide) ?_
  refine Wp.kI 1120 86 25 2188 [.inl (11, [(22, 84), (21, 83), (20, 82), (19, 81), (18, 80), (17, 79), (16, 78), (15, 77), (14, 76), (13, 75), (12, 74), (11, 73), (5, (-1)), (1, 72), (0, 71)]), .inr 0, .inr 0, .inr 0, .inr 0, .inr 0, .inr 0, .inr 0, .inr 0, .inr 0, .inr 0, .inr 0, .inr 0, .inr 0, .inr 0, .inr 0] rfl dk_M_init_119 rfl (by decide) rfl ?_
  refine Wp.kP (k := 23) 0 [(22, 84), (21, 83), (20, 82), (19, 81), (18, 80), (17, 79), (16, 78), (15, 77), (14, 76), (13, 75), (12, 74), (11, 73), (5, (-1)), (1, 72), (0, 71)] 85 23 [.inl (11, [(23, 85), (22, 84), (21, 83), (20, 82), (19, 81), (18, 80), (17, 79), (16, 78), (15, 77), (14, 76), (13, 75), (12, 74), (11, 73), (5, (-1)), (1, 72), (0, 71)]), .inr 0, .inr 0, .inr 0, .inr 0, .inr 0, .inr 0, .inr 0, .inr 0, .inr 0, .inr 0, .inr 0, .inr 0, .inr 0, .inr 0, .inr 0] rfl dk_M_init_121 fl_M_58 rfl (Or.inr ⟨rfl, rfl, rfl⟩) rfl (by decide) rfl (fun _ => trivial) rfl rfl ?_
  refine Wp.aload_n 0 0 dk_M_init_124 rfl rfl ?_
  refine Wp.sipush dk_M_init_125 (by decide) (by decide) ?_
  refine Wp.kI 1120 87 24 1068 [.inl (11, [(23, 85), (22, 84), (21, 83), (20, 82), (19, 81), (18, 80), (17, 79), (16, 78), (15, 77), (14, 76), (13, 75), (12, 74), (11, 73), (5, (-1)), (1, 72), (0, 71)]), .inr 0, .inr 0, .inr 0, .inr 0, .inr 0, .inr 0, .inr 0, .inr 0, .inr 0, .inr 0, .inr 0, .inr 0, .inr 0, .inr 0, .inr 0, .inr 0] rfl dk_M_init_128 rfl (by decide) rfl ?_
  refine Wp.kP (k := 24) 0 [(23, 85), (22, 84), (21, 83), (20, 82), (19, 81), (18, 80), (17, 79), (16, 78), (15, 77), (14, 76), (13, 75), (12, 74), (11, 73), (5, (-1)), (1, 72), (0, 71)] 86 24 [.inl (11, [(24, 86), (23, 85), (22, 84), (21, 83), (20, 82), (19, 81), (18, 80), (17, 79), (16, 78), (15, 77), (14, 76), (13, 75), (12, 74), (11, 73), (5, (-1)), (1, 72), (0, 71)]), .inr 0, .inr 0, .inr 0, .inr 0, .inr 0, .inr 0, .inr 0, .inr 0, .inr 0, .inr 0, .inr 0, .inr 0, .inr 0, .inr 0, .inr 0, .inr 0] rfl dk_M_init_130 fl_M_61 rfl (Or.inr ⟨rfl, rfl, rfl⟩) rfl (by decide) rfl (fun _ => trivial) rfl rfl ?_
  refine Wp.aload_n 0 0 dk_M_init_133 rfl rfl ?_
  refine Wp.bipush dk_M_init_134 (by decide) (by decide) ?_
  refine Wp.kI 90 88 23 978 [.inl (11, [(24, 86), (23, 85), (22, 84), (21, 83), (20, 82), (19, 81), (18, 80), (17, 79), (16, 78), (15, 77), (14, 76), (13, 75), (12, 74), (11, 73), (5, (-1)), (1, 72), (0, 71)]), .inr 0, .inr 0, .inr 0, .inr 0, .inr 0, .inr 0, .inr 0, .inr 0, .inr 0, .inr 0, .inr 0, .inr 0, .inr 0, .inr 0, .inr 0, .inr 0, .inr 0] rfl dk_M_init_136 rfl (by decide) rfl ?_
  refine Wp.kP (k := 25) 0 [(24, 86), (23, 85), (22, 84), (21, 83), (20, 82), (19, 81), (18, 80), (17, 79), (16, 78), (15, 77), (14, 76), (13, 75), (12, 74), (11, 73), (5, (-1)), (1, 72), (0, 71)] 87 25 [.inl (11, [(25, 87), (24, 86), (23, 85), (22, 84), (21, 83), (20, 82), (19, 81), (18, 80), (17, 79), (16, 78), (15, 77), (14, 76), (13, 75), (12, 74), (11, 73), (5, (-1)), (1, 72), (0, 71)]), .inr 0, .inr 0, .inr 0, .inr 0, .inr 0, .inr 0, .inr 0, .inr 0, .inr 0, .inr 0, .inr 0, .inr 0, .inr 0, .inr 0, .inr 0, .inr 0, .inr 0] rfl dk_M_init_138 fl_M_64 rfl (Or.inr ⟨rfl, rfl, rfl⟩) rfl (by decide) rfl (fun _ => trivial) rfl rfl ?_
  refine Wp.aload_n 0 0 dk_M_init_141 rfl rfl ?_
  refine Wp.bipush dk_M_init_142 (by decide) (by decide) ?_
  refine Wp.kI 90 89 22 888 [.inl (11, [(25, 87), (24, 86), (23, 85), (22, 84), (21, 83), (20, 82), (19, 81), (18, 80), (17, 79), (16, 78), (15, 77), (14, 76), (13, 75), (12, 74), (11, 73), (5, (-1)), (1, 72), (0, 71)]), .inr 0, .inr 0, .inr 0, .inr 0, .inr 0, .inr 0, .inr 0, .inr 0, .inr 0, .inr 0, .inr 0, .inr 0, .inr 0, .inr 0, .inr 0, .inr 0, .inr 0, .inr 0] rfl dk_M_init_144 rfl (by decide) rfl ?_
  refine Wp.kP (k := 26) 0 [(25, 87), (24, 86), (23, 85), (22, 84), (21, 83), (20, 82), (19, 81), (18, 80), (17, 79), (16, 78), (15, 77), (14, 76), (13, 75), (12, 74), (11, 73), (5, (-1)), (1, 72), (0, 71)] 88 26 [.inl (11, [(26, 88), (25, 87), (24, 86), (23, 85), (22, 84), (21, 83), (20, 82), (19, 81), (18, 80), (17, 79), (16, 78), (15, 77), (14, 76), (13, 75), (12, 74), (11, 73), (5, (-1)), (1, 72), (0, 71)]), .inr 0, .inr 0, .inr 0, .inr 0, .inr 0, .inr 0, .inr 0, .inr 0, .inr 0, .inr 0, .inr 0, .inr 0, .inr 0, .inr 0, .inr 0, .inr 0, .inr 0, .inr 0] rfl dk_M_init_146 fl_M_67 rfl (Or.inr ⟨rfl, rfl, rfl⟩) rfl (by decide) rfl (fun _ => trivial) rfl rfl ?_
  refine Wp.aload_n 0 0 dk_M_init_149 rfl rfl ?_
  refine Wp.bipush dk_M_init_150 (by decide) (by decide) ?_
  refine Wp.kI 60 90 21 828 [.inl (11, [(26, 88), (25, 87), (24, 86), (23, 85), (22, 84), (21, 83), (20, 82), (19, 81), (18, 80), (17, 79), (16, 78), (15, 77), (14, 76), (13, 75), (12, 74), (11, 73), (5, (-1)), (1, 72), (0, 71)]), .inr 0, .inr 0, .inr 0, .inr 0, .inr 0, .inr 0, .inr 0, .inr 0, .inr 0, .inr 0, .inr 0, .inr 0, .inr 0, .inr 0, .inr 0, .inr 0, .inr 0, .inr 0, .inr 0] rfl dk_M_init_152 rfl (by decide) rfl ?_
  refine Wp.kP (k := 27) 0 [(26, 88), (25, 87), (24, 86), (23, 85), (22, 84), (21, 83), (20, 82), (19, 81), (18, 80), (17, 79), (16, 78), (15, 77), (14, 76), (13, 75), (12, 74), (11, 73), (5, (-1)), (1, 72), (0, 71)] 89 27 [.inl (11, [(27, 89), (26, 88), (25, 87), (24, 86), (23, 85), (22, 84), (21, 83), (20, 82), (19, 81), (18, 80), (17, 79), (16, 78), (15, 77), (14, 76), (13, 75), (12, 74), (11, 73), (5, (-1)), (1, 72), (0, 71)]), .inr 0, .inr 0, .inr 0, .inr 0, .inr 0, .inr 0, .inr 0, .inr 0, .inr 0, .inr 0, .inr 0, .inr 0, .inr 0, .inr 0, .inr 0, .inr 0, .inr 0, .inr 0, .inr 0] rfl dk_M_init_154 fl_M_70 rfl (Or.inr ⟨rfl, rfl, rfl⟩) rfl (by decide) rfl (fun _ => trivial) rfl rfl ?_
  refine Wp.aload_n 0 0 dk_M_init_157 rfl rfl ?_
  refine Wp.bipush dk_M_init_158 (by decide) (by decide) ?_
  refine Wp.kI 8 91 20 820 [.inl (11, [(27, 89), (26, 88), (25, 87), (24, 86), (23, 85), (22, 84), (21, 83), (20, 82), (19, 81), (18, 80), (17, 79), (16, 78), (15, 77), (14, 76), (13, 75), (12, 74), (11, 73), (5, (-1)), (1, 72), (0, 71)]), .inr 0, .inr 0, .inr 0, .inr 0, .inr 0, .inr 0, .inr 0, .inr 0, .inr 0, .inr 0, .inr 0, .inr 0, .inr 0, .inr 0, .inr 0, .inr 0, .inr 0, .inr 0, .inr 0, .inr 0] rfl dk_M_init_160 rfl (by decide) rfl ?_
  refine Wp.kP (k := 35) 0 [(27, 89), (26, 88), (25, 87), (24, 86), (23, 85), (22, 84), (21, 83), (20, 82), (19, 81), (18, 80), (17, 79), (16, 78), (15, 77), (14, 76), (13, 75), (12, 74), (11, 73), (5, (-1)), (1, 72), (0, 71)] 90 35 [.inl (11, [(35, 90), (27, 89), (26, 88), (25, 87), (24, 86), (23, 85), (22, 84), (21, 83), (20, 82), (19, 81), (18, 80), (17, 79), (16, 78), (15, 77), (14, 76), (13, 75), (12, 74), (11, 73), (5, (-1)), (1, 72), (0, 71)]), .inr 0, .inr 0, .inr 0, .inr 0, .inr 0, .inr 0, .inr 0, .inr 0, .inr 0, .inr 0, .inr 0, .inr 0, .inr 0, .inr 0, .inr 0, .inr 0, .inr 0, .inr 0, .inr 0, .inr 0] rfl dk_M_init_162 fl_M_73 rfl (Or.inr ⟨rfl, rfl, rfl⟩) rfl (by decide) rfl (fun _ => trivial) rfl rfl ?_
  refine Wp.aload_n 0 0 dk_M_init_165 rfl rfl ?_
  refine Wp.bipush dk_M_init_166 (by decide) (by decide) ?_
  refine Wp.kI 8 92 19 812 [.inl (11, [(35, 90), (27, 89), (26, 88), (25, 87), (24, 86), (23, 85), (22, 84), (21, 83), (20, 82), (19, 81), (18, 80), (17, 79), (16, 78), (15, 77), (14, 76), (13, 75), (12, 74), (11, 73), (5, (-1)), (1, 72), (0, 71)]), .inr 0, .inr 0, .inr 0, .inr 0, .inr 0, .inr 0, .inr 0, .inr 0, .inr 0, .inr 0, .inr 0, .inr 0, .inr 0, .inr 0, .inr 0, .inr 0, .inr 0, .inr 0, .inr 0, .inr 0, .inr 0] rfl dk_M_init_168 rfl (by decide) rfl ?_
  refine Wp.kP (k := 36) 0 [(35, 90), (27, 89), (26, 88), (25, 87), (24, 86), (23, 85), (22, 84), (21, 83), (20, 82), (19, 81), (18, 80), (17, 79), (16, 78), (15, 77), (14, 76), (13, 75), (12, 74), (11, 73), (5, (-1)), (1, 72), (0, 71)] 91 36 [.inl (11, [(36, 91), (35, 90), (27, 89), (26, 88), (25, 87), (24, 86), (23, 85), (22, 84), (21, 83), (20, 82), (19, 81), (18, 80), (17, 79), (16, 78), (15, 77), (14, 76), (13, 75), (12, 74), (11, 73), (5, (-1)), (1, 72), (0, 71)]), .inr 0, .inr 0, .inr 0, .inr 0, .inr 0, .inr 0, .inr 0, .inr 0, .inr 0, .inr 0, .inr 0, .inr 0, .inr 0, .inr 0, .inr 0, .inr 0, .inr 0, .inr 0, .inr 0, .inr 0, .inr 0] rfl dk_M_init_170 fl_M_76 rfl (Or.inr ⟨rfl, rfl, rfl⟩) rfl (by decide) rfl (fun _ => trivial) rfl rfl ?_
  refine Wp.aload_n 0 0 dk_M_init_173 rfl rfl ?_
  refine Wp.iconst dk_M_init_174 (by decide) ?_
  refine Wp.kI 5 93 18 807 [.inl (11, [(36, 91), (35, 90), (27, 89), (26, 88), (25, 87), (24, 86), (23, 85), (22, 84), (21, 83), (20, 82), (19, 81), (18, 80), (17, 79), (16, 78), (15, 77), (14, 76), (13, 75), (12, 74), (11, 73), (5, (-1)), (1, 72), (0, 71)]), .inr 0, .inr 0, .inr 0, .inr 0, .inr 0, .inr 0, .inr 0, .inr 0, .inr 0, .inr 0, .inr 0, .inr 0, .inr 0, .inr 0, .inr 0, .inr 0, .inr 0, .inr 0, .inr 0, .inr 0, .inr 0, .inr 0] rfl dk_M_init_175 rfl (by decide) rfl ?_
  refine Wp.kP (k := 37) 0 [(36, 91), (35, 90), (27, 89), (26, 88), (25, 87), (24, 86), (23, 85), (22, 84), (21, 83), (20, 82), (19, 81), (18, 80), (17, 79), (16, 78), (15, 77), (14, 76), (13, 75), (12, 74), (11, 73), (5, (-1)), (1, 72), (0, 71)] 92 37 [.inl (11, [(37, 92), (36, 91), (35, 90), (27, 89), (26, 88), (25, 87), (24, 86), (23, 85), (22, 84), (21, 83), (20, 82), (19, 81), (18, 80), (17, 79), (16, 78), (15, 77), (14, 76), (13, 75), (12, 74), (11, 73), (5, (-1)), (1, 72), (0, 71)]), .inr 0, .inr 0, .inr 0, .inr 0, .inr 0, .inr 0, .inr 0, .inr 0, .inr 0, .inr 0, .inr 0, .inr 0, .inr 0, .inr 0, .inr 0, .inr 0, .inr 0, .inr 0, .inr 0, .inr 0, .inr 0, .inr 0] rfl dk_M_init_177 fl_M_79 rfl (Or.inr ⟨rfl, rfl, rfl⟩) rfl (by decide) rfl (fun _ => trivial) rfl rfl ?_
  refine Wp.aload_n 0 0 dk_M_init_180 rfl rfl ?_
  refine Wp.iconst dk_M_init_181 (by decide) ?_
  refine Wp.kI 5 94 17 802 [.inl (11, [(37, 92), (36, 91), (35, 90), (27, 89), (26, 88), (25, 87), (24, 86), (23, 85), (22, 84), (21, 83), (20, 82), (19, 81), (18, 80), (17, 79), (16, 78), (15, 77), (14, 76), (13, 75), (12, 74), (11, 73), (5, (-1)), (1, 72), (0, 71)]), .inr 0, .inr 0, .inr 0, .inr 0, .inr 0, .inr 0, .inr 0, .inr 0, .inr 0, .inr 0, .inr 0, .inr 0, .inr 0, .inr 0, .inr 0, .inr 0, .inr 0, .inr 0, .inr 0, .inr 0, .inr 0, .inr 0, .inr 0] rfl dk_M_init_182 rfl (by decide) rfl ?_
  refine Wp.kP (k := 38) 0 [(37, 92), (36, 91), (35, 90), (27, 89), (26, 88), (25, 87), (24, 86), (23, 85), (22, 84), (21, 83), (20, 82), (19, 81), (18, 80), (17, 79), (16, 78), (15, 77), (14, 76), (13, 75), (12, 74), (11, 73), (5, (-1)), (1, 72), (0, 71)] 93 38 [.inl (11, [(38, 93), (37, 92), (36, 91), (35, 90), (27, 89), (26, 88), (25, 87), (24, 86), (23, 85), (22, 84), (21, 83), (20, 82), (19, 81), (18, 80), (17, 79), (16, 78), (15, 77), (14, 76), (13, 75), (12, 74), (11, 73), (5, (-1)), (1, 72), (0, 71)]), .inr 0, .inr 0, .inr 0, .inr 0, .inr 0, .inr 0, .inr 0, .inr 0, .inr 0, .inr 0, .inr 0, .inr 0, .inr 0, .inr 0, .inr 0, .inr 0, .inr 0, .inr 0, .inr 0, .inr 0, .inr 0, .inr 0, .inr 0] rfl dk_M_init_184 fl_M_82 rfl (Or.inr ⟨rfl, rfl, rfl⟩) rfl (by decide) rfl (fun _ => trivial) rfl rfl ?_
  refine Wp.aload_n 0 0 dk_M_init_187 rfl rfl ?_
  refine Wp.iconst dk_M_init_188 (by decide) ?_
  refine Wp.kI 5 95 16 797 [.inl (11, [(38, 93), (37, 92), (36, 91), (35, 90), (27, 89), (26, 88), (25, 87), (24, 86), (23, 85), (22, 84), (21, 83), (20, 82), (19, 81), (18, 80), (17, 79), (16, 78), (15, 77), (14, 76), (13, 75), (12, 74), (11, 73), (5, (-1)), (1, 72), (0, 71)]), .inr 0, .inr 0, .inr 0, .inr 0, .inr 0, .inr 0, .inr 0, .inr 0, .inr 0, .inr 0, .inr 0, .inr 0, .inr 0, .inr 0, .inr 0, .inr 0, .inr 0, .inr 0, .inr 0, .inr 0, .inr 0, .inr 0, .inr 0, .inr 0] rfl dk_M_init_189 rfl (by decide) rfl ?_
  refine Wp.kP (k := 39) 0 [(38, 93), (37, 92), (36, 91), (35, 90), (27, 89), (26, 88), (25, 87), (24, 86), (23, 85), (22, 84), (21, 83), (20, 82), (19, 81), (18, 80), (17, 79), (16, 78), (15, 77), (14, 76), (13, 75), (12, 74), (11, 73), (5, (-1)), (1, 72), (0, 71)] 94 39 [.inl (11, [(39, 94), (38, 93), (37, 92), (36, 91), (35, 90), (27, 89), (26, 88), (25, 87), (24, 86), (23, 85), (22, 84), (21, 83), (20, 82), (19, 81), (18, 80), (17, 79), (16, 78), (15, 77), (14, 76), (13, 75), (12, 74), (11, 73), (5, (-1)), (1, 72), (0, 71)]), .inr 0, .inr 0, .inr 0, .inr 0, .inr 0, .inr 0, .inr 0, .inr 0, .inr 0, .inr 0, .inr 0, .inr 0, .inr 0, .inr 0, .inr 0, .inr 0, .inr 0, .inr 0, .inr 0, .inr 0, .inr 0, .inr 0, .inr 0, .inr 0] rfl dk_M_init_191 fl_M_85 rfl (Or.inr ⟨rfl, rfl, rfl⟩) rfl (by decide) rfl (fun _ => trivial) rfl rfl ?_
  refine Wp.aload_n 0 0 dk_M_init_194 rfl rfl ?_
  refine Wp.iconst dk_M_init_195 (by decide) ?_
  refine Wp.kI 5 96 15 792 [.inl (11, [(39, 94), (38, 93), (37, 92), (36, 91), (35, 90), (27, 89), (26, 88), (25, 87), (24, 86), (23, 85), (22, 84), (21, 83), (20, 82), (19, 81), (18, 80), (17, 79), (16, 78), (15, 77), (14, 76), (13, 75), (12, 74), (11, 73), (5, (-1)), (1, 72), (0, 71)]), .inr 0, .inr 0, .inr 0, .inr 0, .inr 0, .inr 0, .inr 0, .inr 0, .inr 0, .inr 0, .inr 0, .inr 0, .inr 0, .inr 0, .inr 0, .inr 0, .inr 0, .inr 0, .inr 0, .inr 0, .inr 0, .inr 0, .inr 0, .inr 0, .inr 0] rfl dk_M_init_196 rfl (by decide) rfl ?_
  refine Wp.kP (k := 40) 0 [(39, 94), (38, 93), (37, 92), (36, 91), (35, 90), (27, 89), (26, 88), (25, 87), (24, 86), (23, 85), (22, 84), (21, 83), (20, 82), (19, 81), (18, 80), (17, 79), (16, 78), (15, 77), (14, 76), (13, 75), (12, 74), (11, 73), (5, (-1)), (1, 72), (0, 71)] 95 40 [.inl (11, [(40, 95), (39, 94), (38, 93), (37, 92), (36, 91), (35, 90), (27, 89), (26, 88), (25, 87), (24, 86), (23, 85), (22, 84), (21, 83), (20, 82), (19, 81), (18, 80), (17, 79), (16, 78), (15, 77), (14, 76), (13, 75), (12, 74), (11, 73), (5, (-1)), (1, 72), (0, 71)]), .inr 0, .inr 0, .inr 0, .inr 0, .inr 0, .inr 0, .inr 0, .inr 0, .inr 0, .inr 0, .inr 0, .inr 0, .inr 0, .inr 0, .inr 0, .inr 0, .inr 0, .inr 0, .inr 0, .inr 0, .inr 0, .inr 0, .inr 0, .inr 0, .inr 0] rfl dk_M_init_198 fl_M_88 rfl (Or.inr ⟨rfl, rfl, rfl⟩) rfl (by decide) rfl (fun _ => trivial) rfl rfl ?_
  refine Wp.aload_n 0 0 dk_M_init_201 rfl rfl ?_
  refine Wp.sipush dk_M_init_202 (by decide) (by decide) ?_
  refine Wp.kI 328 97 14 464 [.inl (11, [(40, 95), (39, 94), (38, 93), (37, 92), (36, 91), (35, 90), (27, 89), (26, 88), (25, 87), (24, 86), (23, 85), (22, 84), (21, 83), (20, 82), (19, 81), (18, 80), (17, 79), (16, 78), (15, 77), (14, 76), (13, 75), (12, 74), (11, 73), (5, (-1)), (1, 72), (0, 71)]), .inr 0, .inr 0, .inr 0, .inr 0, .inr 0, .inr 0, .inr 0, .inr 0, .inr 0, .inr 0, .inr 0, .inr 0, .inr 0, .inr 0, .inr 0, .inr 0, .inr 0, .inr 0, .inr 0, .inr 0, .inr 0, .inr 0, .inr 0, .inr 0, .inr 0, .inr 0] rfl dk_M_init_205 rfl (by decide) rfl ?_
  refine Wp.kP (k := 44) 0 [(40, 95), (39, 94), (38, 93), (37, 92), (36, 91), (35, 90), (27, 89), (26, 88), (25, 87), (24, 86), (23, 85), (22, 84), (21, 83), (20, 82), (19, 81), (18, 80), (17, 79), (16, 78), (15, 77), (14, 76), (13, 75), (12, 74), (11, 73), (5, (-1)), (1, 72), (0, 71)] 96 44 [.inl (11, [(44, 96), (40, 95), (39, 94), (38, 93), (37, 92), (36, 91), (35, 90), (27, 89), (26, 88), (25, 87), (24, 86), (23, 85), (22, 84), (21, 83), (20, 82), (19, 81), (18, 80), (17, 79), (16, 78), (15, 77), (14, 76), (13, 75), (12, 74), (11, 73), (5, (-1)), (1, 72), (0, 71)]), .inr 0, .inr 0, .inr 0, .inr 0, .inr 0, .inr 0, .inr 0, .inr 0, .inr 0, .inr 0, .inr 0, .inr 0, .inr 0, .inr 0, .inr 0, .inr 0, .inr 0, .inr 0, .inr 0, .inr 0, .inr 0, .inr 0, .inr 0, .inr 0, .inr 0, .inr 0] rfl dk_M_init_207 fl_M_91 rfl (Or.inr ⟨rfl, rfl, rfl⟩) rfl (by decide) rfl (fun _ => trivial) rfl rfl ?_
  refine Wp.aload_n 0 0 dk_M_init_210 rfl rfl ?_
  refine Wp.bipush dk_M_init_211 (by decide) (by decide) ?_
  refine Wp.kI 60 98 13 404 [.inl (11, [(44, 96), (40, 95), (39, 94), (38, 93), (37, 92), (36, 91), (35, 90), (27, 89), (26, 88), (25, 87), (24, 86), (23, 85), (22, 84), (21, 83), (20, 82), (19, 81), (18, 80), (17, 79), (16, 78), (15, 77), (14, 76), (13, 75), (12, 74), (11, 73), (5, (-1)), (1, 72), (0, 71)]), .inr 0, .inr 0, .inr 0, .inr 0, .inr 0, .inr 0, .inr 0, .inr 0, .inr 0, .inr 0, .inr 0, .inr 0, .inr 0, .inr 0, .inr 0, .inr 0, .inr 0, .inr 0, .inr 0, .inr 0, .inr 0, .inr 0, .inr 0, .inr 0, .inr 0, .inr 0, .inr 0] rfl dk_M_init_213 rfl (by decide) rfl ?_
  refine Wp.kP (k := 47) 0 [(44, 96), (40, 95), (39, 94), (38, 93), (37, 92), (36, 91), (35, 90), (27, 89), (26, 88), (25, 87), (24, 86), (23, 85), (22, 84), (21, 83), (20, 82), (19, 81), (18, 80), (17, 79), (16, 78), (15, 77), (14, 76), (13, 75), (12, 74), (11, 73), (5, (-1)), (1, 72), (0, 71)] 97 47 [.inl (11, [(47, 97), (44, 96), (40, 95), (39, 94), (38, 93), (37, 92), (36, 91), (35, 90), (27, 89), (26, 88), (25, 87), (24, 86), (23, 85), (22, 84), (21, 83), (20, 82), (19, 81), (18, 80), (17, 79), (16, 78), (15, 77), (14, 76), (13, 75), (12, 74), (11, 73), (5, (-1)), (1, 72), (0, 71)]), .inr 0, .inr 0, .inr 0, .inr 0, .inr 0, .inr 0, .inr 0, .inr 0, .inr 0, .inr 0, .inr 0, .inr 0, .inr 0, .inr 0, .inr 0, .inr 0, .inr 0, .inr 0, .inr 0, .inr 0, .inr 0, .inr 0, .inr 0, .inr 0, .inr 0, .inr 0, .inr 0] rfl dk_M_init_215 fl_M_94 rfl (Or.inr ⟨rfl, rfl, rfl⟩) rfl (by decide) rfl (fun _ => trivial) rfl rfl ?_
  refine Wp.aload_n 0 0 dk_M_init_218 rfl rfl ?_
  refine Wp.iconst dk_M_init_219 (by decide) ?_
  refine Wp.kI 5 99 12 399 [.inl (11, [(47, 97), (44, 96), (40, 95), (39, 94), (38, 93), (37, 92), (36, 91), (35, 90), (27, 89), (26, 88), (25, 87), (24, 86), (23, 85), (22, 84), (21, 83), (20, 82), (19, 81), (18, 80), (17, 79), (16, 78), (15, 77), (14, 76), (13, 75), (12, 74), (11, 73), (5, (-1)), (1, 72), (0, 71)]), .inr 0, .inr 0, .inr 0, .inr 0, .inr 0, .inr 0, .inr 0, .inr 0, .inr 0, .inr 0, .inr 0, .inr 0, .inr 0, .inr 0, .inr 0, .inr 0, .inr 0, .inr 0, .inr 0, .inr 0, .inr 0, .inr 0, .inr 0, .inr 0, .inr 0, .inr 0, .inr 0, .inr 0] rfl dk_M_init_220 rfl (by decide) rfl ?_
  refine Wp.kP (k := 49) 0 [(47, 97), (44, 96), (40, 95), (39, 94), (38, 93), (37, 92), (36, 91), (35, 90), (27, 89), (26, 88), (25, 87), (24, 86), (23, 85), (22, 84), (21, 83), (20, 82), (19, 81), (18, 80), (17, 79), (16, 78), (15, 77), (14, 76), (13, 75), (12, 74), (11, 73), (5, (-1)), (1, 72), (0, 71)] 98 49 [.inl (11, [(49, 98), (47, 97), (44, 96), (40, 95), (39, 94), (38, 93), (37, 92), (36, 91), (35, 90), (27, 89), (26, 88), (25, 87), (24, 86), (23, 85), (22, 84), (21, 83), (20, 82), (19, 81), (18, 80), (17, 79), (16, 78), (15, 77), (14, 76), (13, 75), (12, 74), (11, 73), (5, (-1)), (1, 72), (0, 71)]), .inr 0, .inr 0, .inr 0, .inr 0, .inr 0, .inr 0, .inr 0, .inr 0, .inr 0, .inr 0, .inr 0, .inr 0, .inr 0, .inr 0, .inr 0, .inr 0, .inr 0, .inr 0, .inr 0, .inr 0, .inr 0, .inr 0, .inr 0, .inr 0, .inr 0, .inr 0, .inr 0, .inr 0] rfl dk_M_init_222 fl_M_97 rfl (Or.inr ⟨rfl, rfl, rfl⟩) rfl (by decide) rfl (fun _ => trivial) rfl rfl ?_
  refine Wp.aload_n 0 0 dk_M_init_225 rfl rfl ?_
  refine Wp.bipush dk_M_init_226 (by decide) (by decide) ?_
  refine Wp.kJ 25 100 11 374 [.inl (11, [(49, 98), (47, 97), (44, 96), (40, 95), (39, 94), (38, 93), (37, 92), (36, 91), (35, 90), (27, 89), (26, 88), (25, 87), (24, 86), (23, 85), (22, 84), (21, 83), (20, 82), (19, 81), (18, 80), (17, 79), (16, 78), (15, 77), (14, 76), (13, 75), (12, 74), (11, 73), (5, (-1)), (1, 72), (0, 71)]), .inr 0, .inr 0, .inr 0, .inr 0, .inr 0, .inr 0, .inr 0, .inr 0, .inr 0, .inr 0, .inr 0, .inr 0, .inr 0, .inr 0, .inr 0, .inr 0, .inr 0, .inr 0, .inr 0, .inr 0, .inr 0, .inr 0, .inr 0, .inr 0, .inr 0, .inr 0, .inr 0, .inr 0, .inr 0] rfl dk_M_init_228 rfl (by decide) rfl ?_
  refine Wp.kP (k := 50) 0 [(49, 98), (47, 97), (44, 96), (40, 95), (39, 94), (38, 93), (37, 92), (36, 91), (35, 90), (27, 89), (26, 88), (25, 87), (24, 86), (23, 85), (22, 84), (21, 83), (20, 82), (19, 81), (18, 80), (17, 79), (16, 78), (15, 77), (14, 76), (13, 75), (12, 74), (11, 73), (5, (-1)), (1, 72), (0, 71)] 99 50 [.inl (11, [(50, 99), (49, 98), (47, 97), (44, 96), (40, 95), (39, 94), (38, 93), (37, 92), (36, 91), (35, 90), (27, 89), (26, 88), (25, 87), (24, 86), (23, 85), (22, 84), (21, 83), (20, 82), (19, 81), (18, 80), (17, 79), (16, 78), (15, 77), (14, 76), (13, 75), (12, 74), (11, 73), (5, (-1)), (1, 72), (0, 71)]), .inr 0, .inr 0, .inr 0, .inr 0, .inr 0, .inr 0, .inr 0, .inr 0, .inr 0, .inr 0, .inr 0, .inr 0, .inr 0, .inr 0, .inr 0, .inr 0, .inr 0, .inr 0, .inr 0, .inr 0, .inr 0, .inr 0, .inr 0, .inr 0, .inr 0, .inr 0, .inr 0, .inr 0, .inr 0] rfl dk_M_init_230 fl_M_100 rfl (Or.inr ⟨rfl, rfl, rfl⟩) rfl (by decide) rfl (fun _ => trivial) rfl rfl ?_
  refine Wp.aload_n 0 0 dk_M_init_233 rfl rfl ?_
  refine Wp.bipush dk_M_init_234 (by decide) (by decide) ?_
  refine Wp.kI 16 101 10 358 [.inl (11, [(50, 99), (49, 98), (47, 97), (44, 96), (40, 95), (39, 94), (38, 93), (37, 92), (36, 91), (35, 90), (27, 89), (26, 88), (25, 87), (24, 86), (23, 85), (22, 84), (21, 83), (20, 82), (19, 81), (18, 80), (17, 79), (16, 78), (15, 77), (14, 76), (13, 75), (12, 74), (11, 73), (5, (-1)), (1, 72), (0, 71)]), .inr 0, .inr 0, .inr 0, .inr 0, .inr 0, .inr 0, .inr 0, .inr 0, .inr 0, .inr 0, .inr 0, .inr 0, .inr 0, .inr 0, .inr 0, .inr 0, .inr 0, .inr 0, .inr 0, .inr 0, .inr 0, .inr 0, .inr 0, .inr 0, .inr 0, .inr 0, .inr 0, .inr 0, .inr 0, .inr 0] rfl dk_M_init_236 rfl (by decide) rfl ?_
  refine Wp.kP (k := 51) 0 [(50, 99), (49, 98), (47, 97), (44, 96), (40, 95), (39, 94), (38, 93), (37, 92), (36, 91), (35, 90), (27, 89), (26, 88), (25, 87), (24, 86), (23, 85), (22, 84), (21, 83), (20, 82), (19, 81), (18, 80), (17, 79), (16, 78), (15, 77), (14, 76), (13, 75), (12, 74), (11, 73), (5, (-1)), (1, 72), (0, 71)] 100 51 [.inl (11, [(51, 100), (50, 99), (49, 98), (47, 97), (44, 96), (40, 95), (39, 94), (38, 93), (37, 92), (36, 91), (35, 90), (27, 89), (26, 88), (25, 87), (24, 86), (23, 85), (22, 84), (21, 83), (20, 82), (19, 81), (18, 80), (17, 79), (16, 78), (15, 77), (14, 76), (13, 75), (12, 74), (11, 73), (5, (-1)), (1, 72), (0, 71)]), .inr 0, .inr 0, .inr 0, .inr 0, .inr 0, .inr 0, .inr 0, .inr 0, .inr 0, .inr 0, .inr 0, .inr 0, .inr 0, .inr 0, .inr 0, .inr 0, .inr 0, .inr 0, .inr 0, .inr 0, .inr 0, .inr 0, .inr 0, .inr 0, .inr 0, .inr 0, .inr 0, .inr 0, .inr 0, .inr 0] rfl dk_M_init_238 fl_M_103 rfl (Or.inr ⟨rfl, rfl, rfl⟩) rfl (by decide) rfl (fun _ => trivial) rfl rfl ?_
  refine Wp.aload_n 0 0 dk_M_init_241 rfl rfl ?_
  refine Wp.bipush dk_M_init_242 (by decide) (by decide) ?_
  refine Wp.kI 16 102 9 342 [.inl (11, [(51, 100), (50, 99), (49, 98), (47, 97), (44, 96), (40, 95), (39, 94), (38, 93), (37, 92), (36, 91), (35, 90), (27, 89), (26, 88), (25, 87), (24, 86), (23, 85), (22, 84), (21, 83), (20, 82), (19, 81), (18, 80), (17, 79), (16, 78), (15, 77), (14, 76), (13, 75), (12, 74), (11, 73), (5, (-1)), (1, 72), (0, 71)]), .inr 0, .inr 0, .inr 0, .inr 0, .inr 0, .inr 0, .inr 0, .inr 0, .inr 0, .inr 0, .inr 0, .inr 0, .inr 0, .inr 0, .inr 0, .inr 0, .inr 0, .inr 0, .inr 0, .inr 0, .inr 0, .inr 0, .inr 0, .inr 0, .inr 0, .inr 0, .inr 0, .inr 0, .inr 0, .inr 0, .inr 0] rfl dk_M_init_244 rfl (by decide) rfl ?_
  refine Wp.kP (k := 52) 0 [(51, 100), (50, 99), (49, 98), (47, 97), (44, 96), (40, 95), (39, 94), (38, 93), (37, 92), (36, 91), (35, 90), (27, 89), (26, 88), (25, 87), (24, 86), (23, 85), (22, 84), (21, 83), (20, 82), (19, 81), (18, 80), (17, 79), (16, 78), (15, 77), (14, 76), (13, 75), (12, 74), (11, 73), (5, (-1)), (1, 72), (0, 71)] 101 52 [.inl (11, [(52, 101), (51, 100), (50, 99), (49, 98), (47, 97), (44, 96), (40, 95), (39, 94), (38, 93), (37, 92), (36, 91), (35, 90), (27, 89), (26, 88), (25, 87), (24, 86), (23, 85), (22, 84), (21, 83), (20, 82), (19, 81), (18, 80), (17, 79), (16, 78), (15, 77), (14, 76), (13, 75), (12, 74), (11, 73), (5, (-1)), (1, 72), (0, 71)]), .inr 0, .inr 0, .inr 0, .inr 0, .inr 0, .inr 0, .inr 0, .inr 0, .inr 0, .inr 0, .inr 0, .inr 0, .inr 0, .inr 0, .inr 0, .inr 0, .inr 0, .inr 0, .inr 0, .inr 0, .inr 0, .inr 0, .inr 0, .inr 0, .inr 0, .inr 0, .inr 0, .inr 0, .inr 0, .inr 0, .inr 0] rfl dk_M_init_246 fl_M_106 rfl (Or.inr ⟨rfl, rfl, rfl⟩) rfl (by decide) rfl (fun _ => trivial) rfl rfl ?_
  refine Wp.aload_n 0 0 dk_M_init_249 rfl rfl ?_
  refine Wp.sipush dk_M_init_250 (by decide) (by decide) ?_
  refine Wp.kI 155 103 8 187 [.inl (11, [(52, 101), (51, 100), (50, 99), (49, 98), (47, 97), (44, 96), (40, 95), (39, 94), (38, 93), (37, 92), (36, 91), (35, 90), (27, 89), (26, 88), (25, 87), (24, 86), (23, 85), (22, 84), (21, 83), (20, 82), (19, 81), (18, 80), (17, 79), (16, 78), (15, 77), (14, 76), (13, 75), (12, 74), (11, 73), (5, (-1)), (1, 72), (0, 71)]), .inr 0, .inr 0, .inr 0, .inr 0, .inr 0, .inr 0, .inr 0, .inr 0, .inr 0, .inr 0, .inr 0, .inr 0, .inr 0, .inr 0, .inr 0, .inr 0, .inr 0, .inr 0, .inr 0, .inr 0, .inr 0, .inr 0, .inr 0, .inr 0, .inr 0, .inr 0, .inr 0, .inr 0, .inr 0, .inr 0, .inr 0, .inr 0] rfl dk_M_init_253 rfl (by decide) rfl ?_
  refine Wp.kP (k := 53) 0 [(52, 101), (51, 100), (50, 99), (49, 98), (47, 97), (44, 96), (40, 95), (39, 94), (38, 93), (37, 92), (36, 91), (35, 90), (27, 89), (26, 88), (25, 87), (24, 86), (23, 85), (22, 84), (21, 83), (20, 82), (19, 81), (18, 80), (17, 79), (16, 78), (15, 77), (14, 76), (13, 75), (12, 74), (11, 73), (5, (-1)), (1, 72), (0, 71)] 102 53 [.inl (11, [(53, 102), (52, 101), (51, 100), (50, 99), (49, 98), (47, 97), (44, 96), (40, 95), (39, 94), (38, 93), (37, 92), (36, 91), (35, 90), (27, 89), (26, 88), (25, 87), (24, 86), (23, 85), (22, 84), (21, 83), (20, 82), (19, 81), (18, 80), (17, 79), (16, 78), (15, 77), (14, 76), (13, 75), (12, 74), (11, 73), (5, (-1)), (1, 72), (0, 71)]), .inr 0, .inr 0, .inr 0, .inr 0, .inr 0, .inr 0, .inr 0, .inr 0, .inr 0, .inr 0, .inr 0, .inr 0, .inr 0, .inr 0, .inr 0, .inr 0, .inr 0, .inr 0, .inr 0, .inr 0, .inr 0, .inr 0, .inr 0, .inr 0, .inr 0, .inr 0, .inr 0, .inr 0, .inr 0, .inr 0, .inr 0, .inr 0] rfl dk_M_init_255 fl_M_109 rfl (Or.inr ⟨rfl, rfl, rfl⟩) rfl (by decide) rfl (fun _ => trivial) rfl rfl ?_
  refine Wp.aload_n 0 0 dk_M_init_258 rfl rfl ?_
  refine Wp.bipush dk_M_init_259 (by decide) (by decide) ?_
  refine Wp.kI 30 104 7 157 [.inl (11, [(53, 102), (52, 101), (51, 100), (50, 99), (49, 98), (47, 97), (44, 96), (40, 95), (39, 94), (38, 93), (37, 92), (36, 91), (35, 90), (27, 89), (26, 88), (25, 87), (24, 86), (23, 85), (22, 84), (21, 83), (20, 82), (19, 81), (18, 80), (17, 79), (16, 78), (15, 77), (14, 76), (13, 75), (12, 74), (11, 73), (5, (-1)), (1, 72), (0, 71)]), .inr 0, .inr 0, .inr 0, .inr 0, .inr 0, .inr 0, .inr 0, .inr 0, .inr 0, .inr 0, .inr 0, .inr 0, .inr 0, .inr 0, .inr 0, .inr 0, .inr 0, .inr 0, .inr 0, .inr 0, .inr 0, .inr 0, .inr 0, .inr 0, .inr 0, .inr 0, .inr 0, .inr 0, .inr 0, .inr 0, .inr 0, .inr 0, .inr 0] rfl dk_M_init_261 rfl (by decide) rfl ?_
  refine Wp.kP (k := 54) 0 [(53, 102), (52, 101), (51, 100), (50, 99), (49, 98), (47, 97), (44, 96), (40, 95), (39, 94), (38, 93), (37, 92), (36, 91), (35, 90), (27, 89), (26, 88), (25, 87), (24, 86), (23, 85), (22, 84), (21, 83), (20, 82), (19, 81), (18, 80), (17, 79), (16, 78), (15, 77), (14, 76), (13, 75), (12, 74), (11, 73), (5, (-1)), (1, 72), (0, 71)] 103 54 [.inl (11, [(54, 103), (53, 102), (52, 101), (51, 100), (50, 99), (49, 98), (47, 97), (44, 96), (40, 95), (39, 94), (38, 93), (37, 92), (36, 91), (35, 90), (27, 89), (26, 88), (25, 87), (24, 86), (23, 85), (22, 84), (21, 83), (20, 82), (19, 81), (18, 80), (17, 79), (16, 78), (15, 77), (14, 76), (13, 75), (12, 74), (11, 73), (5, (-1)), (1, 72), (0, 71)]), .inr 0, .inr 0, .inr 0, .inr 0, .inr 0, .inr 0, .inr 0, .inr 0, .inr 0, .inr 0, .inr 0, .inr 0, .inr 0, .inr 0, .inr 0, .inr 0, .inr 0, .inr 0, .inr 0, .inr 0, .inr 0, .inr 0, .inr 0, .inr 0, .inr 0, .inr 0, .inr 0, .inr 0, .inr 0, .inr 0, .inr 0, .inr 0, .inr 0] rfl dk_M_init_263 fl_M_112 rfl (Or.inr ⟨rfl, rfl, rfl⟩) rfl (by decide) rfl (fun _ => trivial) rfl rfl ?_
  refine Wp.aload_n 0 0 dk_M_init_266 rfl rfl ?_
  refine Wp.bipush dk_M_init_267 (by decide) (by decide) ?_
  refine Wp.kI 30 105 6 127 [.inl (11, [(54, 103), (53, 102), (52, 101), (51, 100), (50, 99), (49, 98), (47, 97), (44, 96), (40, 95), (39, 94), (38, 93), (37, 92), (36, 91), (35, 90), (27, 89), (26, 88), (25, 87), (24, 86), (23, 85), (22, 84), (21, 83), (20, 82), (19, 81), (18, 80), (17, 79), (16, 78), (15, 77), (14, 76), (13, 75), (12, 74), (11, 73), (5, (-1)), (1, 72), (0, 71)]), .inr 0, .inr 0, .inr 0, .inr 0, .inr 0, .inr 0, .inr 0, .inr 0, .inr 0, .inr 0, .inr 0, .inr 0, .inr 0, .inr 0, .inr 0, .inr 0, .inr 0, .inr 0, .inr 0, .inr 0, .inr 0, .inr 0, .inr 0, .inr 0, .inr 0, .inr 0, .inr 0, .inr 0, .inr 0, .inr 0, .inr 0, .inr 0, .inr 0, .inr 0] rfl dk_M_init_269 rfl (by decide) rfl ?_
  refine Wp.kP (k := 55) 0 [(54, 103), (53, 102), (52, 101), (51, 100), (50, 99), (49, 98), (47, 97), (44, 96), (40, 95), (39, 94), (38, 93), (37, 92), (36, 91), (35, 90), (27, 89), (26, 88), (25, 87), (24, 86), (23, 85), (22, 84), (21, 83), (20, 82), (19, 81), (18, 80), (17, 79), (16, 78), (15, 77), (14, 76), (13, 75), (12, 74), (11, 73), (5, (-1)), (1, 72), (0, 71)] 104 55 [.inl (11, [(55, 104), (54, 103), (53, 102), (52, 101), (51, 100), (50, 99), (49, 98), (47, 97), (44, 96), (40, 95), (39, 94), (38, 93), (37, 92), (36, 91), (35, 90), (27, 89), (26, 88), (25, 87), (24, 86), (23, 85), (22, 84), (21, 83), (20, 82), (19, 81), (18, 80), (17, 79), (16, 78), (15, 77), (14, 76), (13, 75), (12, 74), (11, 73), (5, (-1)), (1, 72), (0, 71)]), .inr 0, .inr 0, .inr 0, .inr 0, .inr 0, .inr 0, .inr 0, .inr 0, .inr 0, .inr 0, .inr 0, .inr 0, .inr 0, .inr 0, .inr 0, .inr 0, .inr 0, .inr 0, .inr 0, .inr 0, .inr 0, .inr 0, .inr 0, .inr 0, .inr 0, .inr 0, .inr 0, .inr 0, .inr 0, .inr 0, .inr 0, .inr 0, .inr 0, .inr 0] rfl dk_M_init_271 fl_M_115 rfl (Or.inr ⟨rfl, rfl, rfl⟩) rfl (by decide) rfl (fun _ => trivial) rfl rfl ?_
  refine Wp.aload_n 0 0 dk_M_init_274 rfl rfl ?_
  refine Wp.bipush dk_M_init_275 (by decide) (by decide) ?_
  refine Wp.kI 30 106 5 97 [.inl (11, [(55, 104), (54, 103), (53, 102), (52, 101), (51, 100), (50, 99), (49, 98), (47, 97), (44, 96), (40, 95), (39, 94), (38, 93), (37, 92), (36, 91), (35, 90), (27, 89), (26, 88), (25, 87), (24, 86), (23, 85), (22, 84), (21, 83), (20, 82), (19, 81), (18, 80), (17, 79), (16, 78), (15, 77), (14, 76), (13, 75), (12, 74), (11, 73), (5, (-1)), (1, 72), (0, 71)]), .inr 0, .inr 0, .inr 0, .inr 0, .inr 0, .inr 0, .inr 0, .inr 0, .inr 0, .inr 0, .inr 0, .inr 0, .inr 0, .inr 0, .inr 0, .inr 0, .inr 0, .inr 0, .inr 0, .inr 0, .inr 0, .inr 0, .inr 0, .inr 0, .inr 0, .inr 0, .inr 0, .inr 0, .inr 0, .inr 0, .inr 0, .inr 0, .inr 0, .inr 0, .inr 0] rfl dk_M_init_277 rfl (by decide) rfl ?_
  refine Wp.kP (k := 56) 0 [(55, 104), (54, 103), (53, 102), (52, 101), (51, 100), (50, 99), (49, 98), (47, 97), (44, 96), (40, 95), (39, 94), (38, 93), (37, 92), (36, 91), (35, 90), (27, 89), (26, 88), (25, 87), (24, 86), (23, 85), (22, 84), (21, 83), (20, 82), (19, 81), (18, 80), (17, 79), (16, 78), (15, 77), (14, 76), (13, 75), (12, 74), (11, 73), (5, (-1)), (1, 72), (0, 71)] 105 56 [.inl (11, [(56, 105), (55, 104), (54, 103), (53, 102), (52, 101), (51, 100), (50, 99), (49, 98), (47, 97), (44, 96), (40, 95), (39, 94), (38, 93), (37, 92), (36, 91), (35, 90), (27, 89), (26, 88), (25, 87), (24, 86), (23, 85), (22, 84), (21, 83), (20, 82), (19, 81), (18, 80), (17, 79), (16, 78), (15, 77), (14, 76), (13, 75), (12, 74), (11, 73), (5, (-1)), (1, 72), (0, 71)]), .inr 0, .inr 0, .inr 0, .inr 0, .inr 0, .inr 0, .inr 0, .inr 0, .inr 0, .inr 0, .inr 0, .inr 0, .inr 0, .inr 0, .inr 0, .inr 0, .inr 0, .inr 0, .inr 0, .inr 0, .inr 0, .inr 0, .inr 0, .inr 0, .inr 0, .inr 0, .inr 0, .inr 0, .inr 0, .inr 0, .inr 0, .inr 0, .inr 0, .inr 0, .inr 0] rfl dk_M_init_279 fl_M_118 rfl (Or.inr ⟨rfl, rfl, rfl⟩) rfl (by decide) rfl (fun _ => trivial) rfl rfl ?_
  refine Wp.aload_n 0 0 dk_M_init_282 rfl rfl ?_
  refine Wp.bipush dk_M_init_283 (by decide) (by decide) ?_
  refine Wp.kI 30 107 4 67 [.inl (11, [(56, 105), (55, 104), (54, 103), (53, 102), (52, 101), (51, 100), (50, 99), (49, 98), (47, 97), (44, 96), (40, 95), (39, 94), (38, 93), (37, 92), (36, 91), (35, 90), (27, 89), (26, 88), (25, 87), (24, 86), (23, 85), (22, 84), (21, 83), (20, 82), (19, 81), (18, 80), (17, 79), (16, 78), (15, 77), (14, 76), (13, 75), (12, 74), (11, 73), (5, (-1)), (1, 72), (0, 71)]), .inr 0, .inr 0, .inr 0, .inr 0, .inr 0, .inr 0, .inr 0, .inr 0, .inr 0, .inr 0, .inr 0, .inr 0, .inr 0, .inr 0, .inr 0, .inr 0, .inr 0, .inr 0, .inr 0, .inr 0, .inr 0, .inr 0, .inr 0, .inr 0, .inr 0, .inr 0, .inr 0, .inr 0, .inr 0, .inr 0, .inr 0, .inr 0, .inr 0, .inr 0, .inr 0, .inr 0] rfl dk_M_init_285 rfl (by decide) rfl ?_
  refine Wp.kP (k := 57) 0 [(56, 105), (55, 104), (54, 103), (53, 102), (52, 101), (51, 100), (50, 99), (49, 98), (47, 97), (44, 96), (40, 95), (39, 94), (38, 93), (37, 92), (36, 91), (35, 90), (27, 89), (26, 88), (25, 87), (24, 86), (23, 85), (22, 84), (21, 83), (20, 82), (19, 81), (18, 80), (17, 79), (16, 78), (15, 77), (14, 76), (13, 75), (12, 74), (11, 73), (5, (-1)), (1, 72), (0, 71)] 106 57 [.inl (11, [(57, 106), (56, 105), (55, 104), (54, 103), (53, 102), (52, 101), (51, 100), (50, 99), (49, 98), (47, 97), (44, 96), (40, 95), (39, 94), (38, 93), (37, 92), (36, 91), (35, 90), (27, 89), (26, 88), (25, 87), (24, 86), (23, 85), (22, 84), (21, 83), (20, 82), (19, 81), (18, 80), (17, 79), (16, 78), (15, 77), (14, 76), (13, 75), (12, 74), (11, 73), (5, (-1)), (1, 72), (0, 71)]), .inr 0, .inr 0, .inr 0, .inr 0, .inr 0, .inr 0, .inr 0, .inr 0, .inr 0, .inr 0, .inr 0, .inr 0, .inr 0, .inr 0, .inr 0, .inr 0, .inr 0, .inr 0, .inr 0, .inr 0, .inr 0, .inr 0, .inr 0, .inr 0, .inr 0, .inr 0, .inr 0, .inr 0, .inr 0, .inr 0, .inr 0, .inr 0, .inr 0, .inr 0, .inr 0, .inr 0] rfl dk_M_init_287 fl_M_121 rfl (Or.inr ⟨rfl, rfl, rfl⟩) rfl (by decide) rfl (fun _ => trivial) rfl rfl ?_
  refine Wp.aload_n 0 0 dk_M_init_290 rfl rfl ?_
  refine Wp.bipush dk_M_init_291 (by decide) (by decide) ?_
  refine Wp.kI 30 108 3 37 [.inl (11, [(57, 106), (56, 105), (55, 104), (54, 103), (53, 102), (52, 101), (51, 100), (50, 99), (49, 98), (47, 97), (44, 96), (40, 95), (39, 94), (38, 93), (37, 92), (36, 91), (35, 90), (27, 89), (26, 88), (25, 87), (24, 86), (23, 85), (22, 84), (21, 83), (20, 82), (19, 81), (18, 80), (17, 79), (16, 78), (15, 77), (14, 76), (13, 75), (12, 74), (11, 73), (5, (-1)), (1, 72), (0, 71)]), .inr 0, .inr 0, .inr 0, .inr 0, .inr 0, .inr 0, .inr 0, .inr 0, .inr 0, .inr 0, .inr 0, .inr 0, .inr 0, .inr 0, .inr 0, .inr 0, .inr 0, .inr 0, .inr 0, .inr 0, .inr 0, .inr 0, .inr 0, .inr 0, .inr 0, .inr 0, .inr 0, .inr 0, .inr 0, .inr 0, .inr 0, .inr 0, .inr 0, .inr 0, .inr 0, .inr 0, .inr 0] rfl dk_M_init_293 rfl (by decide) rfl ?_
  refine Wp.kP (k := 58) 0 [(57, 106), (56, 105), (55, 104), (54, 103), (53, 102), (52, 101), (51, 100), (50, 99), (49, 98), (47, 97), (44, 96), (40, 95), (39, 94), (38, 93), (37, 92), (36, 91), (35, 90), (27, 89), (26, 88), (25, 87), (24, 86), (23, 85), (22, 84), (21, 83), (20, 82), (19, 81), (18, 80), (17, 79), (16, 78), (15, 77), (14, 76), (13, 75), (12, 74), (11, 73), (5, (-1)), (1, 72), (0, 71)] 107 58 [.inl (11, [(58, 107), (57, 106), (56, 105), (55, 104), (54, 103), (53, 102), (52, 101), (51, 100), (50, 99), (49, 98), (47, 97), (44, 96), (40, 95), (39, 94), (38, 93), (37, 92), (36, 91), (35, 90), (27, 89), (26, 88), (25, 87), (24, 86), (23, 85), (22, 84), (21, 83), (20, 82), (19, 81), (18, 80), (17, 79), (16, 78), (15, 77), (14, 76), (13, 75), (12, 74), (11, 73), (5, (-1)), (1, 72), (0, 71)]), .inr 0, .inr 0, .inr 0, .inr 0, .inr 0, .inr 0, .inr 0, .inr 0, .inr 0, .inr 0, .inr 0, .inr 0, .inr 0, .inr 0, .inr 0, .inr 0, .inr 0, .inr 0, .inr 0, .inr 0, .inr 0, .inr 0, .inr 0, .inr 0, .inr 0, .inr 0, .inr 0, .inr 0, .inr 0, .inr 0, .inr 0, .inr 0, .inr 0, .inr 0, .inr 0, .inr 0, .inr 0] rfl dk_M_init_295 fl_M_124 rfl (Or.inr ⟨rfl, rfl, rfl⟩) rfl (by decide) rfl (fun _ => trivial) rfl rfl ?_
  refine Wp.aload_n 0 0 dk_M_init_298 rfl rfl ?_
  refine Wp.bipush dk_M_init_299 (by decide) (by decide) ?_
  refine Wp.kI 10 109 2 27 [.inl (11, [(58, 107), (57, 106), (56, 105), (55, 104), (54, 103), (53, 102), (52, 101), (51, 100), (50, 99), (49, 98), (47, 97), (44, 96), (40, 95), (39, 94), (38, 93), (37, 92), (36, 91), (35, 90), (27, 89), (26, 88), (25, 87), (24, 86), (23, 85), (22, 84), (21, 83), (20, 82), (19, 81), (18, 80), (17, 79), (16, 78), (15, 77), (14, 76), (13, 75), (12, 74), (11, 73), (5, (-1)), (1, 72), (0, 71)]), .inr 0, .inr 0, .inr 0, .inr 0, .inr 0, .inr 0, .inr 0, .inr 0, .inr 0, .inr 0, .inr 0, .inr 0, .inr 0, .inr 0, .inr 0, .inr 0, .inr 0, .inr 0, .inr 0, .inr 0, .inr 0, .inr 0, .inr 0, .inr 0, .inr 0, .inr 0, .inr 0, .inr 0, .inr 0, .inr 0, .inr 0, .inr 0, .inr 0, .inr 0, .inr 0, .inr 0, .inr 0, .inr 0] rfl dk_M_init_301 rfl (by decide) rfl ?_
  refine Wp.kP (k := 59) 0 [(58, 107), (57, 106), (56, 105), (55, 104), (54, 103), (53, 102), (52, 101), (51, 100), (50, 99), (49, 98), (47, 97), (44, 96), (40, 95), (39, 94), (38, 93), (37, 92), (36, 91), (35, 90), (27, 89), (26, 88), (25, 87), (24, 86), (23, 85), (22, 84), (21, 83), (20, 82), (19, 81), (18, 80), (17, 79), (16, 78), (15, 77), (14, 76), (13, 75), (12, 74), (11, 73), (5, (-1)), (1, 72), (0, 71)] 108 59 [.inl (11, [(59, 108), (58, 107), (57, 106), (56, 105), (55, 104), (54, 103), (53, 102), (52, 101), (51, 100), (50, 99), (49, 98), (47, 97), (44, 96), (40, 95), (39, 94), (38, 93), (37, 92), (36, 91), (35, 90), (27, 89), (26, 88), (25, 87), (24, 86), (23, 85), (22, 84), (21, 83), (20, 82), (19, 81), (18, 80), (17, 79), (16, 78), (15, 77), (14, 76), (13, 75), (12, 74), (11, 73), (5, (-1)), (1, 72), (0, 71)]), .inr 0, .inr 0, .inr 0, .inr 0, .inr 0, .inr 0, .inr 0, .inr 0, .inr 0, .inr 0, .inr 0, .inr 0, .inr 0, .inr 0, .inr 0, .inr 0, .inr 0, .inr 0, .inr 0, .inr 0, .inr 0, .inr 0, .inr 0, .inr 0, .inr 0, .inr 0, .inr 0, .inr 0, .inr 0, .inr 0, .inr 0, .inr 0, .inr 0, .inr 0, .inr 0, .inr 0, .inr 0, .inr 0] rfl dk_M_init_303 fl_M_127 rfl (Or.inr ⟨rfl, rfl, rfl⟩) rfl (by decide) rfl (fun _ => trivial) rfl rfl ?_
  refine Wp.aload_n 0 0 dk_M_init_306 rfl rfl ?_
  refine Wp.bipush dk_M_init_307 (by decide) (by decide) ?_
  refine Wp.kI 24 110 1 3 [.inl (11, [(59, 108), (58, 107), (57, 106), (56, 105), (55, 104), (54, 103), (53, 102), (52, 101), (51, 100), (50, 99), (49, 98), (47, 97), (44, 96), (40, 95), (39, 94), (38, 93), (37, 92), (36, 91), (35, 90), (27, 89), (26, 88), (25, 87), (24, 86), (23, 85), (22, 84), (21, 83), (20, 82), (19, 81), (18, 80), (17, 79), (16, 78), (15, 77), (14, 76), (13, 75), (12, 74), (11, 73), (5, (-1)), (1, 72), (0, 71)]), .inr 0, .inr 0, .inr 0, .inr 0, .inr 0, .inr 0, .inr 0, .inr 0, .inr 0, .inr 0, .inr 0, .inr 0, .inr 0, .inr 0, .inr 0, .inr 0, .inr 0, .inr 0, .inr 0, .inr 0, .inr 0, .inr 0, .inr 0, .inr 0, .inr 0, .inr 0, .inr 0, .inr 0, .inr 0, .inr 0, .inr 0, .inr 0, .inr 0, .inr 0, .inr 0, .inr 0, .inr 0, .inr 0, .inr 0] rfl dk_M_init_309 rfl (by decide) rfl ?_
  refine Wp.kP (k := 62) 0 [(59, 108), (58, 107), (57, 106), (56, 105), (55, 104), (54, 103), (53, 102), (52, 101), (51, 100), (50, 99), (49, 98), (47, 97), (44, 96), (40, 95), (39, 94), (38, 93), (37, 92), (36, 91), (35, 90), (27, 89), (26, 88), (25, 87), (24, 86), (23, 85), (22, 84), (21, 83), (20, 82), (19, 81), (18, 80), (17, 79), (16, 78), (15, 77), (14, 76), (13, 75), (12, 74), (11, 73), (5, (-1)), (1, 72), (0, 71)] 109 62 [.inl (11, [(62, 109), (59, 108), (58, 107), (57, 106), (56, 105), (55, 104), (54, 103), (53, 102), (52, 101), (51, 100), (50, 99), (49, 98), (47, 97), (44, 96), (40, 95), (39, 94), (38, 93), (37, 92), (36, 91), (35, 90), (27, 89), (26, 88), (25, 87), (24, 86), (23, 85), (22, 84), (21, 83), (20, 82), (19, 81), (18, 80), (17, 79), (16, 78), (15, 77), (14, 76), (13, 75), (12, 74), (11, 73), (5, (-1)), (1, 72), (0, 71)]), .inr 0, .inr 0, .inr 0, .inr 0, .inr 0, .inr 0, .inr 0, .inr 0, .inr 0, .inr 0, .inr 0, .inr 0, .inr 0, .inr 0, .inr 0, .inr 0, .inr 0, .inr 0, .inr 0, .inr 0, .inr 0, .inr 0, .inr 0, .inr 0, .inr 0, .inr 0, .inr 0, .inr 0, .inr 0, .inr 0, .inr 0, .inr 0, .inr 0, .inr 0, .inr 0, .inr 0, .inr 0, .inr 0, .inr 0] rfl dk_M_init_311 fl_M_130 rfl (Or.inr ⟨rfl, rfl, rfl⟩) rfl (by decide) rfl (fun _ => trivial) rfl rfl ?_
  refine Wp.aload_n 0 0 dk_M_init_314 rfl rfl ?_
  refine Wp.iconst dk_M_init_315 (by decide) ?_
  refine Wp.kZ 3 111 0 0 [.inl (11, [(62, 109), (59, 108), (58, 107), (57, 106), (56, 105), (55, 104), (54, 103), (53, 102), (52, 101), (51, 100), (50, 99), (49, 98), (47, 97), (44, 96), (40, 95), (39, 94), (38, 93), (37, 92), (36, 91), (35, 90), (27, 89), (26, 88), (25, 87), (24, 86), (23, 85), (22, 84), (21, 83), (20, 82), (19, 81), (18, 80), (17, 79), (16, 78), (15, 77), (14, 76), (13, 75), (12, 74), (11, 73), (5, (-1)), (1, 72), (0, 71)]), .inr 0, .inr 0, .inr 0, .inr 0, .inr 0, .inr 0, .inr 0, .inr 0, .inr 0, .inr 0, .inr 0, .inr 0, .inr 0, .inr 0, .inr 0, .inr 0, .inr 0, .inr 0, .inr 0, .inr 0, .inr 0, .inr 0, .inr 0, .inr 0, .inr 0, .inr 0, .inr 0, .inr 0, .inr 0, .inr 0, .inr 0, .inr 0, .inr 0, .inr 0, .inr 0, .inr 0, .inr 0, .inr 0, .inr 0, .inr 0] rfl dk_M_init_316 rfl (by decide) rfl ?_
  refine Wp.kP (k := 63) 0 [(62, 109), (59, 108), (58, 107), (57, 106), (56, 105), (55, 104), (54, 103), (53, 102), (52, 101), (51, 100), (50, 99), (49, 98), (47, 97), (44, 96), (40, 95), (39, 94), (38, 93), (37, 92), (36, 91), (35, 90), (27, 89), (26, 88), (25, 87), (24, 86), (23, 85), (22, 84), (21, 83), (20, 82), (19, 81), (18, 80), (17, 79), (16, 78), (15, 77), (14, 76), (13, 75), (12, 74), (11, 73), (5, (-1)), (1, 72), (0, 71)] 110 63 [.inl (11, [(63, 110), (62, 109), (59, 108), (58, 107), (57, 106), (56, 105), (55, 104), (54, 103), (53, 102), (52, 101), (51, 100), (50, 99), (49, 98), (47, 97), (44, 96), (40, 95), (39, 94), (38, 93), (37, 92), (36, 91), (35, 90), (27, 89), (26, 88), (25, 87), (24, 86), (23, 85), (22, 84), (21, 83), (20, 82), (19, 81), (18, 80), (17, 79), (16, 78), (15, 77), (14, 76), (13, 75), (12, 74), (11, 73), (5, (-1)), (1, 72), (0, 71)]), .inr 0, .inr 0, .inr 0, .inr 0, .inr 0, .inr 0, .inr 0, .inr 0, .inr 0, .inr 0, .inr 0, .inr 0, .inr 0, .inr 0, .inr 0, .inr 0, .inr 0, .inr 0, .inr 0, .inr 0, .inr 0, .inr 0, .inr 0, .inr 0, .inr 0, .inr 0, .inr 0, .inr 0, .inr 0, .inr 0, .inr 0, .inr 0, .inr 0, .inr 0, .inr 0, .inr 0, .inr 0, .inr 0, .inr 0, .inr 0] rfl dk_M_init_318 fl_M_133 rfl (Or.inr ⟨rfl, rfl, rfl⟩) rfl (by decide) rfl (fun _ => trivial) rfl rfl ?_
  exact K
