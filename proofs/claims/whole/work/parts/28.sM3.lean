theorem d_M_sum_0 : decode Y_M_sum.2.1 0 = .ok (.aload_n 0, 1) := by decide +kernel
theorem d_M_sum_1 : decode Y_M_sum.2.1 1 = .ok (.iconst 0, 1) := by decide +kernel
theorem d_M_sum_2 : decode Y_M_sum.2.1 2 = .ok (.putfield 369, 3) := by decide +kernel
theorem d_M_sum_5 : decode Y_M_sum.2.1 5 = .ok (.aload_n 0, 1) := by decide +kernel
theorem d_M_sum_6 : decode Y_M_sum.2.1 6 = .ok (.iload_n 1, 1) := by decide +kernel
theorem d_M_sum_7 : decode Y_M_sum.2.1 7 = .ok (.invokevirtual 456, 3) := by decide +kernel
theorem d_M_sum_10 : decode Y_M_sum.2.1 10 = .ok (.ifCond .ne 5, 3) := by decide +kernel
theorem d_M_sum_13 : decode Y_M_sum.2.1 13 = .ok (.iconst (-1), 1) := by decide +kernel
theorem d_M_sum_14 : decode Y_M_sum.2.1 14 = .ok (.ireturn, 1) := by decide +kernel
theorem d_M_sum_15 : decode Y_M_sum.2.1 15 = .ok (.aload_n 0, 1) := by decide +kernel
theorem d_M_sum_16 : decode Y_M_sum.2.1 16 = .ok (.invokevirtual 378, 3) := by decide +kernel
theorem d_M_sum_19 : decode Y_M_sum.2.1 19 = .ok (.iconst 0, 1) := by decide +kernel
theorem d_M_sum_20 : decode Y_M_sum.2.1 20 = .ok (.istore_n 2, 1) := by decide +kernel
theorem d_M_sum_21 : decode Y_M_sum.2.1 21 = .ok (.iload_n 2, 1) := by decide +kernel
theorem d_M_sum_22 : decode Y_M_sum.2.1 22 = .ok (.aload_n 0, 1) := by decide +kernel
theorem d_M_sum_23 : decode Y_M_sum.2.1 23 = .ok (.invokevirtual 338, 3) := by decide +kernel
theorem d_M_sum_26 : decode Y_M_sum.2.1 26 = .ok (.if_icmp .ge 29, 3) := by decide +kernel
theorem d_M_sum_29 : decode Y_M_sum.2.1 29 = .ok (.aload_n 0, 1) := by decide +kernel
theorem d_M_sum_30 : decode Y_M_sum.2.1 30 = .ok (.getfield 82, 3) := by decide +kernel
theorem d_M_sum_33 : decode Y_M_sum.2.1 33 = .ok (.iload_n 2, 1) := by decide +kernel
theorem d_M_sum_34 : decode Y_M_sum.2.1 34 = .ok (.dup2, 1) := by decide +kernel
theorem d_M_sum_35 : decode Y_M_sum.2.1 35 = .ok (.iaload, 1) := by decide +kernel
theorem d_M_sum_36 : decode Y_M_sum.2.1 36 = .ok (.aload_n 0, 1) := by decide +kernel
theorem d_M_sum_37 : decode Y_M_sum.2.1 37 = .ok (.getfield 130, 3) := by decide +kernel
theorem d_M_sum_40 : decode Y_M_sum.2.1 40 = .ok (.bipush 8, 2) := by decide +kernel
theorem d_M_sum_42 : decode Y_M_sum.2.1 42 = .ok (.iload_n 1, 1) := by decide +kernel
theorem d_M_sum_43 : decode Y_M_sum.2.1 43 = .ok (.imul, 1) := by decide +kernel
theorem d_M_sum_44 : decode Y_M_sum.2.1 44 = .ok (.iload_n 2, 1) := by decide +kernel
theorem d_M_sum_45 : decode Y_M_sum.2.1 45 = .ok (.iadd, 1) := by decide +kernel
theorem d_M_sum_46 : decode Y_M_sum.2.1 46 = .ok (.iaload, 1) := by decide +kernel
theorem d_M_sum_47 : decode Y_M_sum.2.1 47 = .ok (.iadd, 1) := by decide +kernel
theorem d_M_sum_48 : decode Y_M_sum.2.1 48 = .ok (.iastore, 1) := by decide +kernel
theorem d_M_sum_49 : decode Y_M_sum.2.1 49 = .ok (.iinc 2 1, 3) := by decide +kernel
theorem d_M_sum_52 : decode Y_M_sum.2.1 52 = .ok (.goto (-31), 3) := by decide +kernel
theorem d_M_sum_55 : decode Y_M_sum.2.1 55 = .ok (.aload_n 0, 1) := by decide +kernel
theorem d_M_sum_56 : decode Y_M_sum.2.1 56 = .ok (.invokevirtual 381, 3) := by decide +kernel
theorem d_M_sum_59 : decode Y_M_sum.2.1 59 = .ok (.istore_n 2, 1) := by decide +kernel
theorem d_M_sum_60 : decode Y_M_sum.2.1 60 = .ok (.iconst 0, 1) := by decide +kernel
theorem d_M_sum_61 : decode Y_M_sum.2.1 61 = .ok (.istore_n 3, 1) := by decide +kernel
theorem d_M_sum_62 : decode Y_M_sum.2.1 62 = .ok (.iload_n 3, 1) := by decide +kernel
theorem d_M_sum_63 : decode Y_M_sum.2.1 63 = .ok (.aload_n 0, 1) := by decide +kernel
theorem d_M_sum_64 : decode Y_M_sum.2.1 64 = .ok (.invokevirtual 338, 3) := by decide +kernel
theorem d_M_sum_67 : decode Y_M_sum.2.1 67 = .ok (.if_icmp .ge 21, 3) := by decide +kernel
theorem d_M_sum_70 : decode Y_M_sum.2.1 70 = .ok (.aload_n 0, 1) := by decide +kernel
theorem d_M_sum_71 : decode Y_M_sum.2.1 71 = .ok (.getfield 94, 3) := by decide +kernel
theorem d_M_sum_74 : decode Y_M_sum.2.1 74 = .ok (.iload_n 3, 1) := by decide +kernel
theorem d_M_sum_75 : decode Y_M_sum.2.1 75 = .ok (.aload_n 0, 1) := by decide +kernel
theorem d_M_sum_76 : decode Y_M_sum.2.1 76 = .ok (.getfield 82, 3) := by decide +kernel
theorem d_M_sum_79 : decode Y_M_sum.2.1 79 = .ok (.iload_n 3, 1) := by decide +kernel
theorem d_M_sum_80 : decode Y_M_sum.2.1 80 = .ok (.iaload, 1) := by decide +kernel
theorem d_M_sum_81 : decode Y_M_sum.2.1 81 = .ok (.iastore, 1) := by decide +kernel
theorem d_M_sum_82 : decode Y_M_sum.2.1 82 = .ok (.iinc 3 1, 3) := by decide +kernel
theorem d_M_sum_85 : decode Y_M_sum.2.1 85 = .ok (.goto (-23), 3) := by decide +kernel
theorem d_M_sum_88 : decode Y_M_sum.2.1 88 = .ok (.aload_n 0, 1) := by decide +kernel
theorem d_M_sum_89 : decode Y_M_sum.2.1 89 = .ok (.aload_n 0, 1) := by decide +kernel
theorem d_M_sum_90 : decode Y_M_sum.2.1 90 = .ok (.invokevirtual 338, 3) := by decide +kernel
theorem d_M_sum_93 : decode Y_M_sum.2.1 93 = .ok (.putfield 369, 3) := by decide +kernel
theorem d_M_sum_96 : decode Y_M_sum.2.1 96 = .ok (.aload_n 0, 1) := by decide +kernel
theorem d_M_sum_97 : decode Y_M_sum.2.1 97 = .ok (.invokevirtual 446, 3) := by decide +kernel
theorem d_M_sum_100 : decode Y_M_sum.2.1 100 = .ok (.ireturn, 1) := by decide +kernel
theorem e_M_sum {l : Launch} {G : GT} {d : Nat} {P : Int → MM → Prop} {m : MM} (x1 : Int)  (H : wfM m → inR x1 → ∀ m1, m1 = up m 70 48 0 → (∃ (e4 : Nat) (P5 : Int → MM → Prop), e4 < d ∧ CI l G Y_M_isBox e4 [.inr (.inr 70), .inl x1] m1 P5 ∧ (∀ z10 m11, P5 z10 m11 → inR z10 → wfM m11 → ((z10 ≠ 0 → (∃ (e20 : Nat) (P21 : MM → Prop), e20 < d ∧ CV l G Y_M_layNow e20 [.inr (.inr 70)] m11 P21 ∧ (∀ m27, P21 m27 → wfM m27 → (Wq l G false Y_M_sum d (QI P) 21 [(0, .inr (.inr 70)), (1, .inl x1), (2, .inl 0)] [] m27)))) ∧ (¬ (z10 ≠ 0) → (P (-1) m11)))))) : CI l G Y_M_sum d [.inr (.inr 70), .inl x1] m P := by
  refine CI.of [(0, .inr (.inr 70)), (1, .inl x1)] k_M_sum.1 (Nat.le_of_ble_eq_true rfl) rfl (Wp.wf (fun hw _ hl hs => ?_))
  have H0 := H hw (hl _ (List.mem_of_getElem? (i := 1) rfl))
  refine Wp.aload_n 0 0 d_M_sum_0 rfl rfl ?_
  refine Wp.iconst d_M_sum_1 (by decide) ?_
  refine Wq.putI 48 rfl d_M_sum_2 fl_M_369 (fun _ _ _ h => by cases h; rfl) rfl rfl rfl (fun m1 hm2 => ?_)
  have H3 := H0 m1 hm2
  refine Wp.aload_n 0 0 d_M_sum_5 rfl rfl ?_
  refine Wp.iload_n 1 1 d_M_sum_6 rfl rfl ?_
  obtain ⟨e4, P5, hd6, ho7, H8⟩ := H3
  refine Wq.VI (st := []) [.inl x1] d_M_sum_7 k_M_isBox ml_M_456 rfl rfl rfl (fun h => by cases h) (Nat.le_of_ble_eq_true rfl) hd6 ho7 (fun z10 m11 hp12 hz13 hw14 => ?_)
  have H9 := H8 z10 m11 hp12 hz13 hw14
  obtain ⟨H16, H17⟩ := H9
  refine Wp.if_ne 15 d_M_sum_10 (by decide) (fun c15 => ?_) (fun c15 => ?_)
  · have H18 := H16 c15
    refine Wp.aload_n 0 0 d_M_sum_15 rfl rfl ?_
    obtain ⟨e20, P21, hd22, ho23, H24⟩ := H18
    refine Wq.VV (st := []) [] d_M_sum_16 k_M_layNow ml_M_378 rfl rfl rfl (fun h => by cases h) (Nat.le_of_ble_eq_true rfl) hd22 ho23 (fun m27 hp28 hw30 => ?_)
    have H25 := H24 m27 hp28 hw30
    refine Wp.iconst d_M_sum_19 (by decide) ?_
    refine Wp.istore_n 2 [(0, .inr (.inr 70)), (1, .inl x1), (2, .inl 0)] d_M_sum_20 rfl (by decide) rfl ?_
    exact H25
  · have H19 := H17 c15
    refine Wp.iconst d_M_sum_13 (by decide) ?_
    exact Wq.iret d_M_sum_14 rfl H19
theorem s_M_sum_21 {l : Launch} {G : GT} {d : Nat} {P : Int → MM → Prop} {m : MM} (x1 : Int) (x2 : Int)  (H : wfM m → inR x1 → inR x2 → ∃ (e1 : Nat) (P2 : Int → MM → Prop), e1 < d ∧ CI l G Y_M_lots e1 [.inr (.inr 70)] m P2 ∧ (∀ z7 m8, P2 z7 m8 → inR z7 → wfM m8 → ((x2 ≥ z7 → (∃ (e17 : Nat) (P18 : Int → MM → Prop), e17 < d ∧ CI l G Y_M_settleHeap e17 [.inr (.inr 70)] m8 P18 ∧ (∀ z23 m24, P18 z23 m24 → inR z23 → wfM m24 → (Wq l G false Y_M_sum d (QI P) 62 [(0, .inr (.inr 70)), (3, .inl 0)] [] m24)))) ∧ (¬ (x2 ≥ z7) → ((0 ≤ x2 ∧ x2 < (5 : Int)) ∧ ((inR (8 * x1)) ∧ ((inR ((8 * x1) + x2)) ∧ ((0 ≤ ((8 * x1) + x2) ∧ ((8 * x1) + x2) < (24 : Int)) ∧ ((inR ((m8 93 x2) + (m8 109 ((8 * x1) + x2)))) ∧ ((0 ≤ x2 ∧ x2 < (5 : Int)) ∧ (∀ m38, m38 = up m8 93 x2 ((m8 93 x2) + (m8 109 ((8 * x1) + x2))) → ((inR (x2 + 1)) ∧ (Wq l G false Y_M_sum d (QI P) 21 [(0, .inr (.inr 70)), (1, .inl x1), (2, .inl (x2 + 1))] [] m38))))))))))))) : Wq l G false Y_M_sum d (QI P) 21 [(0, .inr (.inr 70)), (1, .inl x1), (2, .inl x2)] [] m := by
  refine Wp.wf (fun hw _ hl hs => ?_)
  have H0 := H hw (hl _ (List.mem_of_getElem? (i := 1) rfl)) (hl _ (List.mem_of_getElem? (i := 2) rfl))
  refine Wp.iload_n 2 2 d_M_sum_21 rfl rfl ?_
  refine Wp.aload_n 0 0 d_M_sum_22 rfl rfl ?_
  obtain ⟨e1, P2, hd3, ho4, H5⟩ := H0
  refine Wq.VI (st := [.inl x2]) [] d_M_sum_23 k_M_lots ml_M_338 rfl rfl rfl (fun h => by cases h) (Nat.le_of_ble_eq_true rfl) hd3 ho4 (fun z7 m8 hp9 hz10 hw11 => ?_)
  have H6 := H5 z7 m8 hp9 hz10 hw11
  obtain ⟨H13, H14⟩ := H6
  refine Wp.icmp_ge 55 d_M_sum_26 (by decide) (fun c12 => ?_) (fun c12 => ?_)
  · have H15 := H13 c12
    refine Wp.aload_n 0 0 d_M_sum_55 rfl rfl ?_
    obtain ⟨e17, P18, hd19, ho20, H21⟩ := H15
    refine Wq.VI (st := []) [] d_M_sum_56 k_M_settleHeap ml_M_381 rfl rfl rfl (fun h => by cases h) (Nat.le_of_ble_eq_true rfl) hd19 ho20 (fun z23 m24 hp25 hz26 hw27 => ?_)
    have H22 := H21 z23 m24 hp25 hz26 hw27
    refine Wp.istore_n 2 [(0, .inr (.inr 70)), (1, .inl x1), (2, .inl z23)] d_M_sum_59 rfl (by decide) rfl ?_
    refine Wp.iconst d_M_sum_60 (by decide) ?_
    refine Wp.istore_n 3 [(0, .inr (.inr 70)), (1, .inl x1), (2, .inl z23), (3, .inl 0)] d_M_sum_61 rfl (by decide) rfl ?_
    refine Wp.pick [0, 3] [(0, .inr (.inr 70)), (3, .inl 0)] rfl ?_
    exact H22
  · have H16 := H14 c12
    refine Wp.aload_n 0 0 d_M_sum_29 rfl rfl ?_
    refine Wp.getP 93 d_M_sum_30 fl_M_82 rfl rfl rfl ?_
    refine Wp.iload_n 2 2 d_M_sum_33 rfl rfl ?_
    refine Wp.dup2 d_M_sum_34 rfl rfl ?_
    obtain ⟨s28, H29⟩ := H16
    refine Wp.iald d_M_sum_35 rfl (Or.inl rfl) s28.1 s28.2 ?_
    refine Wp.aload_n 0 0 d_M_sum_36 rfl rfl ?_
    refine Wp.getP 109 d_M_sum_37 fl_M_130 rfl rfl rfl ?_
    refine Wp.bipush d_M_sum_40 (by decide) (by decide) ?_
    refine Wp.iload_n 1 1 d_M_sum_42 rfl rfl ?_
    obtain ⟨s30, H31⟩ := H29
    refine Wp.imul d_M_sum_43 s30 ?_
    refine Wp.iload_n 2 2 d_M_sum_44 rfl rfl ?_
    obtain ⟨s32, H33⟩ := H31
    refine Wp.iadd d_M_sum_45 s32 ?_
    obtain ⟨s34, H35⟩ := H33
    refine Wp.iald d_M_sum_46 rfl (Or.inl rfl) s34.1 s34.2 ?_
    obtain ⟨s36, H37⟩ := H35
    refine Wp.iadd d_M_sum_47 s36 ?_
    obtain ⟨s45, H46⟩ := H37
    refine Wq.iast d_M_sum_48 rfl s45.1 s45.2 (fun m38 hm39 => ?_)
    have H40 := H46 m38 hm39
    obtain ⟨s43, H44⟩ := H40
    refine Wp.iinc 2 2 [(0, .inr (.inr 70)), (1, .inl x1), (2, .inl (x2 + 1))] d_M_sum_49 rfl s43 (by decide) rfl ?_
    refine Wp.goto 21 d_M_sum_52 (by decide) ?_
    exact H44
theorem s_M_sum_62 {l : Launch} {G : GT} {d : Nat} {P : Int → MM → Prop} {m : MM} (x3 : Int)  (H : wfM m → inR x3 → ∃ (e1 : Nat) (P2 : Int → MM → Prop), e1 < d ∧ CI l G Y_M_lots e1 [.inr (.inr 70)] m P2 ∧ (∀ z7 m8, P2 z7 m8 → inR z7 → wfM m8 → ((x3 ≥ z7 → (∃ (e17 : Nat) (P18 : Int → MM → Prop), e17 < d ∧ CI l G Y_M_lots e17 [.inr (.inr 70)] m8 P18 ∧ (∀ z23 m24, P18 z23 m24 → inR z23 → wfM m24 → (∀ m28, m28 = up m24 70 48 z23 → (∃ (e31 : Nat) (P32 : Int → MM → Prop), e31 < d ∧ CI l G Y_M_levelOf e31 [.inr (.inr 70)] m28 P32 ∧ (∀ z37 m38, P32 z37 m38 → inR z37 → wfM m38 → (P z37 m38))))))) ∧ (¬ (x3 ≥ z7) → ((0 ≤ x3 ∧ x3 < (5 : Int)) ∧ ((0 ≤ x3 ∧ x3 < (60 : Int)) ∧ (∀ m44, m44 = up m8 97 x3 (m8 93 x3) → ((inR (x3 + 1)) ∧ (Wq l G false Y_M_sum d (QI P) 62 [(0, .inr (.inr 70)), (3, .inl (x3 + 1))] [] m44))))))))) : Wq l G false Y_M_sum d (QI P) 62 [(0, .inr (.inr 70)), (3, .inl x3)] [] m := by
  refine Wp.wf (fun hw _ hl hs => ?_)
  have H0 := H hw (hl _ (List.mem_of_getElem? (i := 1) rfl))
  refine Wp.iload_n 1 3 d_M_sum_62 rfl rfl ?_
  refine Wp.aload_n 0 0 d_M_sum_63 rfl rfl ?_
  obtain ⟨e1, P2, hd3, ho4, H5⟩ := H0
  refine Wq.VI (st := [.inl x3]) [] d_M_sum_64 k_M_lots ml_M_338 rfl rfl rfl (fun h => by cases h) (Nat.le_of_ble_eq_true rfl) hd3 ho4 (fun z7 m8 hp9 hz10 hw11 => ?_)
  have H6 := H5 z7 m8 hp9 hz10 hw11
  obtain ⟨H13, H14⟩ := H6
  refine Wp.icmp_ge 88 d_M_sum_67 (by decide) (fun c12 => ?_) (fun c12 => ?_)
  · have H15 := H13 c12
    refine Wp.aload_n 0 0 d_M_sum_88 rfl rfl ?_
    refine Wp.aload_n 0 0 d_M_sum_89 rfl rfl ?_
    obtain ⟨e17, P18, hd19, ho20, H21⟩ := H15
    refine Wq.VI (st := [.inr (.inr 70)]) [] d_M_sum_90 k_M_lots ml_M_338 rfl rfl rfl (fun h => by cases h) (Nat.le_of_ble_eq_true rfl) hd19 ho20 (fun z23 m24 hp25 hz26 hw27 => ?_)
    have H22 := H21 z23 m24 hp25 hz26 hw27
    refine Wq.putI 48 rfl d_M_sum_93 fl_M_369 (fun _ _ _ h => by cases h; rfl) rfl rfl rfl (fun m28 hm29 => ?_)
    have H30 := H22 m28 hm29
    refine Wp.aload_n 0 0 d_M_sum_96 rfl rfl ?_
    obtain ⟨e31, P32, hd33, ho34, H35⟩ := H30
    refine Wq.VI (st := []) [] d_M_sum_97 k_M_levelOf ml_M_446 rfl rfl rfl (fun h => by cases h) (Nat.le_of_ble_eq_true rfl) hd33 ho34 (fun z37 m38 hp39 hz40 hw41 => ?_)
    have H36 := H35 z37 m38 hp39 hz40 hw41
    exact Wq.iret d_M_sum_100 rfl H36
  · have H16 := H14 c12
    refine Wp.aload_n 0 0 d_M_sum_70 rfl rfl ?_
    refine Wp.getP 97 d_M_sum_71 fl_M_94 rfl rfl rfl ?_
    refine Wp.iload_n 1 3 d_M_sum_74 rfl rfl ?_
    refine Wp.aload_n 0 0 d_M_sum_75 rfl rfl ?_
    refine Wp.getP 93 d_M_sum_76 fl_M_82 rfl rfl rfl ?_
    refine Wp.iload_n 1 3 d_M_sum_79 rfl rfl ?_
    obtain ⟨s42, H43⟩ := H16
    refine Wp.iald d_M_sum_80 rfl (Or.inl rfl) s42.1 s42.2 ?_
    obtain ⟨s51, H52⟩ := H43
    refine Wq.iast d_M_sum_81 rfl s51.1 s51.2 (fun m44 hm45 => ?_)
    have H46 := H52 m44 hm45
    obtain ⟨s49, H50⟩ := H46
    refine Wp.iinc 1 3 [(0, .inr (.inr 70)), (3, .inl (x3 + 1))] d_M_sum_82 rfl s49 (by decide) rfl ?_
    refine Wp.goto 62 d_M_sum_85 (by decide) ?_
    exact H50
theorem d_M_isBox_0 : decode Y_M_isBox.2.1 0 = .ok (.iload_n 1, 1) := by decide +kernel
theorem d_M_isBox_1 : decode Y_M_isBox.2.1 1 = .ok (.iconst 0, 1) := by decide +kernel
theorem d_M_isBox_2 : decode Y_M_isBox.2.1 2 = .ok (.iconst 2, 1) := by decide +kernel
theorem d_M_isBox_3 : decode Y_M_isBox.2.1 3 = .ok (.invokestatic 341, 3) := by decide +kernel
theorem d_M_isBox_6 : decode Y_M_isBox.2.1 6 = .ok (.ifCond .eq 16, 3) := by decide +kernel
theorem d_M_isBox_9 : decode Y_M_isBox.2.1 9 = .ok (.aload_n 0, 1) := by decide +kernel
theorem d_M_isBox_10 : decode Y_M_isBox.2.1 10 = .ok (.getfield 133, 3) := by decide +kernel
theorem d_M_isBox_13 : decode Y_M_isBox.2.1 13 = .ok (.iload_n 1, 1) := by decide +kernel
theorem d_M_isBox_14 : decode Y_M_isBox.2.1 14 = .ok (.baload, 1) := by decide +kernel
theorem d_M_isBox_15 : decode Y_M_isBox.2.1 15 = .ok (.ifCond .eq 7, 3) := by decide +kernel
theorem d_M_isBox_18 : decode Y_M_isBox.2.1 18 = .ok (.iconst 1, 1) := by decide +kernel
theorem d_M_isBox_19 : decode Y_M_isBox.2.1 19 = .ok (.goto 4, 3) := by decide +kernel
theorem d_M_isBox_22 : decode Y_M_isBox.2.1 22 = .ok (.iconst 0, 1) := by decide +kernel
theorem d_M_isBox_23 : decode Y_M_isBox.2.1 23 = .ok (.ireturn, 1) := by decide +kernel
theorem e_M_isBox {l : Launch} {G : GT} {d : Nat} {P : Int → MM → Prop} {m : MM} (x1 : Int)  (H : wfM m → inR x1 → ∃ (e1 : Nat) (P2 : Int → MM → Prop), e1 < d ∧ CI l G Y_M_isIn e1 [.inl x1, .inl 0, .inl 2] m P2 ∧ (∀ z7 m8, P2 z7 m8 → inR z7 → wfM m8 → ((z7 = 0 → (P 0 m8)) ∧ (¬ (z7 = 0) → ((0 ≤ x1 ∧ x1 < (3 : Int)) ∧ (((m8 110 x1) = 0 → (P 0 m8)) ∧ (¬ ((m8 110 x1) = 0) → (P 1 m8)))))))) : CI l G Y_M_isBox d [.inr (.inr 70), .inl x1] m P := by
  refine CI.of [(0, .inr (.inr 70)), (1, .inl x1)] k_M_isBox.1 (Nat.le_of_ble_eq_true rfl) rfl (Wp.wf (fun hw _ hl hs => ?_))
  have H0 := H hw (hl _ (List.mem_of_getElem? (i := 1) rfl))
  refine Wp.iload_n 1 1 d_M_isBox_0 rfl rfl ?_
  refine Wp.iconst d_M_isBox_1 (by decide) ?_
  refine Wp.iconst d_M_isBox_2 (by decide) ?_
  obtain ⟨e1, P2, hd3, ho4, H5⟩ := H0
  refine Wq.SI (st := []) [.inl x1, .inl 0, .inl 2] d_M_isBox_3 k_M_isIn ml_M_341 rfl  (fun h => by cases h) (Nat.le_of_ble_eq_true rfl) hd3 ho4 (fun z7 m8 hp9 hz10 hw11 => ?_)
  have H6 := H5 z7 m8 hp9 hz10 hw11
  obtain ⟨H13, H14⟩ := H6
  refine Wp.if_eq 22 d_M_isBox_6 (by decide) (fun c12 => ?_) (fun c12 => ?_)
  · have H15 := H13 c12
    refine Wp.iconst d_M_isBox_22 (by decide) ?_
    exact Wq.zret d_M_isBox_23 rfl (by decide) H15
  · have H16 := H14 c12
    refine Wp.aload_n 0 0 d_M_isBox_9 rfl rfl ?_
    refine Wp.getP 110 d_M_isBox_10 fl_M_133 rfl rfl rfl ?_
    refine Wp.iload_n 1 1 d_M_isBox_13 rfl rfl ?_
    obtain ⟨s17, H18⟩ := H16
    refine Wp.zald d_M_isBox_14 rfl (Or.inl rfl) s17.1 s17.2 ?_
    obtain ⟨H20, H21⟩ := H18
    refine Wp.if_eq 22 d_M_isBox_15 (by decide) (fun c19 => ?_) (fun c19 => ?_)
    · have H22 := H20 c19
      refine Wp.iconst d_M_isBox_22 (by decide) ?_
      exact Wq.zret d_M_isBox_23 rfl (by decide) H22
    · have H23 := H21 c19
      refine Wp.iconst d_M_isBox_18 (by decide) ?_
      refine Wp.goto 23 d_M_isBox_19 (by decide) ?_
      exact Wq.zret d_M_isBox_23 rfl (by decide) H23
theorem d_M_one_0 : decode Y_M_one.2.1 0 = .ok (.aload_n 0, 1) := by decide +kernel
theorem d_M_one_1 : decode Y_M_one.2.1 1 = .ok (.iload_n 1, 1) := by decide +kernel
theorem d_M_one_2 : decode Y_M_one.2.1 2 = .ok (.invokevirtual 456, 3) := by decide +kernel
theorem d_M_one_5 : decode Y_M_one.2.1 5 = .ok (.ifCond .ne 5, 3) := by decide +kernel
theorem d_M_one_8 : decode Y_M_one.2.1 8 = .ok (.iconst (-1), 1) := by decide +kernel
theorem d_M_one_9 : decode Y_M_one.2.1 9 = .ok (.ireturn, 1) := by decide +kernel
theorem d_M_one_10 : decode Y_M_one.2.1 10 = .ok (.aload_n 0, 1) := by decide +kernel
theorem d_M_one_11 : decode Y_M_one.2.1 11 = .ok (.invokevirtual 378, 3) := by decide +kernel
theorem d_M_one_14 : decode Y_M_one.2.1 14 = .ok (.aload_n 0, 1) := by decide +kernel
theorem d_M_one_15 : decode Y_M_one.2.1 15 = .ok (.invokevirtual 384, 3) := by decide +kernel
theorem d_M_one_18 : decode Y_M_one.2.1 18 = .ok (.iconst 0, 1) := by decide +kernel
theorem d_M_one_19 : decode Y_M_one.2.1 19 = .ok (.istore_n 2, 1) := by decide +kernel
theorem d_M_one_20 : decode Y_M_one.2.1 20 = .ok (.iload_n 2, 1) := by decide +kernel
theorem d_M_one_21 : decode Y_M_one.2.1 21 = .ok (.aload_n 0, 1) := by decide +kernel
theorem d_M_one_22 : decode Y_M_one.2.1 22 = .ok (.invokevirtual 338, 3) := by decide +kernel
theorem d_M_one_25 : decode Y_M_one.2.1 25 = .ok (.if_icmp .ge 21, 3) := by decide +kernel
theorem d_M_one_28 : decode Y_M_one.2.1 28 = .ok (.aload_n 0, 1) := by decide +kernel
theorem d_M_one_29 : decode Y_M_one.2.1 29 = .ok (.getfield 97, 3) := by decide +kernel
theorem d_M_one_32 : decode Y_M_one.2.1 32 = .ok (.iload_n 2, 1) := by decide +kernel
theorem d_M_one_33 : decode Y_M_one.2.1 33 = .ok (.aload_n 0, 1) := by decide +kernel
theorem d_M_one_34 : decode Y_M_one.2.1 34 = .ok (.getfield 82, 3) := by decide +kernel
theorem d_M_one_37 : decode Y_M_one.2.1 37 = .ok (.iload_n 2, 1) := by decide +kernel
theorem d_M_one_38 : decode Y_M_one.2.1 38 = .ok (.iaload, 1) := by decide +kernel
theorem d_M_one_39 : decode Y_M_one.2.1 39 = .ok (.iastore, 1) := by decide +kernel
theorem d_M_one_40 : decode Y_M_one.2.1 40 = .ok (.iinc 2 1, 3) := by decide +kernel
theorem d_M_one_43 : decode Y_M_one.2.1 43 = .ok (.goto (-23), 3) := by decide +kernel
theorem d_M_one_46 : decode Y_M_one.2.1 46 = .ok (.iconst 0, 1) := by decide +kernel
theorem d_M_one_47 : decode Y_M_one.2.1 47 = .ok (.istore_n 2, 1) := by decide +kernel
theorem d_M_one_48 : decode Y_M_one.2.1 48 = .ok (.iload_n 2, 1) := by decide +kernel
theorem d_M_one_49 : decode Y_M_one.2.1 49 = .ok (.aload_n 0, 1) := by decide +kernel
theorem d_M_one_50 : decode Y_M_one.2.1 50 = .ok (.invokevirtual 338, 3) := by decide +kernel
theorem d_M_one_53 : decode Y_M_one.2.1 53 = .ok (.if_icmp .ge 26, 3) := by decide +kernel
theorem d_M_one_56 : decode Y_M_one.2.1 56 = .ok (.aload_n 0, 1) := by decide +kernel
theorem d_M_one_57 : decode Y_M_one.2.1 57 = .ok (.getfield 82, 3) := by decide +kernel
theorem d_M_one_60 : decode Y_M_one.2.1 60 = .ok (.iload_n 2, 1) := by decide +kernel
theorem d_M_one_61 : decode Y_M_one.2.1 61 = .ok (.aload_n 0, 1) := by decide +kernel
theorem d_M_one_62 : decode Y_M_one.2.1 62 = .ok (.getfield 130, 3) := by decide +kernel
theorem d_M_one_65 : decode Y_M_one.2.1 65 = .ok (.bipush 8, 2) := by decide +kernel
theorem d_M_one_67 : decode Y_M_one.2.1 67 = .ok (.iload_n 1, 1) := by decide +kernel
theorem d_M_one_68 : decode Y_M_one.2.1 68 = .ok (.imul, 1) := by decide +kernel
theorem d_M_one_69 : decode Y_M_one.2.1 69 = .ok (.iload_n 2, 1) := by decide +kernel
theorem d_M_one_70 : decode Y_M_one.2.1 70 = .ok (.iadd, 1) := by decide +kernel
theorem d_M_one_71 : decode Y_M_one.2.1 71 = .ok (.iaload, 1) := by decide +kernel
theorem d_M_one_72 : decode Y_M_one.2.1 72 = .ok (.iastore, 1) := by decide +kernel
theorem d_M_one_73 : decode Y_M_one.2.1 73 = .ok (.iinc 2 1, 3) := by decide +kernel
theorem d_M_one_76 : decode Y_M_one.2.1 76 = .ok (.goto (-28), 3) := by decide +kernel
theorem d_M_one_79 : decode Y_M_one.2.1 79 = .ok (.aload_n 0, 1) := by decide +kernel
theorem d_M_one_80 : decode Y_M_one.2.1 80 = .ok (.invokevirtual 384, 3) := by decide +kernel
theorem d_M_one_83 : decode Y_M_one.2.1 83 = .ok (.iconst 1, 1) := by decide +kernel
theorem d_M_one_84 : decode Y_M_one.2.1 84 = .ok (.istore_n 2, 1) := by decide +kernel
theorem d_M_one_85 : decode Y_M_one.2.1 85 = .ok (.iconst 0, 1) := by decide +kernel
theorem d_M_one_86 : decode Y_M_one.2.1 86 = .ok (.istore_n 3, 1) := by decide +kernel
theorem d_M_one_87 : decode Y_M_one.2.1 87 = .ok (.iload_n 3, 1) := by decide +kernel
theorem d_M_one_88 : decode Y_M_one.2.1 88 = .ok (.aload_n 0, 1) := by decide +kernel
theorem d_M_one_89 : decode Y_M_one.2.1 89 = .ok (.invokevirtual 338, 3) := by decide +kernel
theorem d_M_one_92 : decode Y_M_one.2.1 92 = .ok (.if_icmp .ge 26, 3) := by decide +kernel
theorem d_M_one_95 : decode Y_M_one.2.1 95 = .ok (.aload_n 0, 1) := by decide +kernel
theorem d_M_one_96 : decode Y_M_one.2.1 96 = .ok (.getfield 82, 3) := by decide +kernel
theorem d_M_one_99 : decode Y_M_one.2.1 99 = .ok (.iload_n 3, 1) := by decide +kernel
theorem d_M_one_100 : decode Y_M_one.2.1 100 = .ok (.iaload, 1) := by decide +kernel
theorem d_M_one_101 : decode Y_M_one.2.1 101 = .ok (.aload_n 0, 1) := by decide +kernel
theorem d_M_one_102 : decode Y_M_one.2.1 102 = .ok (.getfield 97, 3) := by decide +kernel
theorem d_M_one_105 : decode Y_M_one.2.1 105 = .ok (.iload_n 3, 1) := by decide +kernel
theorem d_M_one_106 : decode Y_M_one.2.1 106 = .ok (.iaload, 1) := by decide +kernel
theorem d_M_one_107 : decode Y_M_one.2.1 107 = .ok (.if_icmp .eq 5, 3) := by decide +kernel
theorem d_M_one_110 : decode Y_M_one.2.1 110 = .ok (.iconst 0, 1) := by decide +kernel
theorem d_M_one_111 : decode Y_M_one.2.1 111 = .ok (.istore_n 2, 1) := by decide +kernel
theorem d_M_one_112 : decode Y_M_one.2.1 112 = .ok (.iinc 3 1, 3) := by decide +kernel
theorem d_M_one_115 : decode Y_M_one.2.1 115 = .ok (.goto (-28), 3) := by decide +kernel
theorem d_M_one_118 : decode Y_M_one.2.1 118 = .ok (.iload_n 2, 1) := by decide +kernel
theorem d_M_one_119 : decode Y_M_one.2.1 119 = .ok (.ireturn, 1) := by decide +kernel
theorem e_M_one {l : Launch} {G : GT} {d : Nat} {P : Int → MM → Prop} {m : MM} (x1 : Int)  (H : wfM m → inR x1 → ∃ (e1 : Nat) (P2 : Int → MM → Prop), e1 < d ∧ CI l G Y_M_isBox e1 [.inr (.inr 70), .inl x1] m P2 ∧ (∀ z7 m8, P2 z7 m8 → inR z7 → wfM m8 → ((z7 ≠ 0 → (∃ (e17 : Nat) (P18 : MM → Prop), e17 < d ∧ CV l G Y_M_layNow e17 [.inr (.inr 70)] m8 P18 ∧ (∀ m24, P18 m24 → wfM m24 → (∃ (e28 : Nat) (P29 : MM → Prop), e28 < d ∧ CV l G Y_M_makeOwn e28 [.inr (.inr 70)] m24 P29 ∧ (∀ m35, P29 m35 → wfM m35 → (Wq l G false Y_M_one d (QI P) 20 [(0, .inr (.inr 70)), (1, .inl x1), (2, .inl 0)] [] m35)))))) ∧ (¬ (z7 ≠ 0) → (P (-1) m8))))) : CI l G Y_M_one d [.inr (.inr 70), .inl x1] m P := by
  refine CI.of [(0, .inr (.inr 70)), (1, .inl x1)] k_M_one.1 (Nat.le_of_ble_eq_true rfl) rfl (Wp.wf (fun hw _ hl hs => ?_))
  have H0 := H hw (hl _ (List.mem_of_getElem? (i := 1) rfl))
  refine Wp.aload_n 0 0 d_M_one_0 rfl rfl ?_
  refine Wp.iload_n 1 1 d_M_one_1 rfl rfl ?_
  obtain ⟨e1, P2, hd3, ho4, H5⟩ := H0
  refine Wq.VI (st := []) [.inl x1] d_M_one_2 k_M_isBox ml_M_456 rfl rfl rfl (fun h => by cases h) (Nat.le_of_ble_eq_true rfl) hd3 ho4 (fun z7 m8 hp9 hz10 hw11 => ?_)
  have H6 := H5 z7 m8 hp9 hz10 hw11
  obtain ⟨H13, H14⟩ := H6
  refine Wp.if_ne 10 d_M_one_5 (by decide) (fun c12 => ?_) (fun c12 => ?_)
  · have H15 := H13 c12
    refine Wp.aload_n 0 0 d_M_one_10 rfl rfl ?_
    obtain ⟨e17, P18, hd19, ho20, H21⟩ := H15
    refine Wq.VV (st := []) [] d_M_one_11 k_M_layNow ml_M_378 rfl rfl rfl (fun h => by cases h) (Nat.le_of_ble_eq_true rfl) hd19 ho20 (fun m24 hp25 hw27 => ?_)
    have H22 := H21 m24 hp25 hw27
    refine Wp.aload_n 0 0 d_M_one_14 rfl rfl ?_
    obtain ⟨e28, P29, hd30, ho31, H32⟩ := H22
    refine Wq.VV (st := []) [] d_M_one_15 k_M_makeOwn ml_M_384 rfl rfl rfl (fun h => by cases h) (Nat.le_of_ble_eq_true rfl) hd30 ho31 (fun m35 hp36 hw38 => ?_)
    have H33 := H32 m35 hp36 hw38
    refine Wp.iconst d_M_one_18 (by decide) ?_
    refine Wp.istore_n 2 [(0, .inr (.inr 70)), (1, .inl x1), (2, .inl 0)] d_M_one_19 rfl (by decide) rfl ?_
    exact H33
  · have H16 := H14 c12
    refine Wp.iconst d_M_one_8 (by decide) ?_
    exact Wq.iret d_M_one_9 rfl H16
theorem s_M_one_20 {l : Launch} {G : GT} {d : Nat} {P : Int → MM → Prop} {m : MM} (x1 : Int) (x2 : Int)  (H : wfM m → inR x1 → inR x2 → ∃ (e1 : Nat) (P2 : Int → MM → Prop), e1 < d ∧ CI l G Y_M_lots e1 [.inr (.inr 70)] m P2 ∧ (∀ z7 m8, P2 z7 m8 → inR z7 → wfM m8 → ((x2 ≥ z7 → (Wq l G false Y_M_one d (QI P) 48 [(0, .inr (.inr 70)), (1, .inl x1), (2, .inl 0)] [] m8)) ∧ (¬ (x2 ≥ z7) → ((0 ≤ x2 ∧ x2 < (5 : Int)) ∧ ((0 ≤ x2 ∧ x2 < (5 : Int)) ∧ (∀ m19, m19 = up m8 98 x2 (m8 93 x2) → ((inR (x2 + 1)) ∧ (Wq l G false Y_M_one d (QI P) 20 [(0, .inr (.inr 70)), (1, .inl x1), (2, .inl (x2 + 1))] [] m19))))))))) : Wq l G false Y_M_one d (QI P) 20 [(0, .inr (.inr 70)), (1, .inl x1), (2, .inl x2)] [] m := by
  refine Wp.wf (fun hw _ hl hs => ?_)
  have H0 := H hw (hl _ (List.mem_of_getElem? (i := 1) rfl)) (hl _ (List.mem_of_getElem? (i := 2) rfl))
  refine Wp.iload_n 2 2 d_M_one_20 rfl rfl ?_
  refine Wp.aload_n 0 0 d_M_one_21 rfl rfl ?_
  obtain ⟨e1, P2, hd3, ho4, H5⟩ := H0
  refine Wq.VI (st := [.inl x2]) [] d_M_one_22 k_M_lots ml_M_338 rfl rfl rfl (fun h => by cases h) (Nat.le_of_ble_eq_true rfl) hd3 ho4 (fun z7 m8 hp9 hz10 hw11 => ?_)
  have H6 := H5 z7 m8 hp9 hz10 hw11
  obtain ⟨H13, H14⟩ := H6
  refine Wp.icmp_ge 46 d_M_one_25 (by decide) (fun c12 => ?_) (fun c12 => ?_)
  · have H15 := H13 c12
    refine Wp.iconst d_M_one_46 (by decide) ?_
    refine Wp.istore_n 2 [(0, .inr (.inr 70)), (1, .inl x1), (2, .inl 0)] d_M_one_47 rfl (by decide) rfl ?_
    exact H15
  · have H16 := H14 c12
    refine Wp.aload_n 0 0 d_M_one_28 rfl rfl ?_
    refine Wp.getP 98 d_M_one_29 fl_M_97 rfl rfl rfl ?_
    refine Wp.iload_n 2 2 d_M_one_32 rfl rfl ?_
    refine Wp.aload_n 0 0 d_M_one_33 rfl rfl ?_
    refine Wp.getP 93 d_M_one_34 fl_M_82 rfl rfl rfl ?_
    refine Wp.iload_n 2 2 d_M_one_37 rfl rfl ?_
    obtain ⟨s17, H18⟩ := H16
    refine Wp.iald d_M_one_38 rfl (Or.inl rfl) s17.1 s17.2 ?_
    obtain ⟨s26, H27⟩ := H18
    refine Wq.iast d_M_one_39 rfl s26.1 s26.2 (fun m19 hm20 => ?_)
    have H21 := H27 m19 hm20
    obtain ⟨s24, H25⟩ := H21
    refine Wp.iinc 2 2 [(0, .inr (.inr 70)), (1, .inl x1), (2, .inl (x2 + 1))] d_M_one_40 rfl s24 (by decide) rfl ?_
    refine Wp.goto 20 d_M_one_43 (by decide) ?_
    exact H25
theorem s_M_one_48 {l : Launch} {G : GT} {d : Nat} {P : Int → MM → Prop} {m : MM} (x1 : Int) (x2 : Int)  (H : wfM m → inR x1 → inR x2 → ∃ (e1 : Nat) (P2 : Int → MM → Prop), e1 < d ∧ CI l G Y_M_lots e1 [.inr (.inr 70)] m P2 ∧ (∀ z7 m8, P2 z7 m8 → inR z7 → wfM m8 → ((x2 ≥ z7 → (∃ (e17 : Nat) (P18 : MM → Prop), e17 < d ∧ CV l G Y_M_makeOwn e17 [.inr (.inr 70)] m8 P18 ∧ (∀ m24, P18 m24 → wfM m24 → (Wq l G false Y_M_one d (QI P) 87 [(0, .inr (.inr 70)), (2, .inl 1), (3, .inl 0)] [] m24)))) ∧ (¬ (x2 ≥ z7) → ((inR (8 * x1)) ∧ ((inR ((8 * x1) + x2)) ∧ ((0 ≤ ((8 * x1) + x2) ∧ ((8 * x1) + x2) < (24 : Int)) ∧ ((0 ≤ x2 ∧ x2 < (5 : Int)) ∧ (∀ m34, m34 = up m8 93 x2 (m8 109 ((8 * x1) + x2)) → ((inR (x2 + 1)) ∧ (Wq l G false Y_M_one d (QI P) 48 [(0, .inr (.inr 70)), (1, .inl x1), (2, .inl (x2 + 1))] [] m34))))))))))) : Wq l G false Y_M_one d (QI P) 48 [(0, .inr (.inr 70)), (1, .inl x1), (2, .inl x2)] [] m := by
  refine Wp.wf (fun hw _ hl hs => ?_)
  have H0 := H hw (hl _ (List.mem_of_getElem? (i := 1) rfl)) (hl _ (List.mem_of_getElem? (i := 2) rfl))
  refine Wp.iload_n 2 2 d_M_one_48 rfl rfl ?_
  refine Wp.aload_n 0 0 d_M_one_49 rfl rfl ?_
  obtain ⟨e1, P2, hd3, ho4, H5⟩ := H0
  refine Wq.VI (st := [.inl x2]) [] d_M_one_50 k_M_lots ml_M_338 rfl rfl rfl (fun h => by cases h) (Nat.le_of_ble_eq_true rfl) hd3 ho4 (fun z7 m8 hp9 hz10 hw11 => ?_)
  have H6 := H5 z7 m8 hp9 hz10 hw11
  obtain ⟨H13, H14⟩ := H6
  refine Wp.icmp_ge 79 d_M_one_53 (by decide) (fun c12 => ?_) (fun c12 => ?_)
  · have H15 := H13 c12
    refine Wp.aload_n 0 0 d_M_one_79 rfl rfl ?_
    obtain ⟨e17, P18, hd19, ho20, H21⟩ := H15
    refine Wq.VV (st := []) [] d_M_one_80 k_M_makeOwn ml_M_384 rfl rfl rfl (fun h => by cases h) (Nat.le_of_ble_eq_true rfl) hd19 ho20 (fun m24 hp25 hw27 => ?_)
    have H22 := H21 m24 hp25 hw27
    refine Wp.iconst d_M_one_83 (by decide) ?_
    refine Wp.istore_n 2 [(0, .inr (.inr 70)), (1, .inl x1), (2, .inl 1)] d_M_one_84 rfl (by decide) rfl ?_
    refine Wp.iconst d_M_one_85 (by decide) ?_
    refine Wp.istore_n 3 [(0, .inr (.inr 70)), (1, .inl x1), (2, .inl 1), (3, .inl 0)] d_M_one_86 rfl (by decide) rfl ?_
    refine Wp.pick [0, 2, 3] [(0, .inr (.inr 70)), (2, .inl 1), (3, .inl 0)] rfl ?_
    exact H22
  · have H16 := H14 c12
    refine Wp.aload_n 0 0 d_M_one_56 rfl rfl ?_
    refine Wp.getP 93 d_M_one_57 fl_M_82 rfl rfl rfl ?_
    refine Wp.iload_n 2 2 d_M_one_60 rfl rfl ?_
    refine Wp.aload_n 0 0 d_M_one_61 rfl rfl ?_
    refine Wp.getP 109 d_M_one_62 fl_M_130 rfl rfl rfl ?_
    refine Wp.bipush d_M_one_65 (by decide) (by decide) ?_
    refine Wp.iload_n 1 1 d_M_one_67 rfl rfl ?_
    obtain ⟨s28, H29⟩ := H16
    refine Wp.imul d_M_one_68 s28 ?_
    refine Wp.iload_n 2 2 d_M_one_69 rfl rfl ?_
    obtain ⟨s30, H31⟩ := H29
    refine Wp.iadd d_M_one_70 s30 ?_
    obtain ⟨s32, H33⟩ := H31
    refine Wp.iald d_M_one_71 rfl (Or.inl rfl) s32.1 s32.2 ?_
    obtain ⟨s41, H42⟩ := H33
    refine Wq.iast d_M_one_72 rfl s41.1 s41.2 (fun m34 hm35 => ?_)
    have H36 := H42 m34 hm35
    obtain ⟨s39, H40⟩ := H36
    refine Wp.iinc 2 2 [(0, .inr (.inr 70)), (1, .inl x1), (2, .inl (x2 + 1))] d_M_one_73 rfl s39 (by decide) rfl ?_
    refine Wp.goto 48 d_M_one_76 (by decide) ?_
    exact H40
theorem s_M_one_87 {l : Launch} {G : GT} {d : Nat} {P : Int → MM → Prop} {m : MM} (x2 : Int) (x3 : Int)  (H : wfM m → inR x2 → inR x3 → ∃ (e1 : Nat) (P2 : Int → MM → Prop), e1 < d ∧ CI l G Y_M_lots e1 [.inr (.inr 70)] m P2 ∧ (∀ z7 m8, P2 z7 m8 → inR z7 → wfM m8 → ((x3 ≥ z7 → (P x2 m8)) ∧ (¬ (x3 ≥ z7) → ((0 ≤ x3 ∧ x3 < (5 : Int)) ∧ ((0 ≤ x3 ∧ x3 < (5 : Int)) ∧ (((m8 93 x3) = (m8 98 x3) → ((inR (x3 + 1)) ∧ (Wq l G false Y_M_one d (QI P) 87 [(0, .inr (.inr 70)), (2, .inl x2), (3, .inl (x3 + 1))] [] m8))) ∧ (¬ ((m8 93 x3) = (m8 98 x3)) → ((inR (x3 + 1)) ∧ (Wq l G false Y_M_one d (QI P) 87 [(0, .inr (.inr 70)), (2, .inl 0), (3, .inl (x3 + 1))] [] m8)))))))))) : Wq l G false Y_M_one d (QI P) 87 [(0, .inr (.inr 70)), (2, .inl x2), (3, .inl x3)] [] m := by
  refine Wp.wf (fun hw _ hl hs => ?_)
  have H0 := H hw (hl _ (List.mem_of_getElem? (i := 1) rfl)) (hl _ (List.mem_of_getElem? (i := 2) rfl))
  refine Wp.iload_n 2 3 d_M_one_87 rfl rfl ?_
  refine Wp.aload_n 0 0 d_M_one_88 rfl rfl ?_
  obtain ⟨e1, P2, hd3, ho4, H5⟩ := H0
  refine Wq.VI (st := [.inl x3]) [] d_M_one_89 k_M_lots ml_M_338 rfl rfl rfl (fun h => by cases h) (Nat.le_of_ble_eq_true rfl) hd3 ho4 (fun z7 m8 hp9 hz10 hw11 => ?_)
  have H6 := H5 z7 m8 hp9 hz10 hw11
  obtain ⟨H13, H14⟩ := H6
  refine Wp.icmp_ge 118 d_M_one_92 (by decide) (fun c12 => ?_) (fun c12 => ?_)
  · have H15 := H13 c12
    refine Wp.iload_n 1 2 d_M_one_118 rfl rfl ?_
    exact Wq.iret d_M_one_119 rfl H15
  · have H16 := H14 c12
    refine Wp.aload_n 0 0 d_M_one_95 rfl rfl ?_
    refine Wp.getP 93 d_M_one_96 fl_M_82 rfl rfl rfl ?_
    refine Wp.iload_n 2 3 d_M_one_99 rfl rfl ?_
    obtain ⟨s17, H18⟩ := H16
    refine Wp.iald d_M_one_100 rfl (Or.inl rfl) s17.1 s17.2 ?_
    refine Wp.aload_n 0 0 d_M_one_101 rfl rfl ?_
    refine Wp.getP 98 d_M_one_102 fl_M_97 rfl rfl rfl ?_
    refine Wp.iload_n 2 3 d_M_one_105 rfl rfl ?_
    obtain ⟨s19, H20⟩ := H18
    refine Wp.iald d_M_one_106 rfl (Or.inl rfl) s19.1 s19.2 ?_
    obtain ⟨H22, H23⟩ := H20
    refine Wp.icmp_eq 112 d_M_one_107 (by decide) (fun c21 => ?_) (fun c21 => ?_)
    · have H24 := H22 c21
      obtain ⟨s26, H27⟩ := H24
      refine Wp.iinc 2 3 [(0, .inr (.inr 70)), (2, .inl x2), (3, .inl (x3 + 1))] d_M_one_112 rfl s26 (by decide) rfl ?_
      refine Wp.goto 87 d_M_one_115 (by decide) ?_
      exact H27
    · have H25 := H23 c21
      refine Wp.iconst d_M_one_110 (by decide) ?_
      refine Wp.istore_n 2 [(0, .inr (.inr 70)), (2, .inl 0), (3, .inl x3)] d_M_one_111 rfl (by decide) rfl ?_
      obtain ⟨s28, H29⟩ := H25
      refine Wp.iinc 2 3 [(0, .inr (.inr 70)), (2, .inl 0), (3, .inl (x3 + 1))] d_M_one_112 rfl s28 (by decide) rfl ?_
      refine Wp.goto 87 d_M_one_115 (by decide) ?_
      exact H29
theorem d_M_cycle_0 : decode Y_M_cycle.2.1 0 = .ok (.aload_n 0, 1) := by decide +kernel
theorem d_M_cycle_1 : decode Y_M_cycle.2.1 1 = .ok (.invokevirtual 378, 3) := by decide +kernel
theorem d_M_cycle_4 : decode Y_M_cycle.2.1 4 = .ok (.aload_n 0, 1) := by decide +kernel
theorem d_M_cycle_5 : decode Y_M_cycle.2.1 5 = .ok (.invokevirtual 462, 3) := by decide +kernel
theorem d_M_cycle_8 : decode Y_M_cycle.2.1 8 = .ok (.ireturn, 1) := by decide +kernel
theorem e_M_cycle {l : Launch} {G : GT} {d : Nat} {P : Int → MM → Prop} {m : MM}   (H : wfM m → ∃ (e1 : Nat) (P2 : MM → Prop), e1 < d ∧ CV l G Y_M_layNow e1 [.inr (.inr 70)] m P2 ∧ (∀ m8, P2 m8 → wfM m8 → (∃ (e12 : Nat) (P13 : Int → MM → Prop), e12 < d ∧ CI l G Y_M_turnsOf e12 [.inr (.inr 70)] m8 P13 ∧ (∀ z18 m19, P13 z18 m19 → inR z18 → wfM m19 → (P z18 m19))))) : CI l G Y_M_cycle d [.inr (.inr 70)] m P := by
  refine CI.of [(0, .inr (.inr 70))] k_M_cycle.1 (Nat.le_of_ble_eq_true rfl) rfl (Wp.wf (fun hw _ hl hs => ?_))
  have H0 := H hw
  refine Wp.aload_n 0 0 d_M_cycle_0 rfl rfl ?_
  obtain ⟨e1, P2, hd3, ho4, H5⟩ := H0
  refine Wq.VV (st := []) [] d_M_cycle_1 k_M_layNow ml_M_378 rfl rfl rfl (fun h => by cases h) (Nat.le_of_ble_eq_true rfl) hd3 ho4 (fun m8 hp9 hw11 => ?_)
  have H6 := H5 m8 hp9 hw11
  refine Wp.aload_n 0 0 d_M_cycle_4 rfl rfl ?_
  obtain ⟨e12, P13, hd14, ho15, H16⟩ := H6
  refine Wq.VI (st := []) [] d_M_cycle_5 k_M_turnsOf ml_M_462 rfl rfl rfl (fun h => by cases h) (Nat.le_of_ble_eq_true rfl) hd14 ho15 (fun z18 m19 hp20 hz21 hw22 => ?_)
  have H17 := H16 z18 m19 hp20 hz21 hw22
  exact Wq.iret d_M_cycle_8 rfl H17
theorem d_M_turnsOf_0 : decode Y_M_turnsOf.2.1 0 = .ok (.aload_n 0, 1) := by decide +kernel
theorem d_M_turnsOf_1 : decode Y_M_turnsOf.2.1 1 = .ok (.invokevirtual 384, 3) := by decide +kernel
theorem d_M_turnsOf_4 : decode Y_M_turnsOf.2.1 4 = .ok (.iconst 0, 1) := by decide +kernel
theorem d_M_turnsOf_5 : decode Y_M_turnsOf.2.1 5 = .ok (.istore_n 1, 1) := by decide +kernel
theorem d_M_turnsOf_6 : decode Y_M_turnsOf.2.1 6 = .ok (.iload_n 1, 1) := by decide +kernel
theorem d_M_turnsOf_7 : decode Y_M_turnsOf.2.1 7 = .ok (.aload_n 0, 1) := by decide +kernel
theorem d_M_turnsOf_8 : decode Y_M_turnsOf.2.1 8 = .ok (.invokevirtual 338, 3) := by decide +kernel
theorem d_M_turnsOf_11 : decode Y_M_turnsOf.2.1 11 = .ok (.if_icmp .ge 21, 3) := by decide +kernel
theorem d_M_turnsOf_14 : decode Y_M_turnsOf.2.1 14 = .ok (.aload_n 0, 1) := by decide +kernel
theorem d_M_turnsOf_15 : decode Y_M_turnsOf.2.1 15 = .ok (.getfield 97, 3) := by decide +kernel
theorem d_M_turnsOf_18 : decode Y_M_turnsOf.2.1 18 = .ok (.iload_n 1, 1) := by decide +kernel
theorem d_M_turnsOf_19 : decode Y_M_turnsOf.2.1 19 = .ok (.aload_n 0, 1) := by decide +kernel
theorem d_M_turnsOf_20 : decode Y_M_turnsOf.2.1 20 = .ok (.getfield 82, 3) := by decide +kernel
theorem d_M_turnsOf_23 : decode Y_M_turnsOf.2.1 23 = .ok (.iload_n 1, 1) := by decide +kernel
theorem d_M_turnsOf_24 : decode Y_M_turnsOf.2.1 24 = .ok (.iaload, 1) := by decide +kernel
theorem d_M_turnsOf_25 : decode Y_M_turnsOf.2.1 25 = .ok (.iastore, 1) := by decide +kernel
theorem d_M_turnsOf_26 : decode Y_M_turnsOf.2.1 26 = .ok (.iinc 1 1, 3) := by decide +kernel
theorem d_M_turnsOf_29 : decode Y_M_turnsOf.2.1 29 = .ok (.goto (-23), 3) := by decide +kernel
theorem d_M_turnsOf_32 : decode Y_M_turnsOf.2.1 32 = .ok (.iconst 1, 1) := by decide +kernel
theorem d_M_turnsOf_33 : decode Y_M_turnsOf.2.1 33 = .ok (.istore_n 1, 1) := by decide +kernel
theorem d_M_turnsOf_34 : decode Y_M_turnsOf.2.1 34 = .ok (.iload_n 1, 1) := by decide +kernel
theorem d_M_turnsOf_35 : decode Y_M_turnsOf.2.1 35 = .ok (.sipush 2000, 3) := by decide +kernel
theorem d_M_turnsOf_38 : decode Y_M_turnsOf.2.1 38 = .ok (.if_icmp .gt 54, 3) := by decide +kernel
theorem d_M_turnsOf_41 : decode Y_M_turnsOf.2.1 41 = .ok (.aload_n 0, 1) := by decide +kernel
theorem d_M_turnsOf_42 : decode Y_M_turnsOf.2.1 42 = .ok (.invokevirtual 459, 3) := by decide +kernel
theorem d_M_turnsOf_45 : decode Y_M_turnsOf.2.1 45 = .ok (.ifCond .eq 5, 3) := by decide +kernel
theorem d_M_turnsOf_48 : decode Y_M_turnsOf.2.1 48 = .ok (.iload_n 1, 1) := by decide +kernel
theorem d_M_turnsOf_49 : decode Y_M_turnsOf.2.1 49 = .ok (.ireturn, 1) := by decide +kernel
theorem d_M_turnsOf_50 : decode Y_M_turnsOf.2.1 50 = .ok (.iconst 0, 1) := by decide +kernel
theorem d_M_turnsOf_51 : decode Y_M_turnsOf.2.1 51 = .ok (.istore_n 2, 1) := by decide +kernel
theorem d_M_turnsOf_52 : decode Y_M_turnsOf.2.1 52 = .ok (.iload_n 2, 1) := by decide +kernel
theorem d_M_turnsOf_53 : decode Y_M_turnsOf.2.1 53 = .ok (.aload_n 0, 1) := by decide +kernel
theorem d_M_turnsOf_54 : decode Y_M_turnsOf.2.1 54 = .ok (.invokevirtual 338, 3) := by decide +kernel
theorem d_M_turnsOf_57 : decode Y_M_turnsOf.2.1 57 = .ok (.if_icmp .ge 24, 3) := by decide +kernel
theorem d_M_turnsOf_60 : decode Y_M_turnsOf.2.1 60 = .ok (.aload_n 0, 1) := by decide +kernel
theorem d_M_turnsOf_61 : decode Y_M_turnsOf.2.1 61 = .ok (.getfield 82, 3) := by decide +kernel
theorem d_M_turnsOf_64 : decode Y_M_turnsOf.2.1 64 = .ok (.iload_n 2, 1) := by decide +kernel
theorem d_M_turnsOf_65 : decode Y_M_turnsOf.2.1 65 = .ok (.dup2, 1) := by decide +kernel
theorem d_M_turnsOf_66 : decode Y_M_turnsOf.2.1 66 = .ok (.iaload, 1) := by decide +kernel
theorem d_M_turnsOf_67 : decode Y_M_turnsOf.2.1 67 = .ok (.aload_n 0, 1) := by decide +kernel
theorem d_M_turnsOf_68 : decode Y_M_turnsOf.2.1 68 = .ok (.getfield 97, 3) := by decide +kernel
theorem d_M_turnsOf_71 : decode Y_M_turnsOf.2.1 71 = .ok (.iload_n 2, 1) := by decide +kernel
theorem d_M_turnsOf_72 : decode Y_M_turnsOf.2.1 72 = .ok (.iaload, 1) := by decide +kernel
theorem d_M_turnsOf_73 : decode Y_M_turnsOf.2.1 73 = .ok (.iadd, 1) := by decide +kernel
theorem d_M_turnsOf_74 : decode Y_M_turnsOf.2.1 74 = .ok (.iastore, 1) := by decide +kernel
theorem d_M_turnsOf_75 : decode Y_M_turnsOf.2.1 75 = .ok (.iinc 2 1, 3) := by decide +kernel
theorem d_M_turnsOf_78 : decode Y_M_turnsOf.2.1 78 = .ok (.goto (-26), 3) := by decide +kernel
theorem d_M_turnsOf_81 : decode Y_M_turnsOf.2.1 81 = .ok (.aload_n 0, 1) := by decide +kernel
theorem d_M_turnsOf_82 : decode Y_M_turnsOf.2.1 82 = .ok (.invokevirtual 381, 3) := by decide +kernel
theorem d_M_turnsOf_85 : decode Y_M_turnsOf.2.1 85 = .ok (.istore_n 2, 1) := by decide +kernel
theorem d_M_turnsOf_86 : decode Y_M_turnsOf.2.1 86 = .ok (.iinc 1 1, 3) := by decide +kernel
theorem d_M_turnsOf_89 : decode Y_M_turnsOf.2.1 89 = .ok (.goto (-55), 3) := by decide +kernel
theorem d_M_turnsOf_92 : decode Y_M_turnsOf.2.1 92 = .ok (.iconst (-1), 1) := by decide +kernel
theorem d_M_turnsOf_93 : decode Y_M_turnsOf.2.1 93 = .ok (.ireturn, 1) := by decide +kernel
theorem e_M_turnsOf {l : Launch} {G : GT} {d : Nat} {P : Int → MM → Prop} {m : MM}   (H : wfM m → ∃ (e1 : Nat) (P2 : MM → Prop), e1 < d ∧ CV l G Y_M_makeOwn e1 [.inr (.inr 70)] m P2 ∧ (∀ m8, P2 m8 → wfM m8 → (Wq l G false Y_M_turnsOf d (QI P) 6 [(0, .inr (.inr 70)), (1, .inl 0)] [] m8))) : CI l G Y_M_turnsOf d [.inr (.inr 70)] m P := by
  refine CI.of [(0, .inr (.inr 70))] k_M_turnsOf.1 (Nat.le_of_ble_eq_true rfl) rfl (Wp.wf (fun hw _ hl hs => ?_))
  have H0 := H hw
  refine Wp.aload_n 0 0 d_M_turnsOf_0 rfl rfl ?_
  obtain ⟨e1, P2, hd3, ho4, H5⟩ := H0
  refine Wq.VV (st := []) [] d_M_turnsOf_1 k_M_makeOwn ml_M_384 rfl rfl rfl (fun h => by cases h) (Nat.le_of_ble_eq_true rfl) hd3 ho4 (fun m8 hp9 hw11 => ?_)
  have H6 := H5 m8 hp9 hw11
  refine Wp.iconst d_M_turnsOf_4 (by decide) ?_
  refine Wp.istore_n 1 [(0, .inr (.inr 70)), (1, .inl 0)] d_M_turnsOf_5 rfl (by decide) rfl ?_
  exact H6
theorem s_M_turnsOf_6 {l : Launch} {G : GT} {d : Nat} {P : Int → MM → Prop} {m : MM} (x1 : Int)  (H : wfM m → inR x1 → ∃ (e1 : Nat) (P2 : Int → MM → Prop), e1 < d ∧ CI l G Y_M_lots e1 [.inr (.inr 70)] m P2 ∧ (∀ z7 m8, P2 z7 m8 → inR z7 → wfM m8 → ((x1 ≥ z7 → (Wq l G false Y_M_turnsOf d (QI P) 34 [(0, .inr (.inr 70)), (1, .inl 1)] [] m8)) ∧ (¬ (x1 ≥ z7) → ((0 ≤ x1 ∧ x1 < (5 : Int)) ∧ ((0 ≤ x1 ∧ x1 < (5 : Int)) ∧ (∀ m19, m19 = up m8 98 x1 (m8 93 x1) → ((inR (x1 + 1)) ∧ (Wq l G false Y_M_turnsOf d (QI P) 6 [(0, .inr (.inr 70)), (1, .inl (x1 + 1))] [] m19))))))))) : Wq l G false Y_M_turnsOf d (QI P) 6 [(0, .inr (.inr 70)), (1, .inl x1)] [] m := by
  refine Wp.wf (fun hw _ hl hs => ?_)
  have H0 := H hw (hl _ (List.mem_of_getElem? (i := 1) rfl))
  refine Wp.iload_n 1 1 d_M_turnsOf_6 rfl rfl ?_
  refine Wp.aload_n 0 0 d_M_turnsOf_7 rfl rfl ?_
  obtain ⟨e1, P2, hd3, ho4, H5⟩ := H0
  refine Wq.VI (st := [.inl x1]) [] d_M_turnsOf_8 k_M_lots ml_M_338 rfl rfl rfl (fun h => by cases h) (Nat.le_of_ble_eq_true rfl) hd3 ho4 (fun z7 m8 hp9 hz10 hw11 => ?_)
  have H6 := H5 z7 m8 hp9 hz10 hw11
  obtain ⟨H13, H14⟩ := H6
  refine Wp.icmp_ge 32 d_M_turnsOf_11 (by decide) (fun c12 => ?_) (fun c12 => ?_)
  · have H15 := H13 c12
    refine Wp.iconst d_M_turnsOf_32 (by decide) ?_
    refine Wp.istore_n 1 [(0, .inr (.inr 70)), (1, .inl 1)] d_M_turnsOf_33 rfl (by decide) rfl ?_
    exact H15
  · have H16 := H14 c12
    refine Wp.aload_n 0 0 d_M_turnsOf_14 rfl rfl ?_
    refine Wp.getP 98 d_M_turnsOf_15 fl_M_97 rfl rfl rfl ?_
    refine Wp.iload_n 1 1 d_M_turnsOf_18 rfl rfl ?_
    refine Wp.aload_n 0 0 d_M_turnsOf_19 rfl rfl ?_
    refine Wp.getP 93 d_M_turnsOf_20 fl_M_82 rfl rfl rfl ?_
    refine Wp.iload_n 1 1 d_M_turnsOf_23 rfl rfl ?_
    obtain ⟨s17, H18⟩ := H16
    refine Wp.iald d_M_turnsOf_24 rfl (Or.inl rfl) s17.1 s17.2 ?_
    obtain ⟨s26, H27⟩ := H18
    refine Wq.iast d_M_turnsOf_25 rfl s26.1 s26.2 (fun m19 hm20 => ?_)
    have H21 := H27 m19 hm20
    obtain ⟨s24, H25⟩ := H21
    refine Wp.iinc 1 1 [(0, .inr (.inr 70)), (1, .inl (x1 + 1))] d_M_turnsOf_26 rfl s24 (by decide) rfl ?_
    refine Wp.goto 6 d_M_turnsOf_29 (by decide) ?_
    exact H25
theorem s_M_turnsOf_34 {l : Launch} {G : GT} {d : Nat} {P : Int → MM → Prop} {m : MM} (x1 : Int)  (H : wfM m → inR x1 → (x1 > 2000 → (P (-1) m)) ∧ (¬ (x1 > 2000) → (∃ (e6 : Nat) (P7 : Int → MM → Prop), e6 < d ∧ CI l G Y_M_isNought e6 [.inr (.inr 70)] m P7 ∧ (∀ z12 m13, P7 z12 m13 → inR z12 → wfM m13 → ((z12 = 0 → (Wq l G false Y_M_turnsOf d (QI P) 52 [(0, .inr (.inr 70)), (1, .inl x1), (2, .inl 0)] [] m13)) ∧ (¬ (z12 = 0) → (P x1 m13))))))) : Wq l G false Y_M_turnsOf d (QI P) 34 [(0, .inr (.inr 70)), (1, .inl x1)] [] m := by
  refine Wp.wf (fun hw _ hl hs => ?_)
  have H0 := H hw (hl _ (List.mem_of_getElem? (i := 1) rfl))
  refine Wp.iload_n 1 1 d_M_turnsOf_34 rfl rfl ?_
  refine Wp.sipush d_M_turnsOf_35 (by decide) (by decide) ?_
  obtain ⟨H2, H3⟩ := H0
  refine Wp.icmp_gt 92 d_M_turnsOf_38 (by decide) (fun c1 => ?_) (fun c1 => ?_)
  · have H4 := H2 c1
    refine Wp.iconst d_M_turnsOf_92 (by decide) ?_
    exact Wq.iret d_M_turnsOf_93 rfl H4
  · have H5 := H3 c1
    refine Wp.aload_n 0 0 d_M_turnsOf_41 rfl rfl ?_
    obtain ⟨e6, P7, hd8, ho9, H10⟩ := H5
    refine Wq.VI (st := []) [] d_M_turnsOf_42 k_M_isNought ml_M_459 rfl rfl rfl (fun h => by cases h) (Nat.le_of_ble_eq_true rfl) hd8 ho9 (fun z12 m13 hp14 hz15 hw16 => ?_)
    have H11 := H10 z12 m13 hp14 hz15 hw16
    obtain ⟨H18, H19⟩ := H11
    refine Wp.if_eq 50 d_M_turnsOf_45 (by decide) (fun c17 => ?_) (fun c17 => ?_)
    · have H20 := H18 c17
      refine Wp.iconst d_M_turnsOf_50 (by decide) ?_
      refine Wp.istore_n 2 [(0, .inr (.inr 70)), (1, .inl x1), (2, .inl 0)] d_M_turnsOf_51 rfl (by decide) rfl ?_
      exact H20
    · have H21 := H19 c17
      refine Wp.iload_n 1 1 d_M_turnsOf_48 rfl rfl ?_
      exact Wq.iret d_M_turnsOf_49 rfl H21
theorem s_M_turnsOf_52 {l : Launch} {G : GT} {d : Nat} {P : Int → MM → Prop} {m : MM} (x1 : Int) (x2 : Int)  (H : wfM m → inR x1 → inR x2 → ∃ (e1 : Nat) (P2 : Int → MM → Prop), e1 < d ∧ CI l G Y_M_lots e1 [.inr (.inr 70)] m P2 ∧ (∀ z7 m8, P2 z7 m8 → inR z7 → wfM m8 → ((x2 ≥ z7 → (∃ (e17 : Nat) (P18 : Int → MM → Prop), e17 < d ∧ CI l G Y_M_settleHeap e17 [.inr (.inr 70)] m8 P18 ∧ (∀ z23 m24, P18 z23 m24 → inR z23 → wfM m24 → ((inR (x1 + 1)) ∧ (Wq l G false Y_M_turnsOf d (QI P) 34 [(0, .inr (.inr 70)), (1, .inl (x1 + 1))] [] m24))))) ∧ (¬ (x2 ≥ z7) → ((0 ≤ x2 ∧ x2 < (5 : Int)) ∧ ((0 ≤ x2 ∧ x2 < (5 : Int)) ∧ ((inR ((m8 93 x2) + (m8 98 x2))) ∧ ((0 ≤ x2 ∧ x2 < (5 : Int)) ∧ (∀ m36, m36 = up m8 93 x2 ((m8 93 x2) + (m8 98 x2)) → ((inR (x2 + 1)) ∧ (Wq l G false Y_M_turnsOf d (QI P) 52 [(0, .inr (.inr 70)), (1, .inl x1), (2, .inl (x2 + 1))] [] m36))))))))))) : Wq l G false Y_M_turnsOf d (QI P) 52 [(0, .inr (.inr 70)), (1, .inl x1), (2, .inl x2)] [] m := by
  refine Wp.wf (fun hw _ hl hs => ?_)
  have H0 := H hw (hl _ (List.mem_of_getElem? (i := 1) rfl)) (hl _ (List.mem_of_getElem? (i := 2) rfl))
  refine Wp.iload_n 2 2 d_M_turnsOf_52 rfl rfl ?_
  refine Wp.aload_n 0 0 d_M_turnsOf_53 rfl rfl ?_
  obtain ⟨e1, P2, hd3, ho4, H5⟩ := H0
  refine Wq.VI (st := [.inl x2]) [] d_M_turnsOf_54 k_M_lots ml_M_338 rfl rfl rfl (fun h => by cases h) (Nat.le_of_ble_eq_true rfl) hd3 ho4 (fun z7 m8 hp9 hz10 hw11 => ?_)
  have H6 := H5 z7 m8 hp9 hz10 hw11
  obtain ⟨H13, H14⟩ := H6
  refine Wp.icmp_ge 81 d_M_turnsOf_57 (by decide) (fun c12 => ?_) (fun c12 => ?_)
  · have H15 := H13 c12
    refine Wp.aload_n 0 0 d_M_turnsOf_81 rfl rfl ?_
    obtain ⟨e17, P18, hd19, ho20, H21⟩ := H15
    refine Wq.VI (st := []) [] d_M_turnsOf_82 k_M_settleHeap ml_M_381 rfl rfl rfl (fun h => by cases h) (Nat.le_of_ble_eq_true rfl) hd19 ho20 (fun z23 m24 hp25 hz26 hw27 => ?_)
    have H22 := H21 z23 m24 hp25 hz26 hw27
    refine Wp.istore_n 2 [(0, .inr (.inr 70)), (1, .inl x1), (2, .inl z23)] d_M_turnsOf_85 rfl (by decide) rfl ?_
    obtain ⟨s28, H29⟩ := H22
    refine Wp.iinc 1 1 [(0, .inr (.inr 70)), (1, .inl (x1 + 1)), (2, .inl z23)] d_M_turnsOf_86 rfl s28 (by decide) rfl ?_
    refine Wp.goto 34 d_M_turnsOf_89 (by decide) ?_
    refine Wp.pick [0, 1] [(0, .inr (.inr 70)), (1, .inl (x1 + 1))] rfl ?_
    exact H29
  · have H16 := H14 c12
    refine Wp.aload_n 0 0 d_M_turnsOf_60 rfl rfl ?_
    refine Wp.getP 93 d_M_turnsOf_61 fl_M_82 rfl rfl rfl ?_
    refine Wp.iload_n 2 2 d_M_turnsOf_64 rfl rfl ?_
    refine Wp.dup2 d_M_turnsOf_65 rfl rfl ?_
    obtain ⟨s30, H31⟩ := H16
    refine Wp.iald d_M_turnsOf_66 rfl (Or.inl rfl) s30.1 s30.2 ?_
    refine Wp.aload_n 0 0 d_M_turnsOf_67 rfl rfl ?_
    refine Wp.getP 98 d_M_turnsOf_68 fl_M_97 rfl rfl rfl ?_
    refine Wp.iload_n 2 2 d_M_turnsOf_71 rfl rfl ?_
    obtain ⟨s32, H33⟩ := H31
    refine Wp.iald d_M_turnsOf_72 rfl (Or.inl rfl) s32.1 s32.2 ?_
    obtain ⟨s34, H35⟩ := H33
    refine Wp.iadd d_M_turnsOf_73 s34 ?_
    obtain ⟨s43, H44⟩ := H35
    refine Wq.iast d_M_turnsOf_74 rfl s43.1 s43.2 (fun m36 hm37 => ?_)
    have H38 := H44 m36 hm37
    obtain ⟨s41, H42⟩ := H38
    refine Wp.iinc 2 2 [(0, .inr (.inr 70)), (1, .inl x1), (2, .inl (x2 + 1))] d_M_turnsOf_75 rfl s41 (by decide) rfl ?_
    refine Wp.goto 52 d_M_turnsOf_78 (by decide) ?_
    exact H42
theorem d_M_isNought_0 : decode Y_M_isNought.2.1 0 = .ok (.iconst 0, 1) := by decide +kernel
theorem d_M_isNought_1 : decode Y_M_isNought.2.1 1 = .ok (.istore_n 1, 1) := by decide +kernel
theorem d_M_isNought_2 : decode Y_M_isNought.2.1 2 = .ok (.iload_n 1, 1) := by decide +kernel
theorem d_M_isNought_3 : decode Y_M_isNought.2.1 3 = .ok (.aload_n 0, 1) := by decide +kernel
theorem d_M_isNought_4 : decode Y_M_isNought.2.1 4 = .ok (.invokevirtual 338, 3) := by decide +kernel
theorem d_M_isNought_7 : decode Y_M_isNought.2.1 7 = .ok (.if_icmp .ge 26, 3) := by decide +kernel
theorem d_M_isNought_10 : decode Y_M_isNought.2.1 10 = .ok (.aload_n 0, 1) := by decide +kernel
theorem d_M_isNought_11 : decode Y_M_isNought.2.1 11 = .ok (.getfield 82, 3) := by decide +kernel
theorem d_M_isNought_14 : decode Y_M_isNought.2.1 14 = .ok (.iload_n 1, 1) := by decide +kernel
theorem d_M_isNought_15 : decode Y_M_isNought.2.1 15 = .ok (.iaload, 1) := by decide +kernel
theorem d_M_isNought_16 : decode Y_M_isNought.2.1 16 = .ok (.aload_n 0, 1) := by decide +kernel
theorem d_M_isNought_17 : decode Y_M_isNought.2.1 17 = .ok (.getfield 88, 3) := by decide +kernel
theorem d_M_isNought_20 : decode Y_M_isNought.2.1 20 = .ok (.iload_n 1, 1) := by decide +kernel
theorem d_M_isNought_21 : decode Y_M_isNought.2.1 21 = .ok (.iaload, 1) := by decide +kernel
theorem d_M_isNought_22 : decode Y_M_isNought.2.1 22 = .ok (.if_icmp .eq 5, 3) := by decide +kernel
theorem d_M_isNought_25 : decode Y_M_isNought.2.1 25 = .ok (.iconst 0, 1) := by decide +kernel
theorem d_M_isNought_26 : decode Y_M_isNought.2.1 26 = .ok (.ireturn, 1) := by decide +kernel
theorem d_M_isNought_27 : decode Y_M_isNought.2.1 27 = .ok (.iinc 1 1, 3) := by decide +kernel
theorem d_M_isNought_30 : decode Y_M_isNought.2.1 30 = .ok (.goto (-28), 3) := by decide +kernel
theorem d_M_isNought_33 : decode Y_M_isNought.2.1 33 = .ok (.iconst 1, 1) := by decide +kernel
theorem d_M_isNought_34 : decode Y_M_isNought.2.1 34 = .ok (.ireturn, 1) := by decide +kernel
theorem e_M_isNought {l : Launch} {G : GT} {d : Nat} {P : Int → MM → Prop} {m : MM}   (H : wfM m → Wq l G false Y_M_isNought d (QI P) 2 [(0, .inr (.inr 70)), (1, .inl 0)] [] m) : CI l G Y_M_isNought d [.inr (.inr 70)] m P := by
  refine CI.of [(0, .inr (.inr 70))] k_M_isNought.1 (Nat.le_of_ble_eq_true rfl) rfl (Wp.wf (fun hw _ hl hs => ?_))
  have H0 := H hw
  refine Wp.iconst d_M_isNought_0 (by decide) ?_
  refine Wp.istore_n 1 [(0, .inr (.inr 70)), (1, .inl 0)] d_M_isNought_1 rfl (by decide) rfl ?_
  exact H0
theorem s_M_isNought_2 {l : Launch} {G : GT} {d : Nat} {P : Int → MM → Prop} {m : MM} (x1 : Int)  (H : wfM m → inR x1 → ∃ (e1 : Nat) (P2 : Int → MM → Prop), e1 < d ∧ CI l G Y_M_lots e1 [.inr (.inr 70)] m P2 ∧ (∀ z7 m8, P2 z7 m8 → inR z7 → wfM m8 → ((x1 ≥ z7 → (P 1 m8)) ∧ (¬ (x1 ≥ z7) → ((0 ≤ x1 ∧ x1 < (5 : Int)) ∧ ((0 ≤ x1 ∧ x1 < (5 : Int)) ∧ (((m8 93 x1) = (m8 95 x1) → ((inR (x1 + 1)) ∧ (Wq l G false Y_M_isNought d (QI P) 2 [(0, .inr (.inr 70)), (1, .inl (x1 + 1))] [] m8))) ∧ (¬ ((m8 93 x1) = (m8 95 x1)) → (P 0 m8))))))))) : Wq l G false Y_M_isNought d (QI P) 2 [(0, .inr (.inr 70)), (1, .inl x1)] [] m := by
  refine Wp.wf (fun hw _ hl hs => ?_)
  have H0 := H hw (hl _ (List.mem_of_getElem? (i := 1) rfl))
  refine Wp.iload_n 1 1 d_M_isNought_2 rfl rfl ?_
  refine Wp.aload_n 0 0 d_M_isNought_3 rfl rfl ?_
  obtain ⟨e1, P2, hd3, ho4, H5⟩ := H0
  refine Wq.VI (st := [.inl x1]) [] d_M_isNought_4 k_M_lots ml_M_338 rfl rfl rfl (fun h => by cases h) (Nat.le_of_ble_eq_true rfl) hd3 ho4 (fun z7 m8 hp9 hz10 hw11 => ?_)
  have H6 := H5 z7 m8 hp9 hz10 hw11
  obtain ⟨H13, H14⟩ := H6
  refine Wp.icmp_ge 33 d_M_isNought_7 (by decide) (fun c12 => ?_) (fun c12 => ?_)
  · have H15 := H13 c12
    refine Wp.iconst d_M_isNought_33 (by decide) ?_
    exact Wq.zret d_M_isNought_34 rfl (by decide) H15
  · have H16 := H14 c12
    refine Wp.aload_n 0 0 d_M_isNought_10 rfl rfl ?_
    refine Wp.getP 93 d_M_isNought_11 fl_M_82 rfl rfl rfl ?_
    refine Wp.iload_n 1 1 d_M_isNought_14 rfl rfl ?_
    obtain ⟨s17, H18⟩ := H16
    refine Wp.iald d_M_isNought_15 rfl (Or.inl rfl) s17.1 s17.2 ?_
    refine Wp.aload_n 0 0 d_M_isNought_16 rfl rfl ?_
    refine Wp.getP 95 d_M_isNought_17 fl_M_88 rfl rfl rfl ?_
    refine Wp.iload_n 1 1 d_M_isNought_20 rfl rfl ?_
    obtain ⟨s19, H20⟩ := H18
    refine Wp.iald d_M_isNought_21 rfl (Or.inl rfl) s19.1 s19.2 ?_
    obtain ⟨H22, H23⟩ := H20
    refine Wp.icmp_eq 27 d_M_isNought_22 (by decide) (fun c21 => ?_) (fun c21 => ?_)
    · have H24 := H22 c21
      obtain ⟨s26, H27⟩ := H24
      refine Wp.iinc 1 1 [(0, .inr (.inr 70)), (1, .inl (x1 + 1))] d_M_isNought_27 rfl s26 (by decide) rfl ?_
      refine Wp.goto 2 d_M_isNought_30 (by decide) ?_
      exact H27
    · have H25 := H23 c21
      refine Wp.iconst d_M_isNought_25 (by decide) ?_
      exact Wq.zret d_M_isNought_26 rfl (by decide) H25
theorem d_M_wheel_0 : decode Y_M_wheel.2.1 0 = .ok (.aload_n 0, 1) := by decide +kernel
theorem d_M_wheel_1 : decode Y_M_wheel.2.1 1 = .ok (.iload_n 1, 1) := by decide +kernel
theorem d_M_wheel_2 : decode Y_M_wheel.2.1 2 = .ok (.invokevirtual 405, 3) := by decide +kernel
theorem d_M_wheel_5 : decode Y_M_wheel.2.1 5 = .ok (.ifCond .ne 5, 3) := by decide +kernel
theorem d_M_wheel_8 : decode Y_M_wheel.2.1 8 = .ok (.iconst (-1), 1) := by decide +kernel
theorem d_M_wheel_9 : decode Y_M_wheel.2.1 9 = .ok (.ireturn, 1) := by decide +kernel
theorem d_M_wheel_10 : decode Y_M_wheel.2.1 10 = .ok (.iconst 0, 1) := by decide +kernel
theorem d_M_wheel_11 : decode Y_M_wheel.2.1 11 = .ok (.istore_n 2, 1) := by decide +kernel
theorem d_M_wheel_12 : decode Y_M_wheel.2.1 12 = .ok (.iload_n 2, 1) := by decide +kernel
theorem d_M_wheel_13 : decode Y_M_wheel.2.1 13 = .ok (.aload_n 0, 1) := by decide +kernel
theorem d_M_wheel_14 : decode Y_M_wheel.2.1 14 = .ok (.invokevirtual 338, 3) := by decide +kernel
theorem d_M_wheel_17 : decode Y_M_wheel.2.1 17 = .ok (.if_icmp .ge 25, 3) := by decide +kernel
theorem d_M_wheel_20 : decode Y_M_wheel.2.1 20 = .ok (.aload_n 0, 1) := by decide +kernel
theorem d_M_wheel_21 : decode Y_M_wheel.2.1 21 = .ok (.getfield 82, 3) := by decide +kernel
theorem d_M_wheel_24 : decode Y_M_wheel.2.1 24 = .ok (.iload_n 2, 1) := by decide +kernel
theorem d_M_wheel_25 : decode Y_M_wheel.2.1 25 = .ok (.iload_n 2, 1) := by decide +kernel
theorem d_M_wheel_26 : decode Y_M_wheel.2.1 26 = .ok (.iload_n 1, 1) := by decide +kernel
theorem d_M_wheel_27 : decode Y_M_wheel.2.1 27 = .ok (.if_icmp .ne 7, 3) := by decide +kernel
theorem d_M_wheel_30 : decode Y_M_wheel.2.1 30 = .ok (.iconst 1, 1) := by decide +kernel
theorem d_M_wheel_31 : decode Y_M_wheel.2.1 31 = .ok (.goto 4, 3) := by decide +kernel
theorem d_M_wheel_34 : decode Y_M_wheel.2.1 34 = .ok (.iconst 0, 1) := by decide +kernel
theorem d_M_wheel_35 : decode Y_M_wheel.2.1 35 = .ok (.iastore, 1) := by decide +kernel
theorem d_M_wheel_36 : decode Y_M_wheel.2.1 36 = .ok (.iinc 2 1, 3) := by decide +kernel
theorem d_M_wheel_39 : decode Y_M_wheel.2.1 39 = .ok (.goto (-27), 3) := by decide +kernel
theorem d_M_wheel_42 : decode Y_M_wheel.2.1 42 = .ok (.aload_n 0, 1) := by decide +kernel
theorem d_M_wheel_43 : decode Y_M_wheel.2.1 43 = .ok (.invokevirtual 462, 3) := by decide +kernel
theorem d_M_wheel_46 : decode Y_M_wheel.2.1 46 = .ok (.ireturn, 1) := by decide +kernel
theorem e_M_wheel {l : Launch} {G : GT} {d : Nat} {P : Int → MM → Prop} {m : MM} (x1 : Int)  (H : wfM m → inR x1 → ∃ (e1 : Nat) (P2 : Int → MM → Prop), e1 < d ∧ CI l G Y_M_isPlate e1 [.inr (.inr 70), .inl x1] m P2 ∧ (∀ z7 m8, P2 z7 m8 → inR z7 → wfM m8 → ((z7 ≠ 0 → (Wq l G false Y_M_wheel d (QI P) 12 [(0, .inr (.inr 70)), (1, .inl x1), (2, .inl 0)] [] m8)) ∧ (¬ (z7 ≠ 0) → (P (-1) m8))))) : CI l G Y_M_wheel d [.inr (.inr 70), .inl x1] m P := by
  refine CI.of [(0, .inr (.inr 70)), (1, .inl x1)] k_M_wheel.1 (Nat.le_of_ble_eq_true rfl) rfl (Wp.wf (fun hw _ hl hs => ?_))
  have H0 := H hw (hl _ (List.mem_of_getElem? (i := 1) rfl))
  refine Wp.aload_n 0 0 d_M_wheel_0 rfl rfl ?_
  refine Wp.iload_n 1 1 d_M_wheel_1 rfl rfl ?_
  obtain ⟨e1, P2, hd3, ho4, H5⟩ := H0
  refine Wq.VI (st := []) [.inl x1] d_M_wheel_2 k_M_isPlate ml_M_405 rfl rfl rfl (fun h => by cases h) (Nat.le_of_ble_eq_true rfl) hd3 ho4 (fun z7 m8 hp9 hz10 hw11 => ?_)
  have H6 := H5 z7 m8 hp9 hz10 hw11
  obtain ⟨H13, H14⟩ := H6
  refine Wp.if_ne 10 d_M_wheel_5 (by decide) (fun c12 => ?_) (fun c12 => ?_)
  · have H15 := H13 c12
    refine Wp.iconst d_M_wheel_10 (by decide) ?_
    refine Wp.istore_n 2 [(0, .inr (.inr 70)), (1, .inl x1), (2, .inl 0)] d_M_wheel_11 rfl (by decide) rfl ?_
    exact H15
  · have H16 := H14 c12
    refine Wp.iconst d_M_wheel_8 (by decide) ?_
    exact Wq.iret d_M_wheel_9 rfl H16
theorem s_M_wheel_12 {l : Launch} {G : GT} {d : Nat} {P : Int → MM → Prop} {m : MM} (x1 : Int) (x2 : Int)  (H : wfM m → inR x1 → inR x2 → ∃ (e1 : Nat) (P2 : Int → MM → Prop), e1 < d ∧ CI l G Y_M_lots e1 [.inr (.inr 70)] m P2 ∧ (∀ z7 m8, P2 z7 m8 → inR z7 → wfM m8 → ((x2 ≥ z7 → (∃ (e17 : Nat) (P18 : Int → MM → Prop), e17 < d ∧ CI l G Y_M_turnsOf e17 [.inr (.inr 70)] m8 P18 ∧ (∀ z23 m24, P18 z23 m24 → inR z23 → wfM m24 → (P z23 m24)))) ∧ (¬ (x2 ≥ z7) → ((x2 ≠ x1 → ((0 ≤ x2 ∧ x2 < (5 : Int)) ∧ (∀ m33, m33 = up m8 93 x2 0 → ((inR (x2 + 1)) ∧ (Wq l G false Y_M_wheel d (QI P) 12 [(0, .inr (.inr 70)), (1, .inl x1), (2, .inl (x2 + 1))] [] m33))))) ∧ (¬ (x2 ≠ x1) → ((0 ≤ x2 ∧ x2 < (5 : Int)) ∧ (∀ m42, m42 = up m8 93 x2 1 → ((inR (x2 + 1)) ∧ (Wq l G false Y_M_wheel d (QI P) 12 [(0, .inr (.inr 70)), (1, .inl x1), (2, .inl (x2 + 1))] [] m42)))))))))) : Wq l G false Y_M_wheel d (QI P) 12 [(0, .inr (.inr 70)), (1, .inl x1), (2, .inl x2)] [] m := by
  refine Wp.wf (fun hw _ hl hs => ?_)
  have H0 := H hw (hl _ (List.mem_of_getElem? (i := 1) rfl)) (hl _ (List.mem_of_getElem? (i := 2) rfl))
  refine Wp.iload_n 2 2 d_M_wheel_12 rfl rfl ?_
  refine Wp.aload_n 0 0 d_M_wheel_13 rfl rfl ?_
  obtain ⟨e1, P2, hd3, ho4, H5⟩ := H0
  refine Wq.VI (st := [.inl x2]) [] d_M_wheel_14 k_M_lots ml_M_338 rfl rfl rfl (fun h => by cases h) (Nat.le_of_ble_eq_true rfl) hd3 ho4 (fun z7 m8 hp9 hz10 hw11 => ?_)
  have H6 := H5 z7 m8 hp9 hz10 hw11
  obtain ⟨H13, H14⟩ := H6
  refine Wp.icmp_ge 42 d_M_wheel_17 (by decide) (fun c12 => ?_) (fun c12 => ?_)
  · have H15 := H13 c12
    refine Wp.aload_n 0 0 d_M_wheel_42 rfl rfl ?_
    obtain ⟨e17, P18, hd19, ho20, H21⟩ := H15
    refine Wq.VI (st := []) [] d_M_wheel_43 k_M_turnsOf ml_M_462 rfl rfl rfl (fun h => by cases h) (Nat.le_of_ble_eq_true rfl) hd19 ho20 (fun z23 m24 hp25 hz26 hw27 => ?_)
    have H22 := H21 z23 m24 hp25 hz26 hw27
    exact Wq.iret d_M_wheel_46 rfl H22
  · have H16 := H14 c12
    refine Wp.aload_n 0 0 d_M_wheel_20 rfl rfl ?_
    refine Wp.getP 93 d_M_wheel_21 fl_M_82 rfl rfl rfl ?_
    refine Wp.iload_n 2 2 d_M_wheel_24 rfl rfl ?_
    refine Wp.iload_n 2 2 d_M_wheel_25 rfl rfl ?_
    refine Wp.iload_n 1 1 d_M_wheel_26 rfl rfl ?_
    obtain ⟨H29, H30⟩ := H16
    refine Wp.icmp_ne 34 d_M_wheel_27 (by decide) (fun c28 => ?_) (fun c28 => ?_)
    · have H31 := H29 c28
      refine Wp.iconst d_M_wheel_34 (by decide) ?_
      obtain ⟨s40, H41⟩ := H31
      refine Wq.iast d_M_wheel_35 rfl s40.1 s40.2 (fun m33 hm34 => ?_)
      have H35 := H41 m33 hm34
      obtain ⟨s38, H39⟩ := H35
      refine Wp.iinc 2 2 [(0, .inr (.inr 70)), (1, .inl x1), (2, .inl (x2 + 1))] d_M_wheel_36 rfl s38 (by decide) rfl ?_
      refine Wp.goto 12 d_M_wheel_39 (by decide) ?_
      exact H39
    · have H32 := H30 c28
      refine Wp.iconst d_M_wheel_30 (by decide) ?_
      refine Wp.goto 35 d_M_wheel_31 (by decide) ?_
      obtain ⟨s49, H50⟩ := H32
      refine Wq.iast d_M_wheel_35 rfl s49.1 s49.2 (fun m42 hm43 => ?_)
      have H44 := H50 m42 hm43
      obtain ⟨s47, H48⟩ := H44
      refine Wp.iinc 2 2 [(0, .inr (.inr 70)), (1, .inl x1), (2, .inl (x2 + 1))] d_M_wheel_36 rfl s47 (by decide) rfl ?_
      refine Wp.goto 12 d_M_wheel_39 (by decide) ?_
      exact H48
theorem d_M_credit_0 : decode Y_M_credit.2.1 0 = .ok (.aload_n 0, 1) := by decide +kernel
theorem d_M_credit_1 : decode Y_M_credit.2.1 1 = .ok (.invokevirtual 378, 3) := by decide +kernel
theorem d_M_credit_4 : decode Y_M_credit.2.1 4 = .ok (.aload_n 0, 1) := by decide +kernel
theorem d_M_credit_5 : decode Y_M_credit.2.1 5 = .ok (.invokevirtual 446, 3) := by decide +kernel
theorem d_M_credit_8 : decode Y_M_credit.2.1 8 = .ok (.istore_n 1, 1) := by decide +kernel
theorem d_M_credit_9 : decode Y_M_credit.2.1 9 = .ok (.aload_n 0, 1) := by decide +kernel
theorem d_M_credit_10 : decode Y_M_credit.2.1 10 = .ok (.invokevirtual 453, 3) := by decide +kernel
theorem d_M_credit_13 : decode Y_M_credit.2.1 13 = .ok (.iload_n 1, 1) := by decide +kernel
theorem d_M_credit_14 : decode Y_M_credit.2.1 14 = .ok (.aload_n 0, 1) := by decide +kernel
theorem d_M_credit_15 : decode Y_M_credit.2.1 15 = .ok (.invokevirtual 446, 3) := by decide +kernel
theorem d_M_credit_18 : decode Y_M_credit.2.1 18 = .ok (.isub, 1) := by decide +kernel
theorem d_M_credit_19 : decode Y_M_credit.2.1 19 = .ok (.ireturn, 1) := by decide +kernel
theorem e_M_credit {l : Launch} {G : GT} {d : Nat} {P : Int → MM → Prop} {m : MM}   (H : wfM m → ∃ (e1 : Nat) (P2 : MM → Prop), e1 < d ∧ CV l G Y_M_layNow e1 [.inr (.inr 70)] m P2 ∧ (∀ m8, P2 m8 → wfM m8 → (∃ (e12 : Nat) (P13 : Int → MM → Prop), e12 < d ∧ CI l G Y_M_levelOf e12 [.inr (.inr 70)] m8 P13 ∧ (∀ z18 m19, P13 z18 m19 → inR z18 → wfM m19 → (∃ (e23 : Nat) (P24 : MM → Prop), e23 < d ∧ CV l G Y_M_makeBare e23 [.inr (.inr 70)] m19 P24 ∧ (∀ m30, P24 m30 → wfM m30 → (∃ (e34 : Nat) (P35 : Int → MM → Prop), e34 < d ∧ CI l G Y_M_levelOf e34 [.inr (.inr 70)] m30 P35 ∧ (∀ z40 m41, P35 z40 m41 → inR z40 → wfM m41 → ((inR (z18 - z40)) ∧ (P (z18 - z40) m41)))))))))) : CI l G Y_M_credit d [.inr (.inr 70)] m P := by
  refine CI.of [(0, .inr (.inr 70))] k_M_credit.1 (Nat.le_of_ble_eq_true rfl) rfl (Wp.wf (fun hw _ hl hs => ?_))
  have H0 := H hw
  refine Wp.aload_n 0 0 d_M_credit_0 rfl rfl ?_
  obtain ⟨e1, P2, hd3, ho4, H5⟩ := H0
  refine Wq.VV (st := []) [] d_M_credit_1 k_M_layNow ml_M_378 rfl rfl rfl (fun h => by cases h) (Nat.le_of_ble_eq_true rfl) hd3 ho4 (fun m8 hp9 hw11 => ?_)
  have H6 := H5 m8 hp9 hw11
  refine Wp.aload_n 0 0 d_M_credit_4 rfl rfl ?_
  obtain ⟨e12, P13, hd14, ho15, H16⟩ := H6
  refine Wq.VI (st := []) [] d_M_credit_5 k_M_levelOf ml_M_446 rfl rfl rfl (fun h => by cases h) (Nat.le_of_ble_eq_true rfl) hd14 ho15 (fun z18 m19 hp20 hz21 hw22 => ?_)
  have H17 := H16 z18 m19 hp20 hz21 hw22
  refine Wp.istore_n 1 [(0, .inr (.inr 70)), (1, .inl z18)] d_M_credit_8 rfl (by decide) rfl ?_
  refine Wp.aload_n 0 0 d_M_credit_9 rfl rfl ?_
  obtain ⟨e23, P24, hd25, ho26, H27⟩ := H17
  refine Wq.VV (st := []) [] d_M_credit_10 k_M_makeBare ml_M_453 rfl rfl rfl (fun h => by cases h) (Nat.le_of_ble_eq_true rfl) hd25 ho26 (fun m30 hp31 hw33 => ?_)
  have H28 := H27 m30 hp31 hw33
  refine Wp.iload_n 1 1 d_M_credit_13 rfl rfl ?_
  refine Wp.aload_n 0 0 d_M_credit_14 rfl rfl ?_
  obtain ⟨e34, P35, hd36, ho37, H38⟩ := H28
  refine Wq.VI (st := [.inl z18]) [] d_M_credit_15 k_M_levelOf ml_M_446 rfl rfl rfl (fun h => by cases h) (Nat.le_of_ble_eq_true rfl) hd36 ho37 (fun z40 m41 hp42 hz43 hw44 => ?_)
  have H39 := H38 z40 m41 hp42 hz43 hw44
  obtain ⟨s45, H46⟩ := H39
  refine Wp.isub d_M_credit_18 s45 ?_
  exact Wq.iret d_M_credit_19 rfl H46
theorem d_M_rank_0 : decode Y_M_rank.2.1 0 = .ok (.iload_n 1, 1) := by decide +kernel
theorem d_M_rank_1 : decode Y_M_rank.2.1 1 = .ok (.bipush (-30), 2) := by decide +kernel
theorem d_M_rank_3 : decode Y_M_rank.2.1 3 = .ok (.bipush 30, 2) := by decide +kernel
theorem d_M_rank_5 : decode Y_M_rank.2.1 5 = .ok (.invokestatic 341, 3) := by decide +kernel
theorem d_M_rank_8 : decode Y_M_rank.2.1 8 = .ok (.ifCond .ne 6, 3) := by decide +kernel
theorem d_M_rank_11 : decode Y_M_rank.2.1 11 = .ok (.bipush (-2), 2) := by decide +kernel
theorem d_M_rank_13 : decode Y_M_rank.2.1 13 = .ok (.ireturn, 1) := by decide +kernel
theorem d_M_rank_14 : decode Y_M_rank.2.1 14 = .ok (.iconst 0, 1) := by decide +kernel
theorem d_M_rank_15 : decode Y_M_rank.2.1 15 = .ok (.istore_n 2, 1) := by decide +kernel
theorem d_M_rank_16 : decode Y_M_rank.2.1 16 = .ok (.iload_n 2, 1) := by decide +kernel
theorem d_M_rank_17 : decode Y_M_rank.2.1 17 = .ok (.iconst 3, 1) := by decide +kernel
theorem d_M_rank_18 : decode Y_M_rank.2.1 18 = .ok (.if_icmp .gt 45, 3) := by decide +kernel
theorem d_M_rank_21 : decode Y_M_rank.2.1 21 = .ok (.iconst 0, 1) := by decide +kernel
theorem d_M_rank_22 : decode Y_M_rank.2.1 22 = .ok (.istore_n 3, 1) := by decide +kernel
theorem d_M_rank_23 : decode Y_M_rank.2.1 23 = .ok (.iload_n 3, 1) := by decide +kernel
theorem d_M_rank_24 : decode Y_M_rank.2.1 24 = .ok (.aload_n 0, 1) := by decide +kernel
theorem d_M_rank_25 : decode Y_M_rank.2.1 25 = .ok (.invokevirtual 338, 3) := by decide +kernel
theorem d_M_rank_28 : decode Y_M_rank.2.1 28 = .ok (.iconst 1, 1) := by decide +kernel
theorem d_M_rank_29 : decode Y_M_rank.2.1 29 = .ok (.iadd, 1) := by decide +kernel
theorem d_M_rank_30 : decode Y_M_rank.2.1 30 = .ok (.iload_n 2, 1) := by decide +kernel
theorem d_M_rank_31 : decode Y_M_rank.2.1 31 = .ok (.invokestatic 465, 3) := by decide +kernel
theorem d_M_rank_34 : decode Y_M_rank.2.1 34 = .ok (.if_icmp .ge 23, 3) := by decide +kernel
theorem d_M_rank_37 : decode Y_M_rank.2.1 37 = .ok (.aload_n 0, 1) := by decide +kernel
theorem d_M_rank_38 : decode Y_M_rank.2.1 38 = .ok (.iload_n 1, 1) := by decide +kernel
theorem d_M_rank_39 : decode Y_M_rank.2.1 39 = .ok (.iload_n 3, 1) := by decide +kernel
theorem d_M_rank_40 : decode Y_M_rank.2.1 40 = .ok (.iload_n 2, 1) := by decide +kernel
theorem d_M_rank_41 : decode Y_M_rank.2.1 41 = .ok (.invokevirtual 468, 3) := by decide +kernel
theorem d_M_rank_44 : decode Y_M_rank.2.1 44 = .ok (.ifCond .ne 7, 3) := by decide +kernel
theorem d_M_rank_47 : decode Y_M_rank.2.1 47 = .ok (.iload_n 2, 1) := by decide +kernel
theorem d_M_rank_48 : decode Y_M_rank.2.1 48 = .ok (.iconst 1, 1) := by decide +kernel
theorem d_M_rank_49 : decode Y_M_rank.2.1 49 = .ok (.isub, 1) := by decide +kernel
theorem d_M_rank_50 : decode Y_M_rank.2.1 50 = .ok (.ireturn, 1) := by decide +kernel
theorem d_M_rank_51 : decode Y_M_rank.2.1 51 = .ok (.iinc 3 1, 3) := by decide +kernel
theorem d_M_rank_54 : decode Y_M_rank.2.1 54 = .ok (.goto (-31), 3) := by decide +kernel
theorem d_M_rank_57 : decode Y_M_rank.2.1 57 = .ok (.iinc 2 1, 3) := by decide +kernel
theorem d_M_rank_60 : decode Y_M_rank.2.1 60 = .ok (.goto (-44), 3) := by decide +kernel
theorem d_M_rank_63 : decode Y_M_rank.2.1 63 = .ok (.iconst 3, 1) := by decide +kernel
theorem d_M_rank_64 : decode Y_M_rank.2.1 64 = .ok (.ireturn, 1) := by decide +kernel
theorem e_M_rank {l : Launch} {G : GT} {d : Nat} {P : Int → MM → Prop} {m : MM} (x1 : Int)  (H : wfM m → inR x1 → ∃ (e1 : Nat) (P2 : Int → MM → Prop), e1 < d ∧ CI l G Y_M_isIn e1 [.inl x1, .inl (-30), .inl 30] m P2 ∧ (∀ z7 m8, P2 z7 m8 → inR z7 → wfM m8 → ((z7 ≠ 0 → (Wq l G false Y_M_rank d (QI P) 16 [(0, .inr (.inr 70)), (1, .inl x1), (2, .inl 0)] [] m8)) ∧ (¬ (z7 ≠ 0) → (P (-2) m8))))) : CI l G Y_M_rank d [.inr (.inr 70), .inl x1] m P := by
  refine CI.of [(0, .inr (.inr 70)), (1, .inl x1)] k_M_rank.1 (Nat.le_of_ble_eq_true rfl) rfl (Wp.wf (fun hw _ hl hs => ?_))
  have H0 := H hw (hl _ (List.mem_of_getElem? (i := 1) rfl))
  refine Wp.iload_n 1 1 d_M_rank_0 rfl rfl ?_
  refine Wp.bipush d_M_rank_1 (by decide) (by decide) ?_
  refine Wp.bipush d_M_rank_3 (by decide) (by decide) ?_
  obtain ⟨e1, P2, hd3, ho4, H5⟩ := H0
  refine Wq.SI (st := []) [.inl x1, .inl (-30), .inl 30] d_M_rank_5 k_M_isIn ml_M_341 rfl  (fun h => by cases h) (Nat.le_of_ble_eq_true rfl) hd3 ho4 (fun z7 m8 hp9 hz10 hw11 => ?_)
  have H6 := H5 z7 m8 hp9 hz10 hw11
  obtain ⟨H13, H14⟩ := H6
  refine Wp.if_ne 14 d_M_rank_8 (by decide) (fun c12 => ?_) (fun c12 => ?_)
  · have H15 := H13 c12
    refine Wp.iconst d_M_rank_14 (by decide) ?_
    refine Wp.istore_n 2 [(0, .inr (.inr 70)), (1, .inl x1), (2, .inl 0)] d_M_rank_15 rfl (by decide) rfl ?_
    exact H15
  · have H16 := H14 c12
    refine Wp.bipush d_M_rank_11 (by decide) (by decide) ?_
    exact Wq.iret d_M_rank_13 rfl H16
theorem s_M_rank_16 {l : Launch} {G : GT} {d : Nat} {P : Int → MM → Prop} {m : MM} (x1 : Int) (x2 : Int)  (H : wfM m → inR x1 → inR x2 → (x2 > 3 → (P 3 m)) ∧ (¬ (x2 > 3) → (Wq l G false Y_M_rank d (QI P) 23 [(0, .inr (.inr 70)), (1, .inl x1), (2, .inl x2), (3, .inl 0)] [] m))) : Wq l G false Y_M_rank d (QI P) 16 [(0, .inr (.inr 70)), (1, .inl x1), (2, .inl x2)] [] m := by
  refine Wp.wf (fun hw _ hl hs => ?_)
  have H0 := H hw (hl _ (List.mem_of_getElem? (i := 1) rfl)) (hl _ (List.mem_of_getElem? (i := 2) rfl))
  refine Wp.iload_n 2 2 d_M_rank_16 rfl rfl ?_
  refine Wp.iconst d_M_rank_17 (by decide) ?_
  obtain ⟨H2, H3⟩ := H0
  refine Wp.icmp_gt 63 d_M_rank_18 (by decide) (fun c1 => ?_) (fun c1 => ?_)
  · have H4 := H2 c1
    refine Wp.iconst d_M_rank_63 (by decide) ?_
    exact Wq.iret d_M_rank_64 rfl H4
  · have H5 := H3 c1
    refine Wp.iconst d_M_rank_21 (by decide) ?_
    refine Wp.istore_n 3 [(0, .inr (.inr 70)), (1, .inl x1), (2, .inl x2), (3, .inl 0)] d_M_rank_22 rfl (by decide) rfl ?_
    exact H5
theorem s_M_rank_23 {l : Launch} {G : GT} {d : Nat} {P : Int → MM → Prop} {m : MM} (x1 : Int) (x2 : Int) (x3 : Int)  (H : wfM m → inR x1 → inR x2 → inR x3 → ∃ (e1 : Nat) (P2 : Int → MM → Prop), e1 < d ∧ CI l G Y_M_lots e1 [.inr (.inr 70)] m P2 ∧ (∀ z7 m8, P2 z7 m8 → inR z7 → wfM m8 → ((inR (z7 + 1)) ∧ (∃ (e14 : Nat) (P15 : Int → MM → Prop), e14 < d ∧ CI l G Y_M_power e14 [.inl (z7 + 1), .inl x2] m8 P15 ∧ (∀ z20 m21, P15 z20 m21 → inR z20 → wfM m21 → ((x3 ≥ z20 → ((inR (x2 + 1)) ∧ (Wq l G false Y_M_rank d (QI P) 16 [(0, .inr (.inr 70)), (1, .inl x1), (2, .inl (x2 + 1))] [] m21))) ∧ (¬ (x3 ≥ z20) → (∃ (e32 : Nat) (P33 : Int → MM → Prop), e32 < d ∧ CI l G Y_M_isEven e32 [.inr (.inr 70), .inl x1, .inl x3, .inl x2] m21 P33 ∧ (∀ z38 m39, P33 z38 m39 → inR z38 → wfM m39 → ((z38 ≠ 0 → ((inR (x3 + 1)) ∧ (Wq l G false Y_M_rank d (QI P) 23 [(0, .inr (.inr 70)), (1, .inl x1), (2, .inl x2), (3, .inl (x3 + 1))] [] m39))) ∧ (¬ (z38 ≠ 0) → ((inR (x2 - 1)) ∧ (P (x2 - 1) m39))))))))))))) : Wq l G false Y_M_rank d (QI P) 23 [(0, .inr (.inr 70)), (1, .inl x1), (2, .inl x2), (3, .inl x3)] [] m := by
  refine Wp.wf (fun hw _ hl hs => ?_)
  have H0 := H hw (hl _ (List.mem_of_getElem? (i := 1) rfl)) (hl _ (List.mem_of_getElem? (i := 2) rfl)) (hl _ (List.mem_of_getElem? (i := 3) rfl))
  refine Wp.iload_n 3 3 d_M_rank_23 rfl rfl ?_
  refine Wp.aload_n 0 0 d_M_rank_24 rfl rfl ?_
  obtain ⟨e1, P2, hd3, ho4, H5⟩ := H0
  refine Wq.VI (st := [.inl x3]) [] d_M_rank_25 k_M_lots ml_M_338 rfl rfl rfl (fun h => by cases h) (Nat.le_of_ble_eq_true rfl) hd3 ho4 (fun z7 m8 hp9 hz10 hw11 => ?_)
  have H6 := H5 z7 m8 hp9 hz10 hw11
  refine Wp.iconst d_M_rank_28 (by decide) ?_
  obtain ⟨s12, H13⟩ := H6
  refine Wp.iadd d_M_rank_29 s12 ?_
  refine Wp.iload_n 2 2 d_M_rank_30 rfl rfl ?_
  obtain ⟨e14, P15, hd16, ho17, H18⟩ := H13
  refine Wq.SI (st := [.inl x3]) [.inl (z7 + 1), .inl x2] d_M_rank_31 k_M_power ml_M_465 rfl  (fun h => by cases h) (Nat.le_of_ble_eq_true rfl) hd16 ho17 (fun z20 m21 hp22 hz23 hw24 => ?_)
  have H19 := H18 z20 m21 hp22 hz23 hw24
  obtain ⟨H26, H27⟩ := H19
  refine Wp.icmp_ge 57 d_M_rank_34 (by decide) (fun c25 => ?_) (fun c25 => ?_)
  · have H28 := H26 c25
    obtain ⟨s30, H31⟩ := H28
    refine Wp.iinc 2 2 [(0, .inr (.inr 70)), (1, .inl x1), (2, .inl (x2 + 1)), (3, .inl x3)] d_M_rank_57 rfl s30 (by decide) rfl ?_
    refine Wp.goto 16 d_M_rank_60 (by decide) ?_
    refine Wp.pick [0, 1, 2] [(0, .inr (.inr 70)), (1, .inl x1), (2, .inl (x2 + 1))] rfl ?_
    exact H31
  · have H29 := H27 c25
    refine Wp.aload_n 0 0 d_M_rank_37 rfl rfl ?_
    refine Wp.iload_n 1 1 d_M_rank_38 rfl rfl ?_
    refine Wp.iload_n 3 3 d_M_rank_39 rfl rfl ?_
    refine Wp.iload_n 2 2 d_M_rank_40 rfl rfl ?_
    obtain ⟨e32, P33, hd34, ho35, H36⟩ := H29
    refine Wq.VI (st := []) [.inl x1, .inl x3, .inl x2] d_M_rank_41 k_M_isEven ml_M_468 rfl rfl rfl (fun h => by cases h) (Nat.le_of_ble_eq_true rfl) hd34 ho35 (fun z38 m39 hp40 hz41 hw42 => ?_)
    have H37 := H36 z38 m39 hp40 hz41 hw42
    obtain ⟨H44, H45⟩ := H37
    refine Wp.if_ne 51 d_M_rank_44 (by decide) (fun c43 => ?_) (fun c43 => ?_)
    · have H46 := H44 c43
      obtain ⟨s48, H49⟩ := H46
      refine Wp.iinc 3 3 [(0, .inr (.inr 70)), (1, .inl x1), (2, .inl x2), (3, .inl (x3 + 1))] d_M_rank_51 rfl s48 (by decide) rfl ?_
      refine Wp.goto 23 d_M_rank_54 (by decide) ?_
      exact H49
    · have H47 := H45 c43
      refine Wp.iload_n 2 2 d_M_rank_47 rfl rfl ?_
      refine Wp.iconst d_M_rank_48 (by decide) ?_
      obtain ⟨s50, H51⟩ := H47
      refine Wp.isub d_M_rank_49 s50 ?_
      exact Wq.iret d_M_rank_50 rfl H51
theorem d_M_power_0 : decode Y_M_power.2.1 0 = .ok (.iconst 1, 1) := by decide +kernel
theorem d_M_power_1 : decode Y_M_power.2.1 1 = .ok (.istore_n 2, 1) := by decide +kernel
theorem d_M_power_2 : decode Y_M_power.2.1 2 = .ok (.iconst 0, 1) := by decide +kernel
theorem d_M_power_3 : decode Y_M_power.2.1 3 = .ok (.istore_n 3, 1) := by decide +kernel
theorem d_M_power_4 : decode Y_M_power.2.1 4 = .ok (.iload_n 3, 1) := by decide +kernel
theorem d_M_power_5 : decode Y_M_power.2.1 5 = .ok (.iload_n 1, 1) := by decide +kernel
theorem d_M_power_6 : decode Y_M_power.2.1 6 = .ok (.if_icmp .ge 13, 3) := by decide +kernel
theorem d_M_power_9 : decode Y_M_power.2.1 9 = .ok (.iload_n 2, 1) := by decide +kernel
theorem d_M_power_10 : decode Y_M_power.2.1 10 = .ok (.iload_n 0, 1) := by decide +kernel
theorem d_M_power_11 : decode Y_M_power.2.1 11 = .ok (.imul, 1) := by decide +kernel
theorem d_M_power_12 : decode Y_M_power.2.1 12 = .ok (.istore_n 2, 1) := by decide +kernel
theorem d_M_power_13 : decode Y_M_power.2.1 13 = .ok (.iinc 3 1, 3) := by decide +kernel
theorem d_M_power_16 : decode Y_M_power.2.1 16 = .ok (.goto (-12), 3) := by decide +kernel
theorem d_M_power_19 : decode Y_M_power.2.1 19 = .ok (.iload_n 2, 1) := by decide +kernel
theorem d_M_power_20 : decode Y_M_power.2.1 20 = .ok (.ireturn, 1) := by decide +kernel
theorem e_M_power {l : Launch} {G : GT} {d : Nat} {P : Int → MM → Prop} {m : MM} (x0 : Int) (x1 : Int)  (H : wfM m → inR x0 → inR x1 → Wq l G false Y_M_power d (QI P) 4 [(0, .inl x0), (1, .inl x1), (2, .inl 1), (3, .inl 0)] [] m) : CI l G Y_M_power d [.inl x0, .inl x1] m P := by
  refine CI.of [(0, .inl x0), (1, .inl x1)] k_M_power.1 (Nat.le_of_ble_eq_true rfl) rfl (Wp.wf (fun hw _ hl hs => ?_))
  have H0 := H hw (hl _ (List.mem_of_getElem? (i := 0) rfl)) (hl _ (List.mem_of_getElem? (i := 1) rfl))
  refine Wp.iconst d_M_power_0 (by decide) ?_
  refine Wp.istore_n 2 [(0, .inl x0), (1, .inl x1), (2, .inl 1)] d_M_power_1 rfl (by decide) rfl ?_
  refine Wp.iconst d_M_power_2 (by decide) ?_
  refine Wp.istore_n 3 [(0, .inl x0), (1, .inl x1), (2, .inl 1), (3, .inl 0)] d_M_power_3 rfl (by decide) rfl ?_
  exact H0
theorem s_M_power_4 {l : Launch} {G : GT} {d : Nat} {P : Int → MM → Prop} {m : MM} (x0 : Int) (x1 : Int) (x2 : Int) (x3 : Int)  (H : wfM m → inR x0 → inR x1 → inR x2 → inR x3 → (x3 ≥ x1 → (P x2 m)) ∧ (¬ (x3 ≥ x1) → ((inR (x2 * x0)) ∧ ((inR (x3 + 1)) ∧ (Wq l G false Y_M_power d (QI P) 4 [(0, .inl x0), (1, .inl x1), (2, .inl (x2 * x0)), (3, .inl (x3 + 1))] [] m))))) : Wq l G false Y_M_power d (QI P) 4 [(0, .inl x0), (1, .inl x1), (2, .inl x2), (3, .inl x3)] [] m := by
  refine Wp.wf (fun hw _ hl hs => ?_)
  have H0 := H hw (hl _ (List.mem_of_getElem? (i := 0) rfl)) (hl _ (List.mem_of_getElem? (i := 1) rfl)) (hl _ (List.mem_of_getElem? (i := 2) rfl)) (hl _ (List.mem_of_getElem? (i := 3) rfl))
  refine Wp.iload_n 3 3 d_M_power_4 rfl rfl ?_
  refine Wp.iload_n 1 1 d_M_power_5 rfl rfl ?_
  obtain ⟨H2, H3⟩ := H0
  refine Wp.icmp_ge 19 d_M_power_6 (by decide) (fun c1 => ?_) (fun c1 => ?_)
  · have H4 := H2 c1
    refine Wp.iload_n 2 2 d_M_power_19 rfl rfl ?_
    exact Wq.iret d_M_power_20 rfl H4
  · have H5 := H3 c1
    refine Wp.iload_n 2 2 d_M_power_9 rfl rfl ?_
    refine Wp.iload_n 0 0 d_M_power_10 rfl rfl ?_
    obtain ⟨s6, H7⟩ := H5
    refine Wp.imul d_M_power_11 s6 ?_
    refine Wp.istore_n 2 [(0, .inl x0), (1, .inl x1), (2, .inl (x2 * x0)), (3, .inl x3)] d_M_power_12 rfl (by decide) rfl ?_
    obtain ⟨s8, H9⟩ := H7
    refine Wp.iinc 3 3 [(0, .inl x0), (1, .inl x1), (2, .inl (x2 * x0)), (3, .inl (x3 + 1))] d_M_power_13 rfl s8 (by decide) rfl ?_
    refine Wp.goto 4 d_M_power_16 (by decide) ?_
    exact H9
theorem d_M_isEven_0 : decode Y_M_isEven.2.1 0 = .ok (.aload_n 0, 1) := by decide +kernel
theorem d_M_isEven_1 : decode Y_M_isEven.2.1 1 = .ok (.invokevirtual 378, 3) := by decide +kernel
theorem d_M_isEven_4 : decode Y_M_isEven.2.1 4 = .ok (.aload_n 0, 1) := by decide +kernel
theorem d_M_isEven_5 : decode Y_M_isEven.2.1 5 = .ok (.invokevirtual 446, 3) := by decide +kernel
theorem d_M_isEven_8 : decode Y_M_isEven.2.1 8 = .ok (.iload_n 1, 1) := by decide +kernel
theorem d_M_isEven_9 : decode Y_M_isEven.2.1 9 = .ok (.iadd, 1) := by decide +kernel
theorem d_M_isEven_10 : decode Y_M_isEven.2.1 10 = .ok (.iload_n 3, 1) := by decide +kernel
theorem d_M_isEven_11 : decode Y_M_isEven.2.1 11 = .ok (.isub, 1) := by decide +kernel
theorem d_M_isEven_12 : decode Y_M_isEven.2.1 12 = .ok (.istore 4, 2) := by decide +kernel
theorem d_M_isEven_14 : decode Y_M_isEven.2.1 14 = .ok (.iload_n 2, 1) := by decide +kernel
theorem d_M_isEven_15 : decode Y_M_isEven.2.1 15 = .ok (.istore 5, 2) := by decide +kernel
theorem d_M_isEven_17 : decode Y_M_isEven.2.1 17 = .ok (.iconst 0, 1) := by decide +kernel
theorem d_M_isEven_18 : decode Y_M_isEven.2.1 18 = .ok (.istore 6, 2) := by decide +kernel
theorem d_M_isEven_20 : decode Y_M_isEven.2.1 20 = .ok (.iload 6, 2) := by decide +kernel
theorem d_M_isEven_22 : decode Y_M_isEven.2.1 22 = .ok (.iload_n 3, 1) := by decide +kernel
theorem d_M_isEven_23 : decode Y_M_isEven.2.1 23 = .ok (.if_icmp .ge 51, 3) := by decide +kernel
theorem d_M_isEven_26 : decode Y_M_isEven.2.1 26 = .ok (.iload 5, 2) := by decide +kernel
theorem d_M_isEven_28 : decode Y_M_isEven.2.1 28 = .ok (.aload_n 0, 1) := by decide +kernel
theorem d_M_isEven_29 : decode Y_M_isEven.2.1 29 = .ok (.invokevirtual 338, 3) := by decide +kernel
theorem d_M_isEven_32 : decode Y_M_isEven.2.1 32 = .ok (.iconst 1, 1) := by decide +kernel
theorem d_M_isEven_33 : decode Y_M_isEven.2.1 33 = .ok (.iadd, 1) := by decide +kernel
theorem d_M_isEven_34 : decode Y_M_isEven.2.1 34 = .ok (.irem, 1) := by decide +kernel
theorem d_M_isEven_35 : decode Y_M_isEven.2.1 35 = .ok (.istore 7, 2) := by decide +kernel
theorem d_M_isEven_37 : decode Y_M_isEven.2.1 37 = .ok (.iload 5, 2) := by decide +kernel
theorem d_M_isEven_39 : decode Y_M_isEven.2.1 39 = .ok (.aload_n 0, 1) := by decide +kernel
theorem d_M_isEven_40 : decode Y_M_isEven.2.1 40 = .ok (.invokevirtual 338, 3) := by decide +kernel
theorem d_M_isEven_43 : decode Y_M_isEven.2.1 43 = .ok (.iconst 1, 1) := by decide +kernel
theorem d_M_isEven_44 : decode Y_M_isEven.2.1 44 = .ok (.iadd, 1) := by decide +kernel
theorem d_M_isEven_45 : decode Y_M_isEven.2.1 45 = .ok (.idiv, 1) := by decide +kernel
theorem d_M_isEven_46 : decode Y_M_isEven.2.1 46 = .ok (.istore 5, 2) := by decide +kernel
theorem d_M_isEven_48 : decode Y_M_isEven.2.1 48 = .ok (.iload 7, 2) := by decide +kernel
theorem d_M_isEven_50 : decode Y_M_isEven.2.1 50 = .ok (.aload_n 0, 1) := by decide +kernel
theorem d_M_isEven_51 : decode Y_M_isEven.2.1 51 = .ok (.invokevirtual 338, 3) := by decide +kernel
theorem d_M_isEven_54 : decode Y_M_isEven.2.1 54 = .ok (.if_icmp .ge 14, 3) := by decide +kernel
theorem d_M_isEven_57 : decode Y_M_isEven.2.1 57 = .ok (.aload_n 0, 1) := by decide +kernel
theorem d_M_isEven_58 : decode Y_M_isEven.2.1 58 = .ok (.getfield 82, 3) := by decide +kernel
theorem d_M_isEven_61 : decode Y_M_isEven.2.1 61 = .ok (.iload 7, 2) := by decide +kernel
theorem d_M_isEven_63 : decode Y_M_isEven.2.1 63 = .ok (.dup2, 1) := by decide +kernel
theorem d_M_isEven_64 : decode Y_M_isEven.2.1 64 = .ok (.iaload, 1) := by decide +kernel
theorem d_M_isEven_65 : decode Y_M_isEven.2.1 65 = .ok (.iconst 1, 1) := by decide +kernel
theorem d_M_isEven_66 : decode Y_M_isEven.2.1 66 = .ok (.isub, 1) := by decide +kernel
theorem d_M_isEven_67 : decode Y_M_isEven.2.1 67 = .ok (.iastore, 1) := by decide +kernel
theorem d_M_isEven_68 : decode Y_M_isEven.2.1 68 = .ok (.iinc 6 1, 3) := by decide +kernel
theorem d_M_isEven_71 : decode Y_M_isEven.2.1 71 = .ok (.goto (-51), 3) := by decide +kernel
theorem d_M_isEven_74 : decode Y_M_isEven.2.1 74 = .ok (.aload_n 0, 1) := by decide +kernel
theorem d_M_isEven_75 : decode Y_M_isEven.2.1 75 = .ok (.invokevirtual 453, 3) := by decide +kernel
theorem d_M_isEven_78 : decode Y_M_isEven.2.1 78 = .ok (.iload 4, 2) := by decide +kernel
theorem d_M_isEven_80 : decode Y_M_isEven.2.1 80 = .ok (.aload_n 0, 1) := by decide +kernel
theorem d_M_isEven_81 : decode Y_M_isEven.2.1 81 = .ok (.invokevirtual 446, 3) := by decide +kernel
theorem d_M_isEven_84 : decode Y_M_isEven.2.1 84 = .ok (.if_icmp .lt 7, 3) := by decide +kernel
theorem d_M_isEven_87 : decode Y_M_isEven.2.1 87 = .ok (.iconst 1, 1) := by decide +kernel
theorem d_M_isEven_88 : decode Y_M_isEven.2.1 88 = .ok (.goto 4, 3) := by decide +kernel
theorem d_M_isEven_91 : decode Y_M_isEven.2.1 91 = .ok (.iconst 0, 1) := by decide +kernel
theorem d_M_isEven_92 : decode Y_M_isEven.2.1 92 = .ok (.ireturn, 1) := by decide +kernel
theorem e_M_isEven {l : Launch} {G : GT} {d : Nat} {P : Int → MM → Prop} {m : MM} (x1 : Int) (x2 : Int) (x3 : Int)  (H : wfM m → inR x1 → inR x2 → inR x3 → ∃ (e1 : Nat) (P2 : MM → Prop), e1 < d ∧ CV l G Y_M_layNow e1 [.inr (.inr 70)] m P2 ∧ (∀ m8, P2 m8 → wfM m8 → (∃ (e12 : Nat) (P13 : Int → MM → Prop), e12 < d ∧ CI l G Y_M_levelOf e12 [.inr (.inr 70)] m8 P13 ∧ (∀ z18 m19, P13 z18 m19 → inR z18 → wfM m19 → ((inR (z18 + x1)) ∧ ((inR ((z18 + x1) - x3)) ∧ (Wq l G false Y_M_isEven d (QI P) 20 [(0, .inr (.inr 70)), (3, .inl x3), (4, .inl ((z18 + x1) - x3)), (5, .inl x2), (6, .inl 0)] [] m19))))))) : CI l G Y_M_isEven d [.inr (.inr 70), .inl x1, .inl x2, .inl x3] m P := by
  refine CI.of [(0, .inr (.inr 70)), (1, .inl x1), (2, .inl x2), (3, .inl x3)] k_M_isEven.1 (Nat.le_of_ble_eq_true rfl) rfl (Wp.wf (fun hw _ hl hs => ?_))
  have H0 := H hw (hl _ (List.mem_of_getElem? (i := 1) rfl)) (hl _ (List.mem_of_getElem? (i := 2) rfl)) (hl _ (List.mem_of_getElem? (i := 3) rfl))
  refine Wp.aload_n 0 0 d_M_isEven_0 rfl rfl ?_
  obtain ⟨e1, P2, hd3, ho4, H5⟩ := H0
  refine Wq.VV (st := []) [] d_M_isEven_1 k_M_layNow ml_M_378 rfl rfl rfl (fun h => by cases h) (Nat.le_of_ble_eq_true rfl) hd3 ho4 (fun m8 hp9 hw11 => ?_)
  have H6 := H5 m8 hp9 hw11
  refine Wp.aload_n 0 0 d_M_isEven_4 rfl rfl ?_
  obtain ⟨e12, P13, hd14, ho15, H16⟩ := H6
  refine Wq.VI (st := []) [] d_M_isEven_5 k_M_levelOf ml_M_446 rfl rfl rfl (fun h => by cases h) (Nat.le_of_ble_eq_true rfl) hd14 ho15 (fun z18 m19 hp20 hz21 hw22 => ?_)
  have H17 := H16 z18 m19 hp20 hz21 hw22
  refine Wp.iload_n 1 1 d_M_isEven_8 rfl rfl ?_
  obtain ⟨s23, H24⟩ := H17
  refine Wp.iadd d_M_isEven_9 s23 ?_
  refine Wp.iload_n 3 3 d_M_isEven_10 rfl rfl ?_
  obtain ⟨s25, H26⟩ := H24
  refine Wp.isub d_M_isEven_11 s25 ?_
  refine Wp.istore 4 [(0, .inr (.inr 70)), (1, .inl x1), (2, .inl x2), (3, .inl x3), (4, .inl ((z18 + x1) - x3))] d_M_isEven_12 (by decide) rfl ?_
  refine Wp.iload_n 2 2 d_M_isEven_14 rfl rfl ?_
  refine Wp.istore 5 [(0, .inr (.inr 70)), (1, .inl x1), (2, .inl x2), (3, .inl x3), (4, .inl ((z18 + x1) - x3)), (5, .inl x2)] d_M_isEven_15 (by decide) rfl ?_
  refine Wp.iconst d_M_isEven_17 (by decide) ?_
  refine Wp.istore 6 [(0, .inr (.inr 70)), (1, .inl x1), (2, .inl x2), (3, .inl x3), (4, .inl ((z18 + x1) - x3)), (5, .inl x2), (6, .inl 0)] d_M_isEven_18 (by decide) rfl ?_
  refine Wp.pick [0, 3, 4, 5, 6] [(0, .inr (.inr 70)), (3, .inl x3), (4, .inl ((z18 + x1) - x3)), (5, .inl x2), (6, .inl 0)] rfl ?_
  exact H26
theorem s_M_isEven_20 {l : Launch} {G : GT} {d : Nat} {P : Int → MM → Prop} {m : MM} (x3 : Int) (x4 : Int) (x5 : Int) (x6 : Int)  (H : wfM m → inR x3 → inR x4 → inR x5 → inR x6 → (x6 ≥ x3 → (∃ (e6 : Nat) (P7 : MM → Prop), e6 < d ∧ CV l G Y_M_makeBare e6 [.inr (.inr 70)] m P7 ∧ (∀ m13, P7 m13 → wfM m13 → (∃ (e17 : Nat) (P18 : Int → MM → Prop), e17 < d ∧ CI l G Y_M_levelOf e17 [.inr (.inr 70)] m13 P18 ∧ (∀ z23 m24, P18 z23 m24 → inR z23 → wfM m24 → ((x4 < z23 → (P 0 m24)) ∧ (¬ (x4 < z23) → (P 1 m24)))))))) ∧ (¬ (x6 ≥ x3) → (∃ (e33 : Nat) (P34 : Int → MM → Prop), e33 < d ∧ CI l G Y_M_lots e33 [.inr (.inr 70)] m P34 ∧ (∀ z39 m40, P34 z39 m40 → inR z39 → wfM m40 → ((inR (z39 + 1)) ∧ (((z39 + 1) ≠ 0) ∧ (∃ (e48 : Nat) (P49 : Int → MM → Prop), e48 < d ∧ CI l G Y_M_lots e48 [.inr (.inr 70)] m40 P49 ∧ (∀ z54 m55, P49 z54 m55 → inR z54 → wfM m55 → ((inR (z54 + 1)) ∧ ((0 < (z54 + 1)) ∧ (∃ (e63 : Nat) (P64 : Int → MM → Prop), e63 < d ∧ CI l G Y_M_lots e63 [.inr (.inr 70)] m55 P64 ∧ (∀ z69 m70, P64 z69 m70 → inR z69 → wfM m70 → (((Int.tmod x5 (z39 + 1)) ≥ z69 → ((inR (x6 + 1)) ∧ (Wq l G false Y_M_isEven d (QI P) 20 [(0, .inr (.inr 70)), (3, .inl x3), (4, .inl x4), (5, .inl (Int.tdiv x5 (z54 + 1))), (6, .inl (x6 + 1))] [] m70))) ∧ (¬ ((Int.tmod x5 (z39 + 1)) ≥ z69) → ((0 ≤ (Int.tmod x5 (z39 + 1)) ∧ (Int.tmod x5 (z39 + 1)) < (5 : Int)) ∧ ((inR ((m70 93 (Int.tmod x5 (z39 + 1))) - 1)) ∧ ((0 ≤ (Int.tmod x5 (z39 + 1)) ∧ (Int.tmod x5 (z39 + 1)) < (5 : Int)) ∧ (∀ m85, m85 = up m70 93 (Int.tmod x5 (z39 + 1)) ((m70 93 (Int.tmod x5 (z39 + 1))) - 1) → ((inR (x6 + 1)) ∧ (Wq l G false Y_M_isEven d (QI P) 20 [(0, .inr (.inr 70)), (3, .inl x3), (4, .inl x4), (5, .inl (Int.tdiv x5 (z54 + 1))), (6, .inl (x6 + 1))] [] m85)))))))))))))))))))) : Wq l G false Y_M_isEven d (QI P) 20 [(0, .inr (.inr 70)), (3, .inl x3), (4, .inl x4), (5, .inl x5), (6, .inl x6)] [] m := by
  refine Wp.wf (fun hw _ hl hs => ?_)
  have H0 := H hw (hl _ (List.mem_of_getElem? (i := 1) rfl)) (hl _ (List.mem_of_getElem? (i := 2) rfl)) (hl _ (List.mem_of_getElem? (i := 3) rfl)) (hl _ (List.mem_of_getElem? (i := 4) rfl))
  refine Wp.iload 4 6 d_M_isEven_20 rfl ?_
  refine Wp.iload_n 1 3 d_M_isEven_22 rfl rfl ?_
  obtain ⟨H2, H3⟩ := H0
  refine Wp.icmp_ge 74 d_M_isEven_23 (by decide) (fun c1 => ?_) (fun c1 => ?_)
  · have H4 := H2 c1
    refine Wp.aload_n 0 0 d_M_isEven_74 rfl rfl ?_
    obtain ⟨e6, P7, hd8, ho9, H10⟩ := H4
    refine Wq.VV (st := []) [] d_M_isEven_75 k_M_makeBare ml_M_453 rfl rfl rfl (fun h => by cases h) (Nat.le_of_ble_eq_true rfl) hd8 ho9 (fun m13 hp14 hw16 => ?_)
    have H11 := H10 m13 hp14 hw16
    refine Wp.iload 2 4 d_M_isEven_78 rfl ?_
    refine Wp.aload_n 0 0 d_M_isEven_80 rfl rfl ?_
    obtain ⟨e17, P18, hd19, ho20, H21⟩ := H11
    refine Wq.VI (st := [.inl x4]) [] d_M_isEven_81 k_M_levelOf ml_M_446 rfl rfl rfl (fun h => by cases h) (Nat.le_of_ble_eq_true rfl) hd19 ho20 (fun z23 m24 hp25 hz26 hw27 => ?_)
    have H22 := H21 z23 m24 hp25 hz26 hw27
    obtain ⟨H29, H30⟩ := H22
    refine Wp.icmp_lt 91 d_M_isEven_84 (by decide) (fun c28 => ?_) (fun c28 => ?_)
    · have H31 := H29 c28
      refine Wp.iconst d_M_isEven_91 (by decide) ?_
      exact Wq.zret d_M_isEven_92 rfl (by decide) H31
    · have H32 := H30 c28
      refine Wp.iconst d_M_isEven_87 (by decide) ?_
      refine Wp.goto 92 d_M_isEven_88 (by decide) ?_
      exact Wq.zret d_M_isEven_92 rfl (by decide) H32
  · have H5 := H3 c1
    refine Wp.iload 3 5 d_M_isEven_26 rfl ?_
    refine Wp.aload_n 0 0 d_M_isEven_28 rfl rfl ?_
    obtain ⟨e33, P34, hd35, ho36, H37⟩ := H5
    refine Wq.VI (st := [.inl x5]) [] d_M_isEven_29 k_M_lots ml_M_338 rfl rfl rfl (fun h => by cases h) (Nat.le_of_ble_eq_true rfl) hd35 ho36 (fun z39 m40 hp41 hz42 hw43 => ?_)
    have H38 := H37 z39 m40 hp41 hz42 hw43
    refine Wp.iconst d_M_isEven_32 (by decide) ?_
    obtain ⟨s44, H45⟩ := H38
    refine Wp.iadd d_M_isEven_33 s44 ?_
    obtain ⟨s46, H47⟩ := H45
    refine Wq.irem d_M_isEven_34 s46 ?_
    refine Wp.istore 7 [(0, .inr (.inr 70)), (3, .inl x3), (4, .inl x4), (5, .inl x5), (6, .inl x6), (7, .inl (Int.tmod x5 (z39 + 1)))] d_M_isEven_35 (by decide) rfl ?_
    refine Wp.iload 3 5 d_M_isEven_37 rfl ?_
    refine Wp.aload_n 0 0 d_M_isEven_39 rfl rfl ?_
    obtain ⟨e48, P49, hd50, ho51, H52⟩ := H47
    refine Wq.VI (st := [.inl x5]) [] d_M_isEven_40 k_M_lots ml_M_338 rfl rfl rfl (fun h => by cases h) (Nat.le_of_ble_eq_true rfl) hd50 ho51 (fun z54 m55 hp56 hz57 hw58 => ?_)
    have H53 := H52 z54 m55 hp56 hz57 hw58
    refine Wp.iconst d_M_isEven_43 (by decide) ?_
    obtain ⟨s59, H60⟩ := H53
    refine Wp.iadd d_M_isEven_44 s59 ?_
    obtain ⟨s61, H62⟩ := H60
    refine Wq.idiv d_M_isEven_45 s61 ?_
    refine Wp.istore 5 [(0, .inr (.inr 70)), (3, .inl x3), (4, .inl x4), (5, .inl (Int.tdiv x5 (z54 + 1))), (6, .inl x6), (7, .inl (Int.tmod x5 (z39 + 1)))] d_M_isEven_46 (by decide) rfl ?_
    refine Wp.iload 5 7 d_M_isEven_48 rfl ?_
    refine Wp.aload_n 0 0 d_M_isEven_50 rfl rfl ?_
    obtain ⟨e63, P64, hd65, ho66, H67⟩ := H62
    refine Wq.VI (st := [.inl (Int.tmod x5 (z39 + 1))]) [] d_M_isEven_51 k_M_lots ml_M_338 rfl rfl rfl (fun h => by cases h) (Nat.le_of_ble_eq_true rfl) hd65 ho66 (fun z69 m70 hp71 hz72 hw73 => ?_)
    have H68 := H67 z69 m70 hp71 hz72 hw73
    obtain ⟨H75, H76⟩ := H68
    refine Wp.icmp_ge 68 d_M_isEven_54 (by decide) (fun c74 => ?_) (fun c74 => ?_)
    · have H77 := H75 c74
      obtain ⟨s79, H80⟩ := H77
      refine Wp.iinc 4 6 [(0, .inr (.inr 70)), (3, .inl x3), (4, .inl x4), (5, .inl (Int.tdiv x5 (z54 + 1))), (6, .inl (x6 + 1)), (7, .inl (Int.tmod x5 (z39 + 1)))] d_M_isEven_68 rfl s79 (by decide) rfl ?_
      refine Wp.goto 20 d_M_isEven_71 (by decide) ?_
      refine Wp.pick [0, 1, 2, 3, 4] [(0, .inr (.inr 70)), (3, .inl x3), (4, .inl x4), (5, .inl (Int.tdiv x5 (z54 + 1))), (6, .inl (x6 + 1))] rfl ?_
      exact H80
    · have H78 := H76 c74
      refine Wp.aload_n 0 0 d_M_isEven_57 rfl rfl ?_
      refine Wp.getP 93 d_M_isEven_58 fl_M_82 rfl rfl rfl ?_
      refine Wp.iload 5 7 d_M_isEven_61 rfl ?_
      refine Wp.dup2 d_M_isEven_63 rfl rfl ?_
      obtain ⟨s81, H82⟩ := H78
      refine Wp.iald d_M_isEven_64 rfl (Or.inl rfl) s81.1 s81.2 ?_
      refine Wp.iconst d_M_isEven_65 (by decide) ?_
      obtain ⟨s83, H84⟩ := H82
      refine Wp.isub d_M_isEven_66 s83 ?_
      obtain ⟨s92, H93⟩ := H84
      refine Wq.iast d_M_isEven_67 rfl s92.1 s92.2 (fun m85 hm86 => ?_)
      have H87 := H93 m85 hm86
      obtain ⟨s90, H91⟩ := H87
      refine Wp.iinc 4 6 [(0, .inr (.inr 70)), (3, .inl x3), (4, .inl x4), (5, .inl (Int.tdiv x5 (z54 + 1))), (6, .inl (x6 + 1)), (7, .inl (Int.tmod x5 (z39 + 1)))] d_M_isEven_68 rfl s90 (by decide) rfl ?_
      refine Wp.goto 20 d_M_isEven_71 (by decide) ?_
      refine Wp.pick [0, 1, 2, 3, 4] [(0, .inr (.inr 70)), (3, .inl x3), (4, .inl x4), (5, .inl (Int.tdiv x5 (z54 + 1))), (6, .inl (x6 + 1))] rfl ?_
      exact H91
theorem d_M_mean_0 : decode Y_M_mean.2.1 0 = .ok (.aload_n 0, 1) := by decide +kernel
theorem d_M_mean_1 : decode Y_M_mean.2.1 1 = .ok (.iload_n 1, 1) := by decide +kernel
theorem d_M_mean_2 : decode Y_M_mean.2.1 2 = .ok (.invokevirtual 405, 3) := by decide +kernel
theorem d_M_mean_5 : decode Y_M_mean.2.1 5 = .ok (.ifCond .eq 20, 3) := by decide +kernel
theorem d_M_mean_8 : decode Y_M_mean.2.1 8 = .ok (.aload_n 0, 1) := by decide +kernel
theorem d_M_mean_9 : decode Y_M_mean.2.1 9 = .ok (.iload_n 2, 1) := by decide +kernel
theorem d_M_mean_10 : decode Y_M_mean.2.1 10 = .ok (.invokevirtual 405, 3) := by decide +kernel
theorem d_M_mean_13 : decode Y_M_mean.2.1 13 = .ok (.ifCond .eq 12, 3) := by decide +kernel
theorem d_M_mean_16 : decode Y_M_mean.2.1 16 = .ok (.iload_n 3, 1) := by decide +kernel
theorem d_M_mean_17 : decode Y_M_mean.2.1 17 = .ok (.iconst 0, 1) := by decide +kernel
theorem d_M_mean_18 : decode Y_M_mean.2.1 18 = .ok (.iconst 1, 1) := by decide +kernel
theorem d_M_mean_19 : decode Y_M_mean.2.1 19 = .ok (.invokestatic 341, 3) := by decide +kernel
theorem d_M_mean_22 : decode Y_M_mean.2.1 22 = .ok (.ifCond .ne 5, 3) := by decide +kernel
theorem d_M_mean_25 : decode Y_M_mean.2.1 25 = .ok (.iconst (-1), 1) := by decide +kernel
theorem d_M_mean_26 : decode Y_M_mean.2.1 26 = .ok (.ireturn, 1) := by decide +kernel
theorem d_M_mean_27 : decode Y_M_mean.2.1 27 = .ok (.iconst 1, 1) := by decide +kernel
theorem d_M_mean_28 : decode Y_M_mean.2.1 28 = .ok (.aload_n 0, 1) := by decide +kernel
theorem d_M_mean_29 : decode Y_M_mean.2.1 29 = .ok (.invokevirtual 338, 3) := by decide +kernel
theorem d_M_mean_32 : decode Y_M_mean.2.1 32 = .ok (.ishl, 1) := by decide +kernel
theorem d_M_mean_33 : decode Y_M_mean.2.1 33 = .ok (.iconst 1, 1) := by decide +kernel
theorem d_M_mean_34 : decode Y_M_mean.2.1 34 = .ok (.isub, 1) := by decide +kernel
theorem d_M_mean_35 : decode Y_M_mean.2.1 35 = .ok (.istore 4, 2) := by decide +kernel
theorem d_M_mean_37 : decode Y_M_mean.2.1 37 = .ok (.aload_n 0, 1) := by decide +kernel
theorem d_M_mean_38 : decode Y_M_mean.2.1 38 = .ok (.iload 4, 2) := by decide +kernel
theorem d_M_mean_40 : decode Y_M_mean.2.1 40 = .ok (.iconst 1, 1) := by decide +kernel
theorem d_M_mean_41 : decode Y_M_mean.2.1 41 = .ok (.iload_n 1, 1) := by decide +kernel
theorem d_M_mean_42 : decode Y_M_mean.2.1 42 = .ok (.ishl, 1) := by decide +kernel
theorem d_M_mean_43 : decode Y_M_mean.2.1 43 = .ok (.iconst (-1), 1) := by decide +kernel
theorem d_M_mean_44 : decode Y_M_mean.2.1 44 = .ok (.ixor, 1) := by decide +kernel
theorem d_M_mean_45 : decode Y_M_mean.2.1 45 = .ok (.iand, 1) := by decide +kernel
theorem d_M_mean_46 : decode Y_M_mean.2.1 46 = .ok (.iload 4, 2) := by decide +kernel
theorem d_M_mean_48 : decode Y_M_mean.2.1 48 = .ok (.iconst 1, 1) := by decide +kernel
theorem d_M_mean_49 : decode Y_M_mean.2.1 49 = .ok (.iload_n 2, 1) := by decide +kernel
theorem d_M_mean_50 : decode Y_M_mean.2.1 50 = .ok (.ishl, 1) := by decide +kernel
theorem d_M_mean_51 : decode Y_M_mean.2.1 51 = .ok (.iconst (-1), 1) := by decide +kernel
theorem d_M_mean_52 : decode Y_M_mean.2.1 52 = .ok (.ixor, 1) := by decide +kernel
theorem d_M_mean_53 : decode Y_M_mean.2.1 53 = .ok (.iand, 1) := by decide +kernel
theorem d_M_mean_54 : decode Y_M_mean.2.1 54 = .ok (.invokevirtual 351, 3) := by decide +kernel
theorem d_M_mean_57 : decode Y_M_mean.2.1 57 = .ok (.istore 5, 2) := by decide +kernel
theorem d_M_mean_59 : decode Y_M_mean.2.1 59 = .ok (.iload_n 1, 1) := by decide +kernel
theorem d_M_mean_60 : decode Y_M_mean.2.1 60 = .ok (.iload_n 2, 1) := by decide +kernel
theorem d_M_mean_61 : decode Y_M_mean.2.1 61 = .ok (.iadd, 1) := by decide +kernel
theorem d_M_mean_62 : decode Y_M_mean.2.1 62 = .ok (.iconst 2, 1) := by decide +kernel
theorem d_M_mean_63 : decode Y_M_mean.2.1 63 = .ok (.irem, 1) := by decide +kernel
theorem d_M_mean_64 : decode Y_M_mean.2.1 64 = .ok (.iconst 1, 1) := by decide +kernel
theorem d_M_mean_65 : decode Y_M_mean.2.1 65 = .ok (.if_icmp .ne 8, 3) := by decide +kernel
theorem d_M_mean_68 : decode Y_M_mean.2.1 68 = .ok (.iload 5, 2) := by decide +kernel
theorem d_M_mean_70 : decode Y_M_mean.2.1 70 = .ok (.ineg, 1) := by decide +kernel
theorem d_M_mean_71 : decode Y_M_mean.2.1 71 = .ok (.istore 5, 2) := by decide +kernel
theorem d_M_mean_73 : decode Y_M_mean.2.1 73 = .ok (.aload_n 0, 1) := by decide +kernel
theorem d_M_mean_74 : decode Y_M_mean.2.1 74 = .ok (.getfield 354, 3) := by decide +kernel
theorem d_M_mean_77 : decode Y_M_mean.2.1 77 = .ok (.iload 5, 2) := by decide +kernel
theorem d_M_mean_79 : decode Y_M_mean.2.1 79 = .ok (.invokestatic 489, 3) := by decide +kernel
theorem d_M_mean_82 : decode Y_M_mean.2.1 82 = .ok (.istore 6, 2) := by decide +kernel
theorem d_M_mean_84 : decode Y_M_mean.2.1 84 = .ok (.iload_n 3, 1) := by decide +kernel
theorem d_M_mean_85 : decode Y_M_mean.2.1 85 = .ok (.ifCond .ne 8, 3) := by decide +kernel
theorem d_M_mean_88 : decode Y_M_mean.2.1 88 = .ok (.iload 5, 2) := by decide +kernel
theorem d_M_mean_90 : decode Y_M_mean.2.1 90 = .ok (.goto 7, 3) := by decide +kernel
theorem d_M_mean_93 : decode Y_M_mean.2.1 93 = .ok (.aload_n 0, 1) := by decide +kernel
theorem d_M_mean_94 : decode Y_M_mean.2.1 94 = .ok (.getfield 354, 3) := by decide +kernel
theorem d_M_mean_97 : decode Y_M_mean.2.1 97 = .ok (.iload 6, 2) := by decide +kernel
theorem d_M_mean_99 : decode Y_M_mean.2.1 99 = .ok (.idiv, 1) := by decide +kernel
theorem d_M_mean_100 : decode Y_M_mean.2.1 100 = .ok (.ireturn, 1) := by decide +kernel
theorem e_M_mean {l : Launch} {G : GT} {d : Nat} {P : Int → MM → Prop} {m : MM} (x1 : Int) (x2 : Int) (x3 : Int)  (H : wfM m → inR x1 → inR x2 → inR x3 → ∃ (e1 : Nat) (P2 : Int → MM → Prop), e1 < d ∧ CI l G Y_M_isPlate e1 [.inr (.inr 70), .inl x1] m P2 ∧ (∀ z7 m8, P2 z7 m8 → inR z7 → wfM m8 → ((z7 = 0 → (P (-1) m8)) ∧ (¬ (z7 = 0) → (∃ (e17 : Nat) (P18 : Int → MM → Prop), e17 < d ∧ CI l G Y_M_isPlate e17 [.inr (.inr 70), .inl x2] m8 P18 ∧ (∀ z23 m24, P18 z23 m24 → inR z23 → wfM m24 → ((z23 = 0 → (P (-1) m24)) ∧ (¬ (z23 = 0) → (∃ (e33 : Nat) (P34 : Int → MM → Prop), e33 < d ∧ CI l G Y_M_isIn e33 [.inl x3, .inl 0, .inl 1] m24 P34 ∧ (∀ z39 m40, P34 z39 m40 → inR z39 → wfM m40 → ((z39 ≠ 0 → (∃ (e49 : Nat) (P50 : Int → MM → Prop), e49 < d ∧ CI l G Y_M_lots e49 [.inr (.inr 70)] m40 P50 ∧ (∀ z55 m56, P50 z55 m56 → inR z55 → wfM m56 → ((inR ((bShl 1 z55) - 1)) ∧ (∃ (e62 : Nat) (P63 : Int → MM → Prop), e62 < d ∧ CI l G Y_M_squareOf e62 [.inr (.inr 70), .inl (bAnd ((bShl 1 z55) - 1) (bXor (bShl 1 x1) (-1))), .inl (bAnd ((bShl 1 z55) - 1) (bXor (bShl 1 x2) (-1)))] m56 P63 ∧ (∀ z68 m69, P63 z68 m69 → inR z68 → wfM m69 → ((inR (x1 + x2)) ∧ (((Int.tmod (x1 + x2) 2) ≠ 1 → (∃ (e80 : Nat) (P81 : Int → MM → Prop), e80 < d ∧ CI l G Y_M_divisor e80 [.inl (m69 70 42), .inl z68] m69 P81 ∧ (∀ z86 m87, P81 z86 m87 → inR z86 → wfM m87 → ((x3 ≠ 0 → ((0 < z86) ∧ (P (Int.tdiv (m87 70 42) z86) m87))) ∧ (¬ (x3 ≠ 0) → ((0 < z86) ∧ (P (Int.tdiv z68 z86) m87))))))) ∧ (¬ ((Int.tmod (x1 + x2) 2) ≠ 1) → ((inR (-z68)) ∧ (∃ (e102 : Nat) (P103 : Int → MM → Prop), e102 < d ∧ CI l G Y_M_divisor e102 [.inl (m69 70 42), .inl (-z68)] m69 P103 ∧ (∀ z108 m109, P103 z108 m109 → inR z108 → wfM m109 → ((x3 ≠ 0 → ((0 < z108) ∧ (P (Int.tdiv (m109 70 42) z108) m109))) ∧ (¬ (x3 ≠ 0) → ((0 < z108) ∧ (P (Int.tdiv (-z68) z108) m109)))))))))))))))) ∧ (¬ (z39 ≠ 0) → (P (-1) m40))))))))))))) : CI l G Y_M_mean d [.inr (.inr 70), .inl x1, .inl x2, .inl x3] m P := by
  refine CI.of [(0, .inr (.inr 70)), (1, .inl x1), (2, .inl x2), (3, .inl x3)] k_M_mean.1 (Nat.le_of_ble_eq_true rfl) rfl (Wp.wf (fun hw _ hl hs => ?_))
  have H0 := H hw (hl _ (List.mem_of_getElem? (i := 1) rfl)) (hl _ (List.mem_of_getElem? (i := 2) rfl)) (hl _ (List.mem_of_getElem? (i := 3) rfl))
  refine Wp.aload_n 0 0 d_M_mean_0 rfl rfl ?_
  refine Wp.iload_n 1 1 d_M_mean_1 rfl rfl ?_
  obtain ⟨e1, P2, hd3, ho4, H5⟩ := H0
  refine Wq.VI (st := []) [.inl x1] d_M_mean_2 k_M_isPlate ml_M_405 rfl rfl rfl (fun h => by cases h) (Nat.le_of_ble_eq_true rfl) hd3 ho4 (fun z7 m8 hp9 hz10 hw11 => ?_)
  have H6 := H5 z7 m8 hp9 hz10 hw11
  obtain ⟨H13, H14⟩ := H6
  refine Wp.if_eq 25 d_M_mean_5 (by decide) (fun c12 => ?_) (fun c12 => ?_)
  · have H15 := H13 c12
    refine Wp.iconst d_M_mean_25 (by decide) ?_
    exact Wq.iret d_M_mean_26 rfl H15
  · have H16 := H14 c12
    refine Wp.aload_n 0 0 d_M_mean_8 rfl rfl ?_
    refine Wp.iload_n 2 2 d_M_mean_9 rfl rfl ?_
    obtain ⟨e17, P18, hd19, ho20, H21⟩ := H16
    refine Wq.VI (st := []) [.inl x2] d_M_mean_10 k_M_isPlate ml_M_405 rfl rfl rfl (fun h => by cases h) (Nat.le_of_ble_eq_true rfl) hd19 ho20 (fun z23 m24 hp25 hz26 hw27 => ?_)
    have H22 := H21 z23 m24 hp25 hz26 hw27
    obtain ⟨H29, H30⟩ := H22
    refine Wp.if_eq 25 d_M_mean_13 (by decide) (fun c28 => ?_) (fun c28 => ?_)
    · have H31 := H29 c28
      refine Wp.iconst d_M_mean_25 (by decide) ?_
      exact Wq.iret d_M_mean_26 rfl H31
    · have H32 := H30 c28
      refine Wp.iload_n 3 3 d_M_mean_16 rfl rfl ?_
      refine Wp.iconst d_M_mean_17 (by decide) ?_
      refine Wp.iconst d_M_mean_18 (by decide) ?_
      obtain ⟨e33, P34, hd35, ho36, H37⟩ := H32
      refine Wq.SI (st := []) [.inl x3, .inl 0, .inl 1] d_M_mean_19 k_M_isIn ml_M_341 rfl  (fun h => by cases h) (Nat.le_of_ble_eq_true rfl) hd35 ho36 (fun z39 m40 hp41 hz42 hw43 => ?_)
      have H38 := H37 z39 m40 hp41 hz42 hw43
      obtain ⟨H45, H46⟩ := H38
      refine Wp.if_ne 27 d_M_mean_22 (by decide) (fun c44 => ?_) (fun c44 => ?_)
      · have H47 := H45 c44
        refine Wp.iconst d_M_mean_27 (by decide) ?_
        refine Wp.aload_n 0 0 d_M_mean_28 rfl rfl ?_
        obtain ⟨e49, P50, hd51, ho52, H53⟩ := H47
        refine Wq.VI (st := [.inl 1]) [] d_M_mean_29 k_M_lots ml_M_338 rfl rfl rfl (fun h => by cases h) (Nat.le_of_ble_eq_true rfl) hd51 ho52 (fun z55 m56 hp57 hz58 hw59 => ?_)
        have H54 := H53 z55 m56 hp57 hz58 hw59
        refine Wp.ishl d_M_mean_32 ?_
        refine Wp.iconst d_M_mean_33 (by decide) ?_
        obtain ⟨s60, H61⟩ := H54
        refine Wp.isub d_M_mean_34 s60 ?_
        refine Wp.istore 4 [(0, .inr (.inr 70)), (1, .inl x1), (2, .inl x2), (3, .inl x3), (4, .inl ((bShl 1 z55) - 1))] d_M_mean_35 (by decide) rfl ?_
        refine Wp.aload_n 0 0 d_M_mean_37 rfl rfl ?_
        refine Wp.iload 4 4 d_M_mean_38 rfl ?_
        refine Wp.iconst d_M_mean_40 (by decide) ?_
        refine Wp.iload_n 1 1 d_M_mean_41 rfl rfl ?_
        refine Wp.ishl d_M_mean_42 ?_
        refine Wp.iconst d_M_mean_43 (by decide) ?_
        refine Wp.ixor d_M_mean_44 ?_
        refine Wp.iand d_M_mean_45 ?_
        refine Wp.iload 4 4 d_M_mean_46 rfl ?_
        refine Wp.iconst d_M_mean_48 (by decide) ?_
        refine Wp.iload_n 2 2 d_M_mean_49 rfl rfl ?_
        refine Wp.ishl d_M_mean_50 ?_
        refine Wp.iconst d_M_mean_51 (by decide) ?_
        refine Wp.ixor d_M_mean_52 ?_
        refine Wp.iand d_M_mean_53 ?_
        obtain ⟨e62, P63, hd64, ho65, H66⟩ := H61
        refine Wq.VI (st := []) [.inl (bAnd ((bShl 1 z55) - 1) (bXor (bShl 1 x1) (-1))), .inl (bAnd ((bShl 1 z55) - 1) (bXor (bShl 1 x2) (-1)))] d_M_mean_54 k_M_squareOf ml_M_351 rfl rfl rfl (fun h => by cases h) (Nat.le_of_ble_eq_true rfl) hd64 ho65 (fun z68 m69 hp70 hz71 hw72 => ?_)
        have H67 := H66 z68 m69 hp70 hz71 hw72
        refine Wp.istore 5 [(0, .inr (.inr 70)), (1, .inl x1), (2, .inl x2), (3, .inl x3), (4, .inl ((bShl 1 z55) - 1)), (5, .inl z68)] d_M_mean_57 (by decide) rfl ?_
        refine Wp.iload_n 1 1 d_M_mean_59 rfl rfl ?_
        refine Wp.iload_n 2 2 d_M_mean_60 rfl rfl ?_
        obtain ⟨s73, H74⟩ := H67
        refine Wp.iadd d_M_mean_61 s73 ?_
        refine Wp.iconst d_M_mean_62 (by decide) ?_
        refine Wq.irem d_M_mean_63 (by decide) ?_
        refine Wp.iconst d_M_mean_64 (by decide) ?_
        obtain ⟨H76, H77⟩ := H74
        refine Wp.icmp_ne 73 d_M_mean_65 (by decide) (fun c75 => ?_) (fun c75 => ?_)
        · have H78 := H76 c75
          refine Wp.aload_n 0 0 d_M_mean_73 rfl rfl ?_
          refine Wq.getI 42 rfl d_M_mean_74 fl_M_354 rfl (Or.inl rfl) ?_
          refine Wp.iload 5 5 d_M_mean_77 rfl ?_
          obtain ⟨e80, P81, hd82, ho83, H84⟩ := H78
          refine Wq.SI (st := []) [.inl (m69 70 42), .inl z68] d_M_mean_79 k_M_divisor ml_M_489 rfl  (fun h => by cases h) (Nat.le_of_ble_eq_true rfl) hd82 ho83 (fun z86 m87 hp88 hz89 hw90 => ?_)
          have H85 := H84 z86 m87 hp88 hz89 hw90
          refine Wp.istore 6 [(0, .inr (.inr 70)), (1, .inl x1), (2, .inl x2), (3, .inl x3), (4, .inl ((bShl 1 z55) - 1)), (5, .inl z68), (6, .inl z86)] d_M_mean_82 (by decide) rfl ?_
          refine Wp.iload_n 3 3 d_M_mean_84 rfl rfl ?_
          obtain ⟨H92, H93⟩ := H85
          refine Wp.if_ne 93 d_M_mean_85 (by decide) (fun c91 => ?_) (fun c91 => ?_)
          · have H94 := H92 c91
            refine Wp.aload_n 0 0 d_M_mean_93 rfl rfl ?_
            refine Wq.getI 42 rfl d_M_mean_94 fl_M_354 rfl (Or.inl rfl) ?_
            refine Wp.iload 6 6 d_M_mean_97 rfl ?_
            obtain ⟨s96, H97⟩ := H94
            refine Wq.idiv d_M_mean_99 s96 ?_
            exact Wq.iret d_M_mean_100 rfl H97
          · have H95 := H93 c91
            refine Wp.iload 5 5 d_M_mean_88 rfl ?_
            refine Wp.goto 97 d_M_mean_90 (by decide) ?_
            refine Wp.iload 6 6 d_M_mean_97 rfl ?_
            obtain ⟨s98, H99⟩ := H95
            refine Wq.idiv d_M_mean_99 s98 ?_
            exact Wq.iret d_M_mean_100 rfl H99
        · have H79 := H77 c75
          refine Wp.iload 5 5 d_M_mean_68 rfl ?_
          obtain ⟨s100, H101⟩ := H79
          refine Wp.ineg d_M_mean_70 s100 ?_
          refine Wp.istore 5 [(0, .inr (.inr 70)), (1, .inl x1), (2, .inl x2), (3, .inl x3), (4, .inl ((bShl 1 z55) - 1)), (5, .inl (-z68))] d_M_mean_71 (by decide) rfl ?_
          refine Wp.aload_n 0 0 d_M_mean_73 rfl rfl ?_
          refine Wq.getI 42 rfl d_M_mean_74 fl_M_354 rfl (Or.inl rfl) ?_
          refine Wp.iload 5 5 d_M_mean_77 rfl ?_
          obtain ⟨e102, P103, hd104, ho105, H106⟩ := H101
          refine Wq.SI (st := []) [.inl (m69 70 42), .inl (-z68)] d_M_mean_79 k_M_divisor ml_M_489 rfl  (fun h => by cases h) (Nat.le_of_ble_eq_true rfl) hd104 ho105 (fun z108 m109 hp110 hz111 hw112 => ?_)
          have H107 := H106 z108 m109 hp110 hz111 hw112
          refine Wp.istore 6 [(0, .inr (.inr 70)), (1, .inl x1), (2, .inl x2), (3, .inl x3), (4, .inl ((bShl 1 z55) - 1)), (5, .inl (-z68)), (6, .inl z108)] d_M_mean_82 (by decide) rfl ?_
          refine Wp.iload_n 3 3 d_M_mean_84 rfl rfl ?_
          obtain ⟨H114, H115⟩ := H107
          refine Wp.if_ne 93 d_M_mean_85 (by decide) (fun c113 => ?_) (fun c113 => ?_)
          · have H116 := H114 c113
            refine Wp.aload_n 0 0 d_M_mean_93 rfl rfl ?_
            refine Wq.getI 42 rfl d_M_mean_94 fl_M_354 rfl (Or.inl rfl) ?_
            refine Wp.iload 6 6 d_M_mean_97 rfl ?_
            obtain ⟨s118, H119⟩ := H116
            refine Wq.idiv d_M_mean_99 s118 ?_
            exact Wq.iret d_M_mean_100 rfl H119
          · have H117 := H115 c113
            refine Wp.iload 5 5 d_M_mean_88 rfl ?_
            refine Wp.goto 97 d_M_mean_90 (by decide) ?_
            refine Wp.iload 6 6 d_M_mean_97 rfl ?_
            obtain ⟨s120, H121⟩ := H117
            refine Wq.idiv d_M_mean_99 s120 ?_
            exact Wq.iret d_M_mean_100 rfl H121
      · have H48 := H46 c44
        refine Wp.iconst d_M_mean_25 (by decide) ?_
        exact Wq.iret d_M_mean_26 rfl H48
theorem d_M_divisor_0 : decode Y_M_divisor.2.1 0 = .ok (.iload_n 0, 1) := by decide +kernel
theorem d_M_divisor_1 : decode Y_M_divisor.2.1 1 = .ok (.ifCond .ge 8, 3) := by decide +kernel
theorem d_M_divisor_4 : decode Y_M_divisor.2.1 4 = .ok (.iload_n 0, 1) := by decide +kernel
theorem d_M_divisor_5 : decode Y_M_divisor.2.1 5 = .ok (.ineg, 1) := by decide +kernel
theorem d_M_divisor_6 : decode Y_M_divisor.2.1 6 = .ok (.goto 4, 3) := by decide +kernel
theorem d_M_divisor_9 : decode Y_M_divisor.2.1 9 = .ok (.iload_n 0, 1) := by decide +kernel
theorem d_M_divisor_10 : decode Y_M_divisor.2.1 10 = .ok (.istore_n 2, 1) := by decide +kernel
theorem d_M_divisor_11 : decode Y_M_divisor.2.1 11 = .ok (.iload_n 1, 1) := by decide +kernel
theorem d_M_divisor_12 : decode Y_M_divisor.2.1 12 = .ok (.ifCond .ge 8, 3) := by decide +kernel
theorem d_M_divisor_15 : decode Y_M_divisor.2.1 15 = .ok (.iload_n 1, 1) := by decide +kernel
theorem d_M_divisor_16 : decode Y_M_divisor.2.1 16 = .ok (.ineg, 1) := by decide +kernel
theorem d_M_divisor_17 : decode Y_M_divisor.2.1 17 = .ok (.goto 4, 3) := by decide +kernel
theorem d_M_divisor_20 : decode Y_M_divisor.2.1 20 = .ok (.iload_n 1, 1) := by decide +kernel
theorem d_M_divisor_21 : decode Y_M_divisor.2.1 21 = .ok (.istore_n 3, 1) := by decide +kernel
theorem d_M_divisor_22 : decode Y_M_divisor.2.1 22 = .ok (.iload_n 3, 1) := by decide +kernel
theorem d_M_divisor_23 : decode Y_M_divisor.2.1 23 = .ok (.ifCond .le 16, 3) := by decide +kernel
theorem d_M_divisor_26 : decode Y_M_divisor.2.1 26 = .ok (.iload_n 2, 1) := by decide +kernel
theorem d_M_divisor_27 : decode Y_M_divisor.2.1 27 = .ok (.iload_n 3, 1) := by decide +kernel
theorem d_M_divisor_28 : decode Y_M_divisor.2.1 28 = .ok (.irem, 1) := by decide +kernel
theorem d_M_divisor_29 : decode Y_M_divisor.2.1 29 = .ok (.istore 4, 2) := by decide +kernel
theorem d_M_divisor_31 : decode Y_M_divisor.2.1 31 = .ok (.iload_n 3, 1) := by decide +kernel
theorem d_M_divisor_32 : decode Y_M_divisor.2.1 32 = .ok (.istore_n 2, 1) := by decide +kernel
theorem d_M_divisor_33 : decode Y_M_divisor.2.1 33 = .ok (.iload 4, 2) := by decide +kernel
theorem d_M_divisor_35 : decode Y_M_divisor.2.1 35 = .ok (.istore_n 3, 1) := by decide +kernel
theorem d_M_divisor_36 : decode Y_M_divisor.2.1 36 = .ok (.goto (-14), 3) := by decide +kernel
theorem d_M_divisor_39 : decode Y_M_divisor.2.1 39 = .ok (.iload_n 2, 1) := by decide +kernel
theorem d_M_divisor_40 : decode Y_M_divisor.2.1 40 = .ok (.ireturn, 1) := by decide +kernel
theorem e_M_divisor {l : Launch} {G : GT} {d : Nat} {P : Int → MM → Prop} {m : MM} (x0 : Int) (x1 : Int)  (H : wfM m → inR x0 → inR x1 → (x0 ≥ 0 → ((x1 ≥ 0 → (Wq l G false Y_M_divisor d (QI P) 22 [(2, .inl x0), (3, .inl x1)] [] m)) ∧ (¬ (x1 ≥ 0) → ((inR (-x1)) ∧ (Wq l G false Y_M_divisor d (QI P) 22 [(2, .inl x0), (3, .inl (-x1))] [] m))))) ∧ (¬ (x0 ≥ 0) → ((inR (-x0)) ∧ ((x1 ≥ 0 → (Wq l G false Y_M_divisor d (QI P) 22 [(2, .inl (-x0)), (3, .inl x1)] [] m)) ∧ (¬ (x1 ≥ 0) → ((inR (-x1)) ∧ (Wq l G false Y_M_divisor d (QI P) 22 [(2, .inl (-x0)), (3, .inl (-x1))] [] m))))))) : CI l G Y_M_divisor d [.inl x0, .inl x1] m P := by
  refine CI.of [(0, .inl x0), (1, .inl x1)] k_M_divisor.1 (Nat.le_of_ble_eq_true rfl) rfl (Wp.wf (fun hw _ hl hs => ?_))
  have H0 := H hw (hl _ (List.mem_of_getElem? (i := 0) rfl)) (hl _ (List.mem_of_getElem? (i := 1) rfl))
  refine Wp.iload_n 0 0 d_M_divisor_0 rfl rfl ?_
  obtain ⟨H2, H3⟩ := H0
  refine Wp.if_ge 9 d_M_divisor_1 (by decide) (fun c1 => ?_) (fun c1 => ?_)
  · have H4 := H2 c1
    refine Wp.iload_n 0 0 d_M_divisor_9 rfl rfl ?_
    refine Wp.istore_n 2 [(0, .inl x0), (1, .inl x1), (2, .inl x0)] d_M_divisor_10 rfl (by decide) rfl ?_
    refine Wp.iload_n 1 1 d_M_divisor_11 rfl rfl ?_
    obtain ⟨H7, H8⟩ := H4
    refine Wp.if_ge 20 d_M_divisor_12 (by decide) (fun c6 => ?_) (fun c6 => ?_)
    · have H9 := H7 c6
      refine Wp.iload_n 1 1 d_M_divisor_20 rfl rfl ?_
      refine Wp.istore_n 3 [(0, .inl x0), (1, .inl x1), (2, .inl x0), (3, .inl x1)] d_M_divisor_21 rfl (by decide) rfl ?_
      refine Wp.pick [2, 3] [(2, .inl x0), (3, .inl x1)] rfl ?_
      exact H9
    · have H10 := H8 c6
      refine Wp.iload_n 1 1 d_M_divisor_15 rfl rfl ?_
      obtain ⟨s11, H12⟩ := H10
      refine Wp.ineg d_M_divisor_16 s11 ?_
      refine Wp.goto 21 d_M_divisor_17 (by decide) ?_
      refine Wp.istore_n 3 [(0, .inl x0), (1, .inl x1), (2, .inl x0), (3, .inl (-x1))] d_M_divisor_21 rfl (by decide) rfl ?_
      refine Wp.pick [2, 3] [(2, .inl x0), (3, .inl (-x1))] rfl ?_
      exact H12
  · have H5 := H3 c1
    refine Wp.iload_n 0 0 d_M_divisor_4 rfl rfl ?_
    obtain ⟨s13, H14⟩ := H5
    refine Wp.ineg d_M_divisor_5 s13 ?_
    refine Wp.goto 10 d_M_divisor_6 (by decide) ?_
    refine Wp.istore_n 2 [(0, .inl x0), (1, .inl x1), (2, .inl (-x0))] d_M_divisor_10 rfl (by decide) rfl ?_
    refine Wp.iload_n 1 1 d_M_divisor_11 rfl rfl ?_
    obtain ⟨H16, H17⟩ := H14
    refine Wp.if_ge 20 d_M_divisor_12 (by decide) (fun c15 => ?_) (fun c15 => ?_)
    · have H18 := H16 c15
      refine Wp.iload_n 1 1 d_M_divisor_20 rfl rfl ?_
      refine Wp.istore_n 3 [(0, .inl x0), (1, .inl x1), (2, .inl (-x0)), (3, .inl x1)] d_M_divisor_21 rfl (by decide) rfl ?_
      refine Wp.pick [2, 3] [(2, .inl (-x0)), (3, .inl x1)] rfl ?_
      exact H18
    · have H19 := H17 c15
      refine Wp.iload_n 1 1 d_M_divisor_15 rfl rfl ?_
      obtain ⟨s20, H21⟩ := H19
      refine Wp.ineg d_M_divisor_16 s20 ?_
      refine Wp.goto 21 d_M_divisor_17 (by decide) ?_
      refine Wp.istore_n 3 [(0, .inl x0), (1, .inl x1), (2, .inl (-x0)), (3, .inl (-x1))] d_M_divisor_21 rfl (by decide) rfl ?_
      refine Wp.pick [2, 3] [(2, .inl (-x0)), (3, .inl (-x1))] rfl ?_
      exact H21
theorem s_M_divisor_22 {l : Launch} {G : GT} {d : Nat} {P : Int → MM → Prop} {m : MM} (x2 : Int) (x3 : Int)  (H : wfM m → inR x2 → inR x3 → (x3 ≤ 0 → (P x2 m)) ∧ (¬ (x3 ≤ 0) → ((x3 ≠ 0) ∧ (Wq l G false Y_M_divisor d (QI P) 22 [(2, .inl x3), (3, .inl (Int.tmod x2 x3))] [] m)))) : Wq l G false Y_M_divisor d (QI P) 22 [(2, .inl x2), (3, .inl x3)] [] m := by
  refine Wp.wf (fun hw _ hl hs => ?_)
  have H0 := H hw (hl _ (List.mem_of_getElem? (i := 0) rfl)) (hl _ (List.mem_of_getElem? (i := 1) rfl))
  refine Wp.iload_n 1 3 d_M_divisor_22 rfl rfl ?_
  obtain ⟨H2, H3⟩ := H0
  refine Wp.if_le 39 d_M_divisor_23 (by decide) (fun c1 => ?_) (fun c1 => ?_)
  · have H4 := H2 c1
    refine Wp.iload_n 0 2 d_M_divisor_39 rfl rfl ?_
    exact Wq.iret d_M_divisor_40 rfl H4
  · have H5 := H3 c1
    refine Wp.iload_n 0 2 d_M_divisor_26 rfl rfl ?_
    refine Wp.iload_n 1 3 d_M_divisor_27 rfl rfl ?_
    obtain ⟨s6, H7⟩ := H5
    refine Wq.irem d_M_divisor_28 s6 ?_
    refine Wp.istore 4 [(2, .inl x2), (3, .inl x3), (4, .inl (Int.tmod x2 x3))] d_M_divisor_29 (by decide) rfl ?_
    refine Wp.iload_n 1 3 d_M_divisor_31 rfl rfl ?_
    refine Wp.istore_n 2 [(2, .inl x3), (3, .inl x3), (4, .inl (Int.tmod x2 x3))] d_M_divisor_32 rfl (by decide) rfl ?_
    refine Wp.iload 2 4 d_M_divisor_33 rfl ?_
    refine Wp.istore_n 3 [(2, .inl x3), (3, .inl (Int.tmod x2 x3)), (4, .inl (Int.tmod x2 x3))] d_M_divisor_35 rfl (by decide) rfl ?_
    refine Wp.goto 22 d_M_divisor_36 (by decide) ?_
    refine Wp.pick [0, 1] [(2, .inl x3), (3, .inl (Int.tmod x2 x3))] rfl ?_
    exact H7
theorem d_M_parts_0 : decode Y_M_parts.2.1 0 = .ok (.iload_n 1, 1) := by decide +kernel
theorem d_M_parts_1 : decode Y_M_parts.2.1 1 = .ok (.istore_n 2, 1) := by decide +kernel
theorem d_M_parts_2 : decode Y_M_parts.2.1 2 = .ok (.iconst 1, 1) := by decide +kernel
theorem d_M_parts_3 : decode Y_M_parts.2.1 3 = .ok (.istore_n 3, 1) := by decide +kernel
theorem d_M_parts_4 : decode Y_M_parts.2.1 4 = .ok (.iconst 1, 1) := by decide +kernel
theorem d_M_parts_5 : decode Y_M_parts.2.1 5 = .ok (.istore 4, 2) := by decide +kernel
theorem d_M_parts_7 : decode Y_M_parts.2.1 7 = .ok (.iload 4, 2) := by decide +kernel
theorem d_M_parts_9 : decode Y_M_parts.2.1 9 = .ok (.aload_n 0, 1) := by decide +kernel
theorem d_M_parts_10 : decode Y_M_parts.2.1 10 = .ok (.invokevirtual 338, 3) := by decide +kernel
theorem d_M_parts_13 : decode Y_M_parts.2.1 13 = .ok (.if_icmp .gt 49, 3) := by decide +kernel
theorem d_M_parts_16 : decode Y_M_parts.2.1 16 = .ok (.iload_n 1, 1) := by decide +kernel
theorem d_M_parts_17 : decode Y_M_parts.2.1 17 = .ok (.ifCond .lt 45, 3) := by decide +kernel
theorem d_M_parts_20 : decode Y_M_parts.2.1 20 = .ok (.aload_n 0, 1) := by decide +kernel
theorem d_M_parts_21 : decode Y_M_parts.2.1 21 = .ok (.iload 4, 2) := by decide +kernel
theorem d_M_parts_23 : decode Y_M_parts.2.1 23 = .ok (.invokevirtual 492, 3) := by decide +kernel
theorem d_M_parts_26 : decode Y_M_parts.2.1 26 = .ok (.istore 5, 2) := by decide +kernel
theorem d_M_parts_28 : decode Y_M_parts.2.1 28 = .ok (.iload 5, 2) := by decide +kernel
theorem d_M_parts_30 : decode Y_M_parts.2.1 30 = .ok (.iload_n 3, 1) := by decide +kernel
theorem d_M_parts_31 : decode Y_M_parts.2.1 31 = .ok (.idiv, 1) := by decide +kernel
theorem d_M_parts_32 : decode Y_M_parts.2.1 32 = .ok (.istore 6, 2) := by decide +kernel
theorem d_M_parts_34 : decode Y_M_parts.2.1 34 = .ok (.iload 5, 2) := by decide +kernel
theorem d_M_parts_36 : decode Y_M_parts.2.1 36 = .ok (.istore_n 3, 1) := by decide +kernel
theorem d_M_parts_37 : decode Y_M_parts.2.1 37 = .ok (.iload 6, 2) := by decide +kernel
theorem d_M_parts_39 : decode Y_M_parts.2.1 39 = .ok (.iconst 1, 1) := by decide +kernel
theorem d_M_parts_40 : decode Y_M_parts.2.1 40 = .ok (.if_icmp .ne 6, 3) := by decide +kernel
theorem d_M_parts_43 : decode Y_M_parts.2.1 43 = .ok (.goto 13, 3) := by decide +kernel
theorem d_M_parts_46 : decode Y_M_parts.2.1 46 = .ok (.iload_n 2, 1) := by decide +kernel
theorem d_M_parts_47 : decode Y_M_parts.2.1 47 = .ok (.ifCond .ne 6, 3) := by decide +kernel
theorem d_M_parts_50 : decode Y_M_parts.2.1 50 = .ok (.iload 6, 2) := by decide +kernel
theorem d_M_parts_52 : decode Y_M_parts.2.1 52 = .ok (.ireturn, 1) := by decide +kernel
theorem d_M_parts_53 : decode Y_M_parts.2.1 53 = .ok (.iinc 2 (-1), 3) := by decide +kernel
theorem d_M_parts_56 : decode Y_M_parts.2.1 56 = .ok (.iinc 4 1, 3) := by decide +kernel
theorem d_M_parts_59 : decode Y_M_parts.2.1 59 = .ok (.goto (-52), 3) := by decide +kernel
theorem d_M_parts_62 : decode Y_M_parts.2.1 62 = .ok (.iconst (-1), 1) := by decide +kernel
theorem d_M_parts_63 : decode Y_M_parts.2.1 63 = .ok (.ireturn, 1) := by decide +kernel
theorem e_M_parts {l : Launch} {G : GT} {d : Nat} {P : Int → MM → Prop} {m : MM} (x1 : Int)  (H : wfM m → inR x1 → Wq l G false Y_M_parts d (QI P) 7 [(0, .inr (.inr 70)), (1, .inl x1), (2, .inl x1), (3, .inl 1), (4, .inl 1)] [] m) : CI l G Y_M_parts d [.inr (.inr 70), .inl x1] m P := by
  refine CI.of [(0, .inr (.inr 70)), (1, .inl x1)] k_M_parts.1 (Nat.le_of_ble_eq_true rfl) rfl (Wp.wf (fun hw _ hl hs => ?_))
  have H0 := H hw (hl _ (List.mem_of_getElem? (i := 1) rfl))
  refine Wp.iload_n 1 1 d_M_parts_0 rfl rfl ?_
  refine Wp.istore_n 2 [(0, .inr (.inr 70)), (1, .inl x1), (2, .inl x1)] d_M_parts_1 rfl (by decide) rfl ?_
  refine Wp.iconst d_M_parts_2 (by decide) ?_
  refine Wp.istore_n 3 [(0, .inr (.inr 70)), (1, .inl x1), (2, .inl x1), (3, .inl 1)] d_M_parts_3 rfl (by decide) rfl ?_
  refine Wp.iconst d_M_parts_4 (by decide) ?_
  refine Wp.istore 4 [(0, .inr (.inr 70)), (1, .inl x1), (2, .inl x1), (3, .inl 1), (4, .inl 1)] d_M_parts_5 (by decide) rfl ?_
  exact H0
theorem s_M_parts_7 {l : Launch} {G : GT} {d : Nat} {P : Int → MM → Prop} {m : MM} (x1 : Int) (x2 : Int) (x3 : Int) (x4 : Int)  (H : wfM m → inR x1 → inR x2 → inR x3 → inR x4 → ∃ (e1 : Nat) (P2 : Int → MM → Prop), e1 < d ∧ CI l G Y_M_lots e1 [.inr (.inr 70)] m P2 ∧ (∀ z7 m8, P2 z7 m8 → inR z7 → wfM m8 → ((x4 > z7 → (P (-1) m8)) ∧ (¬ (x4 > z7) → ((x1 < 0 → (P (-1) m8)) ∧ (¬ (x1 < 0) → (∃ (e22 : Nat) (P23 : Int → MM → Prop), e22 < d ∧ CI l G Y_M_divisorOf e22 [.inr (.inr 70), .inl x4] m8 P23 ∧ (∀ z28 m29, P23 z28 m29 → inR z28 → wfM m29 → ((0 < x3) ∧ (((Int.tdiv z28 x3) ≠ 1 → ((x2 ≠ 0 → ((inR (x2 + (-1))) ∧ ((inR (x4 + 1)) ∧ (Wq l G false Y_M_parts d (QI P) 7 [(0, .inr (.inr 70)), (1, .inl x1), (2, .inl (x2 + (-1))), (3, .inl z28), (4, .inl (x4 + 1))] [] m29)))) ∧ (¬ (x2 ≠ 0) → (P (Int.tdiv z28 x3) m29)))) ∧ (¬ ((Int.tdiv z28 x3) ≠ 1) → ((inR (x4 + 1)) ∧ (Wq l G false Y_M_parts d (QI P) 7 [(0, .inr (.inr 70)), (1, .inl x1), (2, .inl x2), (3, .inl z28), (4, .inl (x4 + 1))] [] m29))))))))))))) : Wq l G false Y_M_parts d (QI P) 7 [(0, .inr (.inr 70)), (1, .inl x1), (2, .inl x2), (3, .inl x3), (4, .inl x4)] [] m := by
  refine Wp.wf (fun hw _ hl hs => ?_)
  have H0 := H hw (hl _ (List.mem_of_getElem? (i := 1) rfl)) (hl _ (List.mem_of_getElem? (i := 2) rfl)) (hl _ (List.mem_of_getElem? (i := 3) rfl)) (hl _ (List.mem_of_getElem? (i := 4) rfl))
  refine Wp.iload 4 4 d_M_parts_7 rfl ?_
  refine Wp.aload_n 0 0 d_M_parts_9 rfl rfl ?_
  obtain ⟨e1, P2, hd3, ho4, H5⟩ := H0
  refine Wq.VI (st := [.inl x4]) [] d_M_parts_10 k_M_lots ml_M_338 rfl rfl rfl (fun h => by cases h) (Nat.le_of_ble_eq_true rfl) hd3 ho4 (fun z7 m8 hp9 hz10 hw11 => ?_)
  have H6 := H5 z7 m8 hp9 hz10 hw11
  obtain ⟨H13, H14⟩ := H6
  refine Wp.icmp_gt 62 d_M_parts_13 (by decide) (fun c12 => ?_) (fun c12 => ?_)
  · have H15 := H13 c12
    refine Wp.iconst d_M_parts_62 (by decide) ?_
    exact Wq.iret d_M_parts_63 rfl H15
  · have H16 := H14 c12
    refine Wp.iload_n 1 1 d_M_parts_16 rfl rfl ?_
    obtain ⟨H18, H19⟩ := H16
    refine Wp.if_lt 62 d_M_parts_17 (by decide) (fun c17 => ?_) (fun c17 => ?_)
    · have H20 := H18 c17
      refine Wp.iconst d_M_parts_62 (by decide) ?_
      exact Wq.iret d_M_parts_63 rfl H20
    · have H21 := H19 c17
      refine Wp.aload_n 0 0 d_M_parts_20 rfl rfl ?_
      refine Wp.iload 4 4 d_M_parts_21 rfl ?_
      obtain ⟨e22, P23, hd24, ho25, H26⟩ := H21
      refine Wq.VI (st := []) [.inl x4] d_M_parts_23 k_M_divisorOf ml_M_492 rfl rfl rfl (fun h => by cases h) (Nat.le_of_ble_eq_true rfl) hd24 ho25 (fun z28 m29 hp30 hz31 hw32 => ?_)
      have H27 := H26 z28 m29 hp30 hz31 hw32
      refine Wp.istore 5 [(0, .inr (.inr 70)), (1, .inl x1), (2, .inl x2), (3, .inl x3), (4, .inl x4), (5, .inl z28)] d_M_parts_26 (by decide) rfl ?_
      refine Wp.iload 5 5 d_M_parts_28 rfl ?_
      refine Wp.iload_n 3 3 d_M_parts_30 rfl rfl ?_
      obtain ⟨s33, H34⟩ := H27
      refine Wq.idiv d_M_parts_31 s33 ?_
      refine Wp.istore 6 [(0, .inr (.inr 70)), (1, .inl x1), (2, .inl x2), (3, .inl x3), (4, .inl x4), (5, .inl z28), (6, .inl (Int.tdiv z28 x3))] d_M_parts_32 (by decide) rfl ?_
      refine Wp.iload 5 5 d_M_parts_34 rfl ?_
      refine Wp.istore_n 3 [(0, .inr (.inr 70)), (1, .inl x1), (2, .inl x2), (3, .inl z28), (4, .inl x4), (5, .inl z28), (6, .inl (Int.tdiv z28 x3))] d_M_parts_36 rfl (by decide) rfl ?_
      refine Wp.iload 6 6 d_M_parts_37 rfl ?_
      refine Wp.iconst d_M_parts_39 (by decide) ?_
      obtain ⟨H36, H37⟩ := H34
      refine Wp.icmp_ne 46 d_M_parts_40 (by decide) (fun c35 => ?_) (fun c35 => ?_)
      · have H38 := H36 c35
        refine Wp.iload_n 2 2 d_M_parts_46 rfl rfl ?_
        obtain ⟨H41, H42⟩ := H38
        refine Wp.if_ne 53 d_M_parts_47 (by decide) (fun c40 => ?_) (fun c40 => ?_)
        · have H43 := H41 c40
          obtain ⟨s45, H46⟩ := H43
          refine Wp.iinc 2 2 [(0, .inr (.inr 70)), (1, .inl x1), (2, .inl (x2 + (-1))), (3, .inl z28), (4, .inl x4), (5, .inl z28), (6, .inl (Int.tdiv z28 x3))] d_M_parts_53 rfl s45 (by decide) rfl ?_
          obtain ⟨s47, H48⟩ := H46
          refine Wp.iinc 4 4 [(0, .inr (.inr 70)), (1, .inl x1), (2, .inl (x2 + (-1))), (3, .inl z28), (4, .inl (x4 + 1)), (5, .inl z28), (6, .inl (Int.tdiv z28 x3))] d_M_parts_56 rfl s47 (by decide) rfl ?_
          refine Wp.goto 7 d_M_parts_59 (by decide) ?_
          refine Wp.pick [0, 1, 2, 3, 4] [(0, .inr (.inr 70)), (1, .inl x1), (2, .inl (x2 + (-1))), (3, .inl z28), (4, .inl (x4 + 1))] rfl ?_
          exact H48
        · have H44 := H42 c40
          refine Wp.iload 6 6 d_M_parts_50 rfl ?_
          exact Wq.iret d_M_parts_52 rfl H44
      · have H39 := H37 c35
        refine Wp.goto 56 d_M_parts_43 (by decide) ?_
        obtain ⟨s49, H50⟩ := H39
        refine Wp.iinc 4 4 [(0, .inr (.inr 70)), (1, .inl x1), (2, .inl x2), (3, .inl z28), (4, .inl (x4 + 1)), (5, .inl z28), (6, .inl (Int.tdiv z28 x3))] d_M_parts_56 rfl s49 (by decide) rfl ?_
        refine Wp.goto 7 d_M_parts_59 (by decide) ?_
        refine Wp.pick [0, 1, 2, 3, 4] [(0, .inr (.inr 70)), (1, .inl x1), (2, .inl x2), (3, .inl z28), (4, .inl (x4 + 1))] rfl ?_
        exact H50
theorem d_M_divisorOf_0 : decode Y_M_divisorOf.2.1 0 = .ok (.iconst 0, 1) := by decide +kernel
theorem d_M_divisorOf_1 : decode Y_M_divisorOf.2.1 1 = .ok (.istore_n 2, 1) := by decide +kernel
theorem d_M_divisorOf_2 : decode Y_M_divisorOf.2.1 2 = .ok (.iconst 0, 1) := by decide +kernel
theorem d_M_divisorOf_3 : decode Y_M_divisorOf.2.1 3 = .ok (.istore_n 3, 1) := by decide +kernel
theorem d_M_divisorOf_4 : decode Y_M_divisorOf.2.1 4 = .ok (.iload_n 3, 1) := by decide +kernel
theorem d_M_divisorOf_5 : decode Y_M_divisorOf.2.1 5 = .ok (.iconst 1, 1) := by decide +kernel
theorem d_M_divisorOf_6 : decode Y_M_divisorOf.2.1 6 = .ok (.aload_n 0, 1) := by decide +kernel
theorem d_M_divisorOf_7 : decode Y_M_divisorOf.2.1 7 = .ok (.invokevirtual 338, 3) := by decide +kernel
theorem d_M_divisorOf_10 : decode Y_M_divisorOf.2.1 10 = .ok (.ishl, 1) := by decide +kernel
theorem d_M_divisorOf_11 : decode Y_M_divisorOf.2.1 11 = .ok (.if_icmp .ge 58, 3) := by decide +kernel
theorem d_M_divisorOf_14 : decode Y_M_divisorOf.2.1 14 = .ok (.iconst 0, 1) := by decide +kernel
theorem d_M_divisorOf_15 : decode Y_M_divisorOf.2.1 15 = .ok (.istore 4, 2) := by decide +kernel
theorem d_M_divisorOf_17 : decode Y_M_divisorOf.2.1 17 = .ok (.iload 4, 2) := by decide +kernel
theorem d_M_divisorOf_19 : decode Y_M_divisorOf.2.1 19 = .ok (.iconst 1, 1) := by decide +kernel
theorem d_M_divisorOf_20 : decode Y_M_divisorOf.2.1 20 = .ok (.aload_n 0, 1) := by decide +kernel
theorem d_M_divisorOf_21 : decode Y_M_divisorOf.2.1 21 = .ok (.invokevirtual 338, 3) := by decide +kernel
theorem d_M_divisorOf_24 : decode Y_M_divisorOf.2.1 24 = .ok (.ishl, 1) := by decide +kernel
theorem d_M_divisorOf_25 : decode Y_M_divisorOf.2.1 25 = .ok (.if_icmp .ge 38, 3) := by decide +kernel
theorem d_M_divisorOf_28 : decode Y_M_divisorOf.2.1 28 = .ok (.iload_n 3, 1) := by decide +kernel
theorem d_M_divisorOf_29 : decode Y_M_divisorOf.2.1 29 = .ok (.invokestatic 471, 3) := by decide +kernel
theorem d_M_divisorOf_32 : decode Y_M_divisorOf.2.1 32 = .ok (.iload_n 1, 1) := by decide +kernel
theorem d_M_divisorOf_33 : decode Y_M_divisorOf.2.1 33 = .ok (.if_icmp .ne 24, 3) := by decide +kernel
theorem d_M_divisorOf_36 : decode Y_M_divisorOf.2.1 36 = .ok (.iload 4, 2) := by decide +kernel
theorem d_M_divisorOf_38 : decode Y_M_divisorOf.2.1 38 = .ok (.invokestatic 471, 3) := by decide +kernel
theorem d_M_divisorOf_41 : decode Y_M_divisorOf.2.1 41 = .ok (.iload_n 1, 1) := by decide +kernel
theorem d_M_divisorOf_42 : decode Y_M_divisorOf.2.1 42 = .ok (.if_icmp .ne 15, 3) := by decide +kernel
theorem d_M_divisorOf_45 : decode Y_M_divisorOf.2.1 45 = .ok (.iload_n 2, 1) := by decide +kernel
theorem d_M_divisorOf_46 : decode Y_M_divisorOf.2.1 46 = .ok (.aload_n 0, 1) := by decide +kernel
theorem d_M_divisorOf_47 : decode Y_M_divisorOf.2.1 47 = .ok (.iload_n 3, 1) := by decide +kernel
theorem d_M_divisorOf_48 : decode Y_M_divisorOf.2.1 48 = .ok (.iload 4, 2) := by decide +kernel
theorem d_M_divisorOf_50 : decode Y_M_divisorOf.2.1 50 = .ok (.invokevirtual 351, 3) := by decide +kernel
theorem d_M_divisorOf_53 : decode Y_M_divisorOf.2.1 53 = .ok (.invokestatic 489, 3) := by decide +kernel
theorem d_M_divisorOf_56 : decode Y_M_divisorOf.2.1 56 = .ok (.istore_n 2, 1) := by decide +kernel
theorem d_M_divisorOf_57 : decode Y_M_divisorOf.2.1 57 = .ok (.iinc 4 1, 3) := by decide +kernel
theorem d_M_divisorOf_60 : decode Y_M_divisorOf.2.1 60 = .ok (.goto (-43), 3) := by decide +kernel
theorem d_M_divisorOf_63 : decode Y_M_divisorOf.2.1 63 = .ok (.iinc 3 1, 3) := by decide +kernel
theorem d_M_divisorOf_66 : decode Y_M_divisorOf.2.1 66 = .ok (.goto (-62), 3) := by decide +kernel
theorem d_M_divisorOf_69 : decode Y_M_divisorOf.2.1 69 = .ok (.iload_n 2, 1) := by decide +kernel
theorem d_M_divisorOf_70 : decode Y_M_divisorOf.2.1 70 = .ok (.ireturn, 1) := by decide +kernel
theorem e_M_divisorOf {l : Launch} {G : GT} {d : Nat} {P : Int → MM → Prop} {m : MM} (x1 : Int)  (H : wfM m → inR x1 → Wq l G false Y_M_divisorOf d (QI P) 4 [(0, .inr (.inr 70)), (1, .inl x1), (2, .inl 0), (3, .inl 0)] [] m) : CI l G Y_M_divisorOf d [.inr (.inr 70), .inl x1] m P := by
  refine CI.of [(0, .inr (.inr 70)), (1, .inl x1)] k_M_divisorOf.1 (Nat.le_of_ble_eq_true rfl) rfl (Wp.wf (fun hw _ hl hs => ?_))
  have H0 := H hw (hl _ (List.mem_of_getElem? (i := 1) rfl))
  refine Wp.iconst d_M_divisorOf_0 (by decide) ?_
  refine Wp.istore_n 2 [(0, .inr (.inr 70)), (1, .inl x1), (2, .inl 0)] d_M_divisorOf_1 rfl (by decide) rfl ?_
  refine Wp.iconst d_M_divisorOf_2 (by decide) ?_
  refine Wp.istore_n 3 [(0, .inr (.inr 70)), (1, .inl x1), (2, .inl 0), (3, .inl 0)] d_M_divisorOf_3 rfl (by decide) rfl ?_
  exact H0
theorem s_M_divisorOf_4 {l : Launch} {G : GT} {d : Nat} {P : Int → MM → Prop} {m : MM} (x1 : Int) (x2 : Int) (x3 : Int)  (H : wfM m → inR x1 → inR x2 → inR x3 → ∃ (e1 : Nat) (P2 : Int → MM → Prop), e1 < d ∧ CI l G Y_M_lots e1 [.inr (.inr 70)] m P2 ∧ (∀ z7 m8, P2 z7 m8 → inR z7 → wfM m8 → ((x3 ≥ (bShl 1 z7) → (P x2 m8)) ∧ (¬ (x3 ≥ (bShl 1 z7)) → (Wq l G false Y_M_divisorOf d (QI P) 17 [(0, .inr (.inr 70)), (1, .inl x1), (2, .inl x2), (3, .inl x3), (4, .inl 0)] [] m8))))) : Wq l G false Y_M_divisorOf d (QI P) 4 [(0, .inr (.inr 70)), (1, .inl x1), (2, .inl x2), (3, .inl x3)] [] m := by
  refine Wp.wf (fun hw _ hl hs => ?_)
  have H0 := H hw (hl _ (List.mem_of_getElem? (i := 1) rfl)) (hl _ (List.mem_of_getElem? (i := 2) rfl)) (hl _ (List.mem_of_getElem? (i := 3) rfl))
  refine Wp.iload_n 3 3 d_M_divisorOf_4 rfl rfl ?_
  refine Wp.iconst d_M_divisorOf_5 (by decide) ?_
  refine Wp.aload_n 0 0 d_M_divisorOf_6 rfl rfl ?_
  obtain ⟨e1, P2, hd3, ho4, H5⟩ := H0
  refine Wq.VI (st := [.inl 1, .inl x3]) [] d_M_divisorOf_7 k_M_lots ml_M_338 rfl rfl rfl (fun h => by cases h) (Nat.le_of_ble_eq_true rfl) hd3 ho4 (fun z7 m8 hp9 hz10 hw11 => ?_)
  have H6 := H5 z7 m8 hp9 hz10 hw11
  refine Wp.ishl d_M_divisorOf_10 ?_
  obtain ⟨H13, H14⟩ := H6
  refine Wp.icmp_ge 69 d_M_divisorOf_11 (by decide) (fun c12 => ?_) (fun c12 => ?_)
  · have H15 := H13 c12
    refine Wp.iload_n 2 2 d_M_divisorOf_69 rfl rfl ?_
    exact Wq.iret d_M_divisorOf_70 rfl H15
  · have H16 := H14 c12
    refine Wp.iconst d_M_divisorOf_14 (by decide) ?_
    refine Wp.istore 4 [(0, .inr (.inr 70)), (1, .inl x1), (2, .inl x2), (3, .inl x3), (4, .inl 0)] d_M_divisorOf_15 (by decide) rfl ?_
    exact H16
theorem s_M_divisorOf_17 {l : Launch} {G : GT} {d : Nat} {P : Int → MM → Prop} {m : MM} (x1 : Int) (x2 : Int) (x3 : Int) (x4 : Int)  (H : wfM m → inR x1 → inR x2 → inR x3 → inR x4 → ∃ (e1 : Nat) (P2 : Int → MM → Prop), e1 < d ∧ CI l G Y_M_lots e1 [.inr (.inr 70)] m P2 ∧ (∀ z7 m8, P2 z7 m8 → inR z7 → wfM m8 → ((x4 ≥ (bShl 1 z7) → ((inR (x3 + 1)) ∧ (Wq l G false Y_M_divisorOf d (QI P) 4 [(0, .inr (.inr 70)), (1, .inl x1), (2, .inl x2), (3, .inl (x3 + 1))] [] m8))) ∧ (¬ (x4 ≥ (bShl 1 z7)) → (∃ (e19 : Nat) (P20 : Int → MM → Prop), e19 < d ∧ CI l G Y_M_bitsOf e19 [.inl x3] m8 P20 ∧ (∀ z25 m26, P20 z25 m26 → inR z25 → wfM m26 → ((z25 ≠ x1 → ((inR (x4 + 1)) ∧ (Wq l G false Y_M_divisorOf d (QI P) 17 [(0, .inr (.inr 70)), (1, .inl x1), (2, .inl x2), (3, .inl x3), (4, .inl (x4 + 1))] [] m26))) ∧ (¬ (z25 ≠ x1) → (∃ (e37 : Nat) (P38 : Int → MM → Prop), e37 < d ∧ CI l G Y_M_bitsOf e37 [.inl x4] m26 P38 ∧ (∀ z43 m44, P38 z43 m44 → inR z43 → wfM m44 → ((z43 ≠ x1 → ((inR (x4 + 1)) ∧ (Wq l G false Y_M_divisorOf d (QI P) 17 [(0, .inr (.inr 70)), (1, .inl x1), (2, .inl x2), (3, .inl x3), (4, .inl (x4 + 1))] [] m44))) ∧ (¬ (z43 ≠ x1) → (∃ (e55 : Nat) (P56 : Int → MM → Prop), e55 < d ∧ CI l G Y_M_squareOf e55 [.inr (.inr 70), .inl x3, .inl x4] m44 P56 ∧ (∀ z61 m62, P56 z61 m62 → inR z61 → wfM m62 → (∃ (e66 : Nat) (P67 : Int → MM → Prop), e66 < d ∧ CI l G Y_M_divisor e66 [.inl x2, .inl z61] m62 P67 ∧ (∀ z72 m73, P67 z72 m73 → inR z72 → wfM m73 → ((inR (x4 + 1)) ∧ (Wq l G false Y_M_divisorOf d (QI P) 17 [(0, .inr (.inr 70)), (1, .inl x1), (2, .inl z72), (3, .inl x3), (4, .inl (x4 + 1))] [] m73)))))))))))))))))) : Wq l G false Y_M_divisorOf d (QI P) 17 [(0, .inr (.inr 70)), (1, .inl x1), (2, .inl x2), (3, .inl x3), (4, .inl x4)] [] m := by
  refine Wp.wf (fun hw _ hl hs => ?_)
  have H0 := H hw (hl _ (List.mem_of_getElem? (i := 1) rfl)) (hl _ (List.mem_of_getElem? (i := 2) rfl)) (hl _ (List.mem_of_getElem? (i := 3) rfl)) (hl _ (List.mem_of_getElem? (i := 4) rfl))
  refine Wp.iload 4 4 d_M_divisorOf_17 rfl ?_
  refine Wp.iconst d_M_divisorOf_19 (by decide) ?_
  refine Wp.aload_n 0 0 d_M_divisorOf_20 rfl rfl ?_
  obtain ⟨e1, P2, hd3, ho4, H5⟩ := H0
  refine Wq.VI (st := [.inl 1, .inl x4]) [] d_M_divisorOf_21 k_M_lots ml_M_338 rfl rfl rfl (fun h => by cases h) (Nat.le_of_ble_eq_true rfl) hd3 ho4 (fun z7 m8 hp9 hz10 hw11 => ?_)
  have H6 := H5 z7 m8 hp9 hz10 hw11
  refine Wp.ishl d_M_divisorOf_24 ?_
  obtain ⟨H13, H14⟩ := H6
  refine Wp.icmp_ge 63 d_M_divisorOf_25 (by decide) (fun c12 => ?_) (fun c12 => ?_)
  · have H15 := H13 c12
    obtain ⟨s17, H18⟩ := H15
    refine Wp.iinc 3 3 [(0, .inr (.inr 70)), (1, .inl x1), (2, .inl x2), (3, .inl (x3 + 1)), (4, .inl x4)] d_M_divisorOf_63 rfl s17 (by decide) rfl ?_
    refine Wp.goto 4 d_M_divisorOf_66 (by decide) ?_
    refine Wp.pick [0, 1, 2, 3] [(0, .inr (.inr 70)), (1, .inl x1), (2, .inl x2), (3, .inl (x3 + 1))] rfl ?_
    exact H18
  · have H16 := H14 c12
    refine Wp.iload_n 3 3 d_M_divisorOf_28 rfl rfl ?_
    obtain ⟨e19, P20, hd21, ho22, H23⟩ := H16
    refine Wq.SI (st := []) [.inl x3] d_M_divisorOf_29 k_M_bitsOf ml_M_471 rfl  (fun h => by cases h) (Nat.le_of_ble_eq_true rfl) hd21 ho22 (fun z25 m26 hp27 hz28 hw29 => ?_)
    have H24 := H23 z25 m26 hp27 hz28 hw29
    refine Wp.iload_n 1 1 d_M_divisorOf_32 rfl rfl ?_
    obtain ⟨H31, H32⟩ := H24
    refine Wp.icmp_ne 57 d_M_divisorOf_33 (by decide) (fun c30 => ?_) (fun c30 => ?_)
    · have H33 := H31 c30
      obtain ⟨s35, H36⟩ := H33
      refine Wp.iinc 4 4 [(0, .inr (.inr 70)), (1, .inl x1), (2, .inl x2), (3, .inl x3), (4, .inl (x4 + 1))] d_M_divisorOf_57 rfl s35 (by decide) rfl ?_
      refine Wp.goto 17 d_M_divisorOf_60 (by decide) ?_
      exact H36
    · have H34 := H32 c30
      refine Wp.iload 4 4 d_M_divisorOf_36 rfl ?_
      obtain ⟨e37, P38, hd39, ho40, H41⟩ := H34
      refine Wq.SI (st := []) [.inl x4] d_M_divisorOf_38 k_M_bitsOf ml_M_471 rfl  (fun h => by cases h) (Nat.le_of_ble_eq_true rfl) hd39 ho40 (fun z43 m44 hp45 hz46 hw47 => ?_)
      have H42 := H41 z43 m44 hp45 hz46 hw47
      refine Wp.iload_n 1 1 d_M_divisorOf_41 rfl rfl ?_
      obtain ⟨H49, H50⟩ := H42
      refine Wp.icmp_ne 57 d_M_divisorOf_42 (by decide) (fun c48 => ?_) (fun c48 => ?_)
      · have H51 := H49 c48
        obtain ⟨s53, H54⟩ := H51
        refine Wp.iinc 4 4 [(0, .inr (.inr 70)), (1, .inl x1), (2, .inl x2), (3, .inl x3), (4, .inl (x4 + 1))] d_M_divisorOf_57 rfl s53 (by decide) rfl ?_
        refine Wp.goto 17 d_M_divisorOf_60 (by decide) ?_
        exact H54
      · have H52 := H50 c48
        refine Wp.iload_n 2 2 d_M_divisorOf_45 rfl rfl ?_
        refine Wp.aload_n 0 0 d_M_divisorOf_46 rfl rfl ?_
        refine Wp.iload_n 3 3 d_M_divisorOf_47 rfl rfl ?_
        refine Wp.iload 4 4 d_M_divisorOf_48 rfl ?_
        obtain ⟨e55, P56, hd57, ho58, H59⟩ := H52
        refine Wq.VI (st := [.inl x2]) [.inl x3, .inl x4] d_M_divisorOf_50 k_M_squareOf ml_M_351 rfl rfl rfl (fun h => by cases h) (Nat.le_of_ble_eq_true rfl) hd57 ho58 (fun z61 m62 hp63 hz64 hw65 => ?_)
        have H60 := H59 z61 m62 hp63 hz64 hw65
        obtain ⟨e66, P67, hd68, ho69, H70⟩ := H60
        refine Wq.SI (st := []) [.inl x2, .inl z61] d_M_divisorOf_53 k_M_divisor ml_M_489 rfl  (fun h => by cases h) (Nat.le_of_ble_eq_true rfl) hd68 ho69 (fun z72 m73 hp74 hz75 hw76 => ?_)
        have H71 := H70 z72 m73 hp74 hz75 hw76
        refine Wp.istore_n 2 [(0, .inr (.inr 70)), (1, .inl x1), (2, .inl z72), (3, .inl x3), (4, .inl x4)] d_M_divisorOf_56 rfl (by decide) rfl ?_
        obtain ⟨s77, H78⟩ := H71
        refine Wp.iinc 4 4 [(0, .inr (.inr 70)), (1, .inl x1), (2, .inl z72), (3, .inl x3), (4, .inl (x4 + 1))] d_M_divisorOf_57 rfl s77 (by decide) rfl ?_
        refine Wp.goto 17 d_M_divisorOf_60 (by decide) ?_
        exact H78
theorem d_M_like_0 : decode Y_M_like.2.1 0 = .ok (.aload_n 0, 1) := by decide +kernel
theorem d_M_like_1 : decode Y_M_like.2.1 1 = .ok (.iload_n 1, 1) := by decide +kernel
theorem d_M_like_2 : decode Y_M_like.2.1 2 = .ok (.invokevirtual 405, 3) := by decide +kernel
theorem d_M_like_5 : decode Y_M_like.2.1 5 = .ok (.ifCond .ne 5, 3) := by decide +kernel
theorem d_M_like_8 : decode Y_M_like.2.1 8 = .ok (.iconst (-1), 1) := by decide +kernel
theorem d_M_like_9 : decode Y_M_like.2.1 9 = .ok (.ireturn, 1) := by decide +kernel
theorem d_M_like_10 : decode Y_M_like.2.1 10 = .ok (.iconst 0, 1) := by decide +kernel
theorem d_M_like_11 : decode Y_M_like.2.1 11 = .ok (.istore_n 2, 1) := by decide +kernel
theorem d_M_like_12 : decode Y_M_like.2.1 12 = .ok (.iconst 0, 1) := by decide +kernel
theorem d_M_like_13 : decode Y_M_like.2.1 13 = .ok (.istore_n 3, 1) := by decide +kernel
theorem d_M_like_14 : decode Y_M_like.2.1 14 = .ok (.iload_n 3, 1) := by decide +kernel
theorem d_M_like_15 : decode Y_M_like.2.1 15 = .ok (.aload_n 0, 1) := by decide +kernel
theorem d_M_like_16 : decode Y_M_like.2.1 16 = .ok (.invokevirtual 338, 3) := by decide +kernel
theorem d_M_like_19 : decode Y_M_like.2.1 19 = .ok (.if_icmp .ge 104, 3) := by decide +kernel
theorem d_M_like_22 : decode Y_M_like.2.1 22 = .ok (.iload_n 3, 1) := by decide +kernel
theorem d_M_like_23 : decode Y_M_like.2.1 23 = .ok (.iload_n 1, 1) := by decide +kernel
theorem d_M_like_24 : decode Y_M_like.2.1 24 = .ok (.if_icmp .eq 20, 3) := by decide +kernel
theorem d_M_like_27 : decode Y_M_like.2.1 27 = .ok (.aload_n 0, 1) := by decide +kernel
theorem d_M_like_28 : decode Y_M_like.2.1 28 = .ok (.iload_n 1, 1) := by decide +kernel
theorem d_M_like_29 : decode Y_M_like.2.1 29 = .ok (.invokevirtual 345, 3) := by decide +kernel
theorem d_M_like_32 : decode Y_M_like.2.1 32 = .ok (.aload_n 0, 1) := by decide +kernel
theorem d_M_like_33 : decode Y_M_like.2.1 33 = .ok (.iload_n 3, 1) := by decide +kernel
theorem d_M_like_34 : decode Y_M_like.2.1 34 = .ok (.invokevirtual 345, 3) := by decide +kernel
theorem d_M_like_37 : decode Y_M_like.2.1 37 = .ok (.if_icmp .ne 7, 3) := by decide +kernel
theorem d_M_like_40 : decode Y_M_like.2.1 40 = .ok (.iconst 1, 1) := by decide +kernel
theorem d_M_like_41 : decode Y_M_like.2.1 41 = .ok (.goto 4, 3) := by decide +kernel
theorem d_M_like_44 : decode Y_M_like.2.1 44 = .ok (.iconst 0, 1) := by decide +kernel
theorem d_M_like_45 : decode Y_M_like.2.1 45 = .ok (.istore 4, 2) := by decide +kernel
theorem d_M_like_47 : decode Y_M_like.2.1 47 = .ok (.iconst 0, 1) := by decide +kernel
theorem d_M_like_48 : decode Y_M_like.2.1 48 = .ok (.istore 5, 2) := by decide +kernel
theorem d_M_like_50 : decode Y_M_like.2.1 50 = .ok (.iload 5, 2) := by decide +kernel
theorem d_M_like_52 : decode Y_M_like.2.1 52 = .ok (.aload_n 0, 1) := by decide +kernel
theorem d_M_like_53 : decode Y_M_like.2.1 53 = .ok (.invokevirtual 338, 3) := by decide +kernel
theorem d_M_like_56 : decode Y_M_like.2.1 56 = .ok (.if_icmp .ge 50, 3) := by decide +kernel
theorem d_M_like_59 : decode Y_M_like.2.1 59 = .ok (.iload 4, 2) := by decide +kernel
theorem d_M_like_61 : decode Y_M_like.2.1 61 = .ok (.ifCond .eq 45, 3) := by decide +kernel
theorem d_M_like_64 : decode Y_M_like.2.1 64 = .ok (.iload 5, 2) := by decide +kernel
theorem d_M_like_66 : decode Y_M_like.2.1 66 = .ok (.iload_n 1, 1) := by decide +kernel
theorem d_M_like_67 : decode Y_M_like.2.1 67 = .ok (.if_icmp .eq 26, 3) := by decide +kernel
theorem d_M_like_70 : decode Y_M_like.2.1 70 = .ok (.iload 5, 2) := by decide +kernel
theorem d_M_like_72 : decode Y_M_like.2.1 72 = .ok (.iload_n 3, 1) := by decide +kernel
theorem d_M_like_73 : decode Y_M_like.2.1 73 = .ok (.if_icmp .eq 20, 3) := by decide +kernel
theorem d_M_like_76 : decode Y_M_like.2.1 76 = .ok (.aload_n 0, 1) := by decide +kernel
theorem d_M_like_77 : decode Y_M_like.2.1 77 = .ok (.iload_n 1, 1) := by decide +kernel
theorem d_M_like_78 : decode Y_M_like.2.1 78 = .ok (.iload 5, 2) := by decide +kernel
theorem d_M_like_80 : decode Y_M_like.2.1 80 = .ok (.invokevirtual 348, 3) := by decide +kernel
theorem d_M_like_83 : decode Y_M_like.2.1 83 = .ok (.aload_n 0, 1) := by decide +kernel
theorem d_M_like_84 : decode Y_M_like.2.1 84 = .ok (.iload_n 3, 1) := by decide +kernel
theorem d_M_like_85 : decode Y_M_like.2.1 85 = .ok (.iload 5, 2) := by decide +kernel
theorem d_M_like_87 : decode Y_M_like.2.1 87 = .ok (.invokevirtual 348, 3) := by decide +kernel
theorem d_M_like_90 : decode Y_M_like.2.1 90 = .ok (.if_icmp .ne 7, 3) := by decide +kernel
theorem d_M_like_93 : decode Y_M_like.2.1 93 = .ok (.iconst 1, 1) := by decide +kernel
theorem d_M_like_94 : decode Y_M_like.2.1 94 = .ok (.goto 4, 3) := by decide +kernel
theorem d_M_like_97 : decode Y_M_like.2.1 97 = .ok (.iconst 0, 1) := by decide +kernel
theorem d_M_like_98 : decode Y_M_like.2.1 98 = .ok (.istore 4, 2) := by decide +kernel
theorem d_M_like_100 : decode Y_M_like.2.1 100 = .ok (.iinc 5 1, 3) := by decide +kernel
theorem d_M_like_103 : decode Y_M_like.2.1 103 = .ok (.goto (-53), 3) := by decide +kernel
theorem d_M_like_106 : decode Y_M_like.2.1 106 = .ok (.iload 4, 2) := by decide +kernel
theorem d_M_like_108 : decode Y_M_like.2.1 108 = .ok (.ifCond .eq 9, 3) := by decide +kernel
theorem d_M_like_111 : decode Y_M_like.2.1 111 = .ok (.iload_n 2, 1) := by decide +kernel
theorem d_M_like_112 : decode Y_M_like.2.1 112 = .ok (.iconst 1, 1) := by decide +kernel
theorem d_M_like_113 : decode Y_M_like.2.1 113 = .ok (.iload_n 3, 1) := by decide +kernel
theorem d_M_like_114 : decode Y_M_like.2.1 114 = .ok (.ishl, 1) := by decide +kernel
theorem d_M_like_115 : decode Y_M_like.2.1 115 = .ok (.ior, 1) := by decide +kernel
theorem d_M_like_116 : decode Y_M_like.2.1 116 = .ok (.istore_n 2, 1) := by decide +kernel
theorem d_M_like_117 : decode Y_M_like.2.1 117 = .ok (.iinc 3 1, 3) := by decide +kernel
theorem d_M_like_120 : decode Y_M_like.2.1 120 = .ok (.goto (-106), 3) := by decide +kernel
theorem d_M_like_123 : decode Y_M_like.2.1 123 = .ok (.iload_n 2, 1) := by decide +kernel
theorem d_M_like_124 : decode Y_M_like.2.1 124 = .ok (.ireturn, 1) := by decide +kernel
theorem e_M_like {l : Launch} {G : GT} {d : Nat} {P : Int → MM → Prop} {m : MM} (x1 : Int)  (H : wfM m → inR x1 → ∃ (e1 : Nat) (P2 : Int → MM → Prop), e1 < d ∧ CI l G Y_M_isPlate e1 [.inr (.inr 70), .inl x1] m P2 ∧ (∀ z7 m8, P2 z7 m8 → inR z7 → wfM m8 → ((z7 ≠ 0 → (Wq l G false Y_M_like d (QI P) 14 [(0, .inr (.inr 70)), (1, .inl x1), (2, .inl 0), (3, .inl 0)] [] m8)) ∧ (¬ (z7 ≠ 0) → (P (-1) m8))))) : CI l G Y_M_like d [.inr (.inr 70), .inl x1] m P := by
  refine CI.of [(0, .inr (.inr 70)), (1, .inl x1)] k_M_like.1 (Nat.le_of_ble_eq_true rfl) rfl (Wp.wf (fun hw _ hl hs => ?_))
  have H0 := H hw (hl _ (List.mem_of_getElem? (i := 1) rfl))
  refine Wp.aload_n 0 0 d_M_like_0 rfl rfl ?_
  refine Wp.iload_n 1 1 d_M_like_1 rfl rfl ?_
  obtain ⟨e1, P2, hd3, ho4, H5⟩ := H0
  refine Wq.VI (st := []) [.inl x1] d_M_like_2 k_M_isPlate ml_M_405 rfl rfl rfl (fun h => by cases h) (Nat.le_of_ble_eq_true rfl) hd3 ho4 (fun z7 m8 hp9 hz10 hw11 => ?_)
  have H6 := H5 z7 m8 hp9 hz10 hw11
  obtain ⟨H13, H14⟩ := H6
  refine Wp.if_ne 10 d_M_like_5 (by decide) (fun c12 => ?_) (fun c12 => ?_)
  · have H15 := H13 c12
    refine Wp.iconst d_M_like_10 (by decide) ?_
    refine Wp.istore_n 2 [(0, .inr (.inr 70)), (1, .inl x1), (2, .inl 0)] d_M_like_11 rfl (by decide) rfl ?_
    refine Wp.iconst d_M_like_12 (by decide) ?_
    refine Wp.istore_n 3 [(0, .inr (.inr 70)), (1, .inl x1), (2, .inl 0), (3, .inl 0)] d_M_like_13 rfl (by decide) rfl ?_
    exact H15
  · have H16 := H14 c12
    refine Wp.iconst d_M_like_8 (by decide) ?_
    exact Wq.iret d_M_like_9 rfl H16
theorem s_M_like_14 {l : Launch} {G : GT} {d : Nat} {P : Int → MM → Prop} {m : MM} (x1 : Int) (x2 : Int) (x3 : Int)  (H : wfM m → inR x1 → inR x2 → inR x3 → ∃ (e1 : Nat) (P2 : Int → MM → Prop), e1 < d ∧ CI l G Y_M_lots e1 [.inr (.inr 70)] m P2 ∧ (∀ z7 m8, P2 z7 m8 → inR z7 → wfM m8 → ((x3 ≥ z7 → (P x2 m8)) ∧ (¬ (x3 ≥ z7) → ((x3 = x1 → (Wq l G false Y_M_like d (QI P) 50 [(0, .inr (.inr 70)), (1, .inl x1), (2, .inl x2), (3, .inl x3), (4, .inl 0), (5, .inl 0)] [] m8)) ∧ (¬ (x3 = x1) → (∃ (e22 : Nat) (P23 : Int → MM → Prop), e22 < d ∧ CI l G Y_M_drainOf e22 [.inr (.inr 70), .inl x1] m8 P23 ∧ (∀ z28 m29, P23 z28 m29 → inR z28 → wfM m29 → (∃ (e33 : Nat) (P34 : Int → MM → Prop), e33 < d ∧ CI l G Y_M_drainOf e33 [.inr (.inr 70), .inl x3] m29 P34 ∧ (∀ z39 m40, P34 z39 m40 → inR z39 → wfM m40 → ((z28 ≠ z39 → (Wq l G false Y_M_like d (QI P) 50 [(0, .inr (.inr 70)), (1, .inl x1), (2, .inl x2), (3, .inl x3), (4, .inl 0), (5, .inl 0)] [] m40)) ∧ (¬ (z28 ≠ z39) → (Wq l G false Y_M_like d (QI P) 50 [(0, .inr (.inr 70)), (1, .inl x1), (2, .inl x2), (3, .inl x3), (4, .inl 1), (5, .inl 0)] [] m40))))))))))))) : Wq l G false Y_M_like d (QI P) 14 [(0, .inr (.inr 70)), (1, .inl x1), (2, .inl x2), (3, .inl x3)] [] m := by
  refine Wp.wf (fun hw _ hl hs => ?_)
  have H0 := H hw (hl _ (List.mem_of_getElem? (i := 1) rfl)) (hl _ (List.mem_of_getElem? (i := 2) rfl)) (hl _ (List.mem_of_getElem? (i := 3) rfl))
  refine Wp.iload_n 3 3 d_M_like_14 rfl rfl ?_
  refine Wp.aload_n 0 0 d_M_like_15 rfl rfl ?_
  obtain ⟨e1, P2, hd3, ho4, H5⟩ := H0
  refine Wq.VI (st := [.inl x3]) [] d_M_like_16 k_M_lots ml_M_338 rfl rfl rfl (fun h => by cases h) (Nat.le_of_ble_eq_true rfl) hd3 ho4 (fun z7 m8 hp9 hz10 hw11 => ?_)
  have H6 := H5 z7 m8 hp9 hz10 hw11
  obtain ⟨H13, H14⟩ := H6
  refine Wp.icmp_ge 123 d_M_like_19 (by decide) (fun c12 => ?_) (fun c12 => ?_)
  · have H15 := H13 c12
    refine Wp.iload_n 2 2 d_M_like_123 rfl rfl ?_
    exact Wq.iret d_M_like_124 rfl H15
  · have H16 := H14 c12
    refine Wp.iload_n 3 3 d_M_like_22 rfl rfl ?_
    refine Wp.iload_n 1 1 d_M_like_23 rfl rfl ?_
    obtain ⟨H18, H19⟩ := H16
    refine Wp.icmp_eq 44 d_M_like_24 (by decide) (fun c17 => ?_) (fun c17 => ?_)
    · have H20 := H18 c17
      refine Wp.iconst d_M_like_44 (by decide) ?_
      refine Wp.istore 4 [(0, .inr (.inr 70)), (1, .inl x1), (2, .inl x2), (3, .inl x3), (4, .inl 0)] d_M_like_45 (by decide) rfl ?_
      refine Wp.iconst d_M_like_47 (by decide) ?_
      refine Wp.istore 5 [(0, .inr (.inr 70)), (1, .inl x1), (2, .inl x2), (3, .inl x3), (4, .inl 0), (5, .inl 0)] d_M_like_48 (by decide) rfl ?_
      exact H20
    · have H21 := H19 c17
      refine Wp.aload_n 0 0 d_M_like_27 rfl rfl ?_
      refine Wp.iload_n 1 1 d_M_like_28 rfl rfl ?_
      obtain ⟨e22, P23, hd24, ho25, H26⟩ := H21
      refine Wq.VI (st := []) [.inl x1] d_M_like_29 k_M_drainOf ml_M_345 rfl rfl rfl (fun h => by cases h) (Nat.le_of_ble_eq_true rfl) hd24 ho25 (fun z28 m29 hp30 hz31 hw32 => ?_)
      have H27 := H26 z28 m29 hp30 hz31 hw32
      refine Wp.aload_n 0 0 d_M_like_32 rfl rfl ?_
      refine Wp.iload_n 3 3 d_M_like_33 rfl rfl ?_
      obtain ⟨e33, P34, hd35, ho36, H37⟩ := H27
      refine Wq.VI (st := [.inl z28]) [.inl x3] d_M_like_34 k_M_drainOf ml_M_345 rfl rfl rfl (fun h => by cases h) (Nat.le_of_ble_eq_true rfl) hd35 ho36 (fun z39 m40 hp41 hz42 hw43 => ?_)
      have H38 := H37 z39 m40 hp41 hz42 hw43
      obtain ⟨H45, H46⟩ := H38
      refine Wp.icmp_ne 44 d_M_like_37 (by decide) (fun c44 => ?_) (fun c44 => ?_)
      · have H47 := H45 c44
        refine Wp.iconst d_M_like_44 (by decide) ?_
        refine Wp.istore 4 [(0, .inr (.inr 70)), (1, .inl x1), (2, .inl x2), (3, .inl x3), (4, .inl 0)] d_M_like_45 (by decide) rfl ?_
        refine Wp.iconst d_M_like_47 (by decide) ?_
        refine Wp.istore 5 [(0, .inr (.inr 70)), (1, .inl x1), (2, .inl x2), (3, .inl x3), (4, .inl 0), (5, .inl 0)] d_M_like_48 (by decide) rfl ?_
        exact H47
      · have H48 := H46 c44
        refine Wp.iconst d_M_like_40 (by decide) ?_
        refine Wp.goto 45 d_M_like_41 (by decide) ?_
        refine Wp.istore 4 [(0, .inr (.inr 70)), (1, .inl x1), (2, .inl x2), (3, .inl x3), (4, .inl 1)] d_M_like_45 (by decide) rfl ?_
        refine Wp.iconst d_M_like_47 (by decide) ?_
        refine Wp.istore 5 [(0, .inr (.inr 70)), (1, .inl x1), (2, .inl x2), (3, .inl x3), (4, .inl 1), (5, .inl 0)] d_M_like_48 (by decide) rfl ?_
        exact H48
theorem s_M_like_50 {l : Launch} {G : GT} {d : Nat} {P : Int → MM → Prop} {m : MM} (x1 : Int) (x2 : Int) (x3 : Int) (x4 : Int) (x5 : Int)  (H : wfM m → inR x1 → inR x2 → inR x3 → inR x4 → inR x5 → ∃ (e1 : Nat) (P2 : Int → MM → Prop), e1 < d ∧ CI l G Y_M_lots e1 [.inr (.inr 70)] m P2 ∧ (∀ z7 m8, P2 z7 m8 → inR z7 → wfM m8 → ((x5 ≥ z7 → ((x4 = 0 → ((inR (x3 + 1)) ∧ (Wq l G false Y_M_like d (QI P) 14 [(0, .inr (.inr 70)), (1, .inl x1), (2, .inl x2), (3, .inl (x3 + 1))] [] m8))) ∧ (¬ (x4 = 0) → ((inR (x3 + 1)) ∧ (Wq l G false Y_M_like d (QI P) 14 [(0, .inr (.inr 70)), (1, .inl x1), (2, .inl (bOr x2 (bShl 1 x3))), (3, .inl (x3 + 1))] [] m8))))) ∧ (¬ (x5 ≥ z7) → ((x4 = 0 → ((x4 = 0 → ((inR (x3 + 1)) ∧ (Wq l G false Y_M_like d (QI P) 14 [(0, .inr (.inr 70)), (1, .inl x1), (2, .inl x2), (3, .inl (x3 + 1))] [] m8))) ∧ (¬ (x4 = 0) → ((inR (x3 + 1)) ∧ (Wq l G false Y_M_like d (QI P) 14 [(0, .inr (.inr 70)), (1, .inl x1), (2, .inl (bOr x2 (bShl 1 x3))), (3, .inl (x3 + 1))] [] m8))))) ∧ (¬ (x4 = 0) → ((x5 = x1 → ((inR (x5 + 1)) ∧ (Wq l G false Y_M_like d (QI P) 50 [(0, .inr (.inr 70)), (1, .inl x1), (2, .inl x2), (3, .inl x3), (4, .inl 1), (5, .inl (x5 + 1))] [] m8))) ∧ (¬ (x5 = x1) → ((x5 = x3 → ((inR (x5 + 1)) ∧ (Wq l G false Y_M_like d (QI P) 50 [(0, .inr (.inr 70)), (1, .inl x1), (2, .inl x2), (3, .inl x3), (4, .inl 1), (5, .inl (x5 + 1))] [] m8))) ∧ (¬ (x5 = x3) → (∃ (e54 : Nat) (P55 : Int → MM → Prop), e54 < d ∧ CI l G Y_M_wideOf e54 [.inr (.inr 70), .inl x1, .inl x5] m8 P55 ∧ (∀ z60 m61, P55 z60 m61 → inR z60 → wfM m61 → (∃ (e65 : Nat) (P66 : Int → MM → Prop), e65 < d ∧ CI l G Y_M_wideOf e65 [.inr (.inr 70), .inl x3, .inl x5] m61 P66 ∧ (∀ z71 m72, P66 z71 m72 → inR z71 → wfM m72 → ((z60 ≠ z71 → ((inR (x5 + 1)) ∧ (Wq l G false Y_M_like d (QI P) 50 [(0, .inr (.inr 70)), (1, .inl x1), (2, .inl x2), (3, .inl x3), (4, .inl 0), (5, .inl (x5 + 1))] [] m72))) ∧ (¬ (z60 ≠ z71) → ((inR (x5 + 1)) ∧ (Wq l G false Y_M_like d (QI P) 50 [(0, .inr (.inr 70)), (1, .inl x1), (2, .inl x2), (3, .inl x3), (4, .inl 1), (5, .inl (x5 + 1))] [] m72)))))))))))))))))) : Wq l G false Y_M_like d (QI P) 50 [(0, .inr (.inr 70)), (1, .inl x1), (2, .inl x2), (3, .inl x3), (4, .inl x4), (5, .inl x5)] [] m := by
  refine Wp.wf (fun hw _ hl hs => ?_)
  have H0 := H hw (hl _ (List.mem_of_getElem? (i := 1) rfl)) (hl _ (List.mem_of_getElem? (i := 2) rfl)) (hl _ (List.mem_of_getElem? (i := 3) rfl)) (hl _ (List.mem_of_getElem? (i := 4) rfl)) (hl _ (List.mem_of_getElem? (i := 5) rfl))
  refine Wp.iload 5 5 d_M_like_50 rfl ?_
  refine Wp.aload_n 0 0 d_M_like_52 rfl rfl ?_
  obtain ⟨e1, P2, hd3, ho4, H5⟩ := H0
  refine Wq.VI (st := [.inl x5]) [] d_M_like_53 k_M_lots ml_M_338 rfl rfl rfl (fun h => by cases h) (Nat.le_of_ble_eq_true rfl) hd3 ho4 (fun z7 m8 hp9 hz10 hw11 => ?_)
  have H6 := H5 z7 m8 hp9 hz10 hw11
  obtain ⟨H13, H14⟩ := H6
  refine Wp.icmp_ge 106 d_M_like_56 (by decide) (fun c12 => ?_) (fun c12 => ?_)
  · have H15 := H13 c12
    refine Wp.iload 4 4 d_M_like_106 rfl ?_
    obtain ⟨H18, H19⟩ := H15
    refine Wp.if_eq 117 d_M_like_108 (by decide) (fun c17 => ?_) (fun c17 => ?_)
    · have H20 := H18 c17
      obtain ⟨s22, H23⟩ := H20
      refine Wp.iinc 3 3 [(0, .inr (.inr 70)), (1, .inl x1), (2, .inl x2), (3, .inl (x3 + 1)), (4, .inl x4), (5, .inl x5)] d_M_like_117 rfl s22 (by decide) rfl ?_
      refine Wp.goto 14 d_M_like_120 (by decide) ?_
      refine Wp.pick [0, 1, 2, 3] [(0, .inr (.inr 70)), (1, .inl x1), (2, .inl x2), (3, .inl (x3 + 1))] rfl ?_
      exact H23
    · have H21 := H19 c17
      refine Wp.iload_n 2 2 d_M_like_111 rfl rfl ?_
      refine Wp.iconst d_M_like_112 (by decide) ?_
      refine Wp.iload_n 3 3 d_M_like_113 rfl rfl ?_
      refine Wp.ishl d_M_like_114 ?_
      refine Wp.ior d_M_like_115 ?_
      refine Wp.istore_n 2 [(0, .inr (.inr 70)), (1, .inl x1), (2, .inl (bOr x2 (bShl 1 x3))), (3, .inl x3), (4, .inl x4), (5, .inl x5)] d_M_like_116 rfl (by decide) rfl ?_
      obtain ⟨s24, H25⟩ := H21
      refine Wp.iinc 3 3 [(0, .inr (.inr 70)), (1, .inl x1), (2, .inl (bOr x2 (bShl 1 x3))), (3, .inl (x3 + 1)), (4, .inl x4), (5, .inl x5)] d_M_like_117 rfl s24 (by decide) rfl ?_
      refine Wp.goto 14 d_M_like_120 (by decide) ?_
      refine Wp.pick [0, 1, 2, 3] [(0, .inr (.inr 70)), (1, .inl x1), (2, .inl (bOr x2 (bShl 1 x3))), (3, .inl (x3 + 1))] rfl ?_
      exact H25
  · have H16 := H14 c12
    refine Wp.iload 4 4 d_M_like_59 rfl ?_
    obtain ⟨H27, H28⟩ := H16
    refine Wp.if_eq 106 d_M_like_61 (by decide) (fun c26 => ?_) (fun c26 => ?_)
    · have H29 := H27 c26
      refine Wp.iload 4 4 d_M_like_106 rfl ?_
      obtain ⟨H32, H33⟩ := H29
      refine Wp.if_eq 117 d_M_like_108 (by decide) (fun c31 => ?_) (fun c31 => ?_)
      · have H34 := H32 c31
        obtain ⟨s36, H37⟩ := H34
        refine Wp.iinc 3 3 [(0, .inr (.inr 70)), (1, .inl x1), (2, .inl x2), (3, .inl (x3 + 1)), (4, .inl x4), (5, .inl x5)] d_M_like_117 rfl s36 (by decide) rfl ?_
        refine Wp.goto 14 d_M_like_120 (by decide) ?_
        refine Wp.pick [0, 1, 2, 3] [(0, .inr (.inr 70)), (1, .inl x1), (2, .inl x2), (3, .inl (x3 + 1))] rfl ?_
        exact H37
      · have H35 := H33 c31
        refine Wp.iload_n 2 2 d_M_like_111 rfl rfl ?_
        refine Wp.iconst d_M_like_112 (by decide) ?_
        refine Wp.iload_n 3 3 d_M_like_113 rfl rfl ?_
        refine Wp.ishl d_M_like_114 ?_
        refine Wp.ior d_M_like_115 ?_
        refine Wp.istore_n 2 [(0, .inr (.inr 70)), (1, .inl x1), (2, .inl (bOr x2 (bShl 1 x3))), (3, .inl x3), (4, .inl x4), (5, .inl x5)] d_M_like_116 rfl (by decide) rfl ?_
        obtain ⟨s38, H39⟩ := H35
        refine Wp.iinc 3 3 [(0, .inr (.inr 70)), (1, .inl x1), (2, .inl (bOr x2 (bShl 1 x3))), (3, .inl (x3 + 1)), (4, .inl x4), (5, .inl x5)] d_M_like_117 rfl s38 (by decide) rfl ?_
        refine Wp.goto 14 d_M_like_120 (by decide) ?_
        refine Wp.pick [0, 1, 2, 3] [(0, .inr (.inr 70)), (1, .inl x1), (2, .inl (bOr x2 (bShl 1 x3))), (3, .inl (x3 + 1))] rfl ?_
        exact H39
    · have H30 := H28 c26
      refine Wp.iload 5 5 d_M_like_64 rfl ?_
      refine Wp.iload_n 1 1 d_M_like_66 rfl rfl ?_
      obtain ⟨H41, H42⟩ := H30
      refine Wp.icmp_eq 93 d_M_like_67 (by decide) (fun c40 => ?_) (fun c40 => ?_)
      · have H43 := H41 c40
        refine Wp.iconst d_M_like_93 (by decide) ?_
        refine Wp.goto 98 d_M_like_94 (by decide) ?_
        refine Wp.istore 4 [(0, .inr (.inr 70)), (1, .inl x1), (2, .inl x2), (3, .inl x3), (4, .inl 1), (5, .inl x5)] d_M_like_98 (by decide) rfl ?_
        obtain ⟨s45, H46⟩ := H43
        refine Wp.iinc 5 5 [(0, .inr (.inr 70)), (1, .inl x1), (2, .inl x2), (3, .inl x3), (4, .inl 1), (5, .inl (x5 + 1))] d_M_like_100 rfl s45 (by decide) rfl ?_
        refine Wp.goto 50 d_M_like_103 (by decide) ?_
        exact H46
      · have H44 := H42 c40
        refine Wp.iload 5 5 d_M_like_70 rfl ?_
        refine Wp.iload_n 3 3 d_M_like_72 rfl rfl ?_
        obtain ⟨H48, H49⟩ := H44
        refine Wp.icmp_eq 93 d_M_like_73 (by decide) (fun c47 => ?_) (fun c47 => ?_)
        · have H50 := H48 c47
          refine Wp.iconst d_M_like_93 (by decide) ?_
          refine Wp.goto 98 d_M_like_94 (by decide) ?_
          refine Wp.istore 4 [(0, .inr (.inr 70)), (1, .inl x1), (2, .inl x2), (3, .inl x3), (4, .inl 1), (5, .inl x5)] d_M_like_98 (by decide) rfl ?_
          obtain ⟨s52, H53⟩ := H50
          refine Wp.iinc 5 5 [(0, .inr (.inr 70)), (1, .inl x1), (2, .inl x2), (3, .inl x3), (4, .inl 1), (5, .inl (x5 + 1))] d_M_like_100 rfl s52 (by decide) rfl ?_
          refine Wp.goto 50 d_M_like_103 (by decide) ?_
          exact H53
        · have H51 := H49 c47
          refine Wp.aload_n 0 0 d_M_like_76 rfl rfl ?_
          refine Wp.iload_n 1 1 d_M_like_77 rfl rfl ?_
          refine Wp.iload 5 5 d_M_like_78 rfl ?_
          obtain ⟨e54, P55, hd56, ho57, H58⟩ := H51
          refine Wq.VI (st := []) [.inl x1, .inl x5] d_M_like_80 k_M_wideOf ml_M_348 rfl rfl rfl (fun h => by cases h) (Nat.le_of_ble_eq_true rfl) hd56 ho57 (fun z60 m61 hp62 hz63 hw64 => ?_)
          have H59 := H58 z60 m61 hp62 hz63 hw64
          refine Wp.aload_n 0 0 d_M_like_83 rfl rfl ?_
          refine Wp.iload_n 3 3 d_M_like_84 rfl rfl ?_
          refine Wp.iload 5 5 d_M_like_85 rfl ?_
          obtain ⟨e65, P66, hd67, ho68, H69⟩ := H59
          refine Wq.VI (st := [.inl z60]) [.inl x3, .inl x5] d_M_like_87 k_M_wideOf ml_M_348 rfl rfl rfl (fun h => by cases h) (Nat.le_of_ble_eq_true rfl) hd67 ho68 (fun z71 m72 hp73 hz74 hw75 => ?_)
          have H70 := H69 z71 m72 hp73 hz74 hw75
          obtain ⟨H77, H78⟩ := H70
          refine Wp.icmp_ne 97 d_M_like_90 (by decide) (fun c76 => ?_) (fun c76 => ?_)
          · have H79 := H77 c76
            refine Wp.iconst d_M_like_97 (by decide) ?_
            refine Wp.istore 4 [(0, .inr (.inr 70)), (1, .inl x1), (2, .inl x2), (3, .inl x3), (4, .inl 0), (5, .inl x5)] d_M_like_98 (by decide) rfl ?_
            obtain ⟨s81, H82⟩ := H79
            refine Wp.iinc 5 5 [(0, .inr (.inr 70)), (1, .inl x1), (2, .inl x2), (3, .inl x3), (4, .inl 0), (5, .inl (x5 + 1))] d_M_like_100 rfl s81 (by decide) rfl ?_
            refine Wp.goto 50 d_M_like_103 (by decide) ?_
            exact H82
          · have H80 := H78 c76
            refine Wp.iconst d_M_like_93 (by decide) ?_
            refine Wp.goto 98 d_M_like_94 (by decide) ?_
            refine Wp.istore 4 [(0, .inr (.inr 70)), (1, .inl x1), (2, .inl x2), (3, .inl x3), (4, .inl 1), (5, .inl x5)] d_M_like_98 (by decide) rfl ?_
            obtain ⟨s83, H84⟩ := H80
            refine Wp.iinc 5 5 [(0, .inr (.inr 70)), (1, .inl x1), (2, .inl x2), (3, .inl x3), (4, .inl 1), (5, .inl (x5 + 1))] d_M_like_100 rfl s83 (by decide) rfl ?_
            refine Wp.goto 50 d_M_like_103 (by decide) ?_
            exact H84
theorem d_M_duel_0 : decode Y_M_duel.2.1 0 = .ok (.aload_n 0, 1) := by decide +kernel
theorem d_M_duel_1 : decode Y_M_duel.2.1 1 = .ok (.iconst 0, 1) := by decide +kernel
theorem d_M_duel_2 : decode Y_M_duel.2.1 2 = .ok (.putfield 369, 3) := by decide +kernel
theorem d_M_duel_5 : decode Y_M_duel.2.1 5 = .ok (.aload_n 0, 1) := by decide +kernel
theorem d_M_duel_6 : decode Y_M_duel.2.1 6 = .ok (.iload_n 1, 1) := by decide +kernel
theorem d_M_duel_7 : decode Y_M_duel.2.1 7 = .ok (.invokevirtual 405, 3) := by decide +kernel
theorem d_M_duel_10 : decode Y_M_duel.2.1 10 = .ok (.ifCond .eq 16, 3) := by decide +kernel
theorem d_M_duel_13 : decode Y_M_duel.2.1 13 = .ok (.aload_n 0, 1) := by decide +kernel
theorem d_M_duel_14 : decode Y_M_duel.2.1 14 = .ok (.iload_n 2, 1) := by decide +kernel
theorem d_M_duel_15 : decode Y_M_duel.2.1 15 = .ok (.invokevirtual 405, 3) := by decide +kernel
theorem d_M_duel_18 : decode Y_M_duel.2.1 18 = .ok (.ifCond .eq 8, 3) := by decide +kernel
theorem d_M_duel_21 : decode Y_M_duel.2.1 21 = .ok (.iload_n 1, 1) := by decide +kernel
theorem d_M_duel_22 : decode Y_M_duel.2.1 22 = .ok (.iload_n 2, 1) := by decide +kernel
theorem d_M_duel_23 : decode Y_M_duel.2.1 23 = .ok (.if_icmp .ne 5, 3) := by decide +kernel
theorem d_M_duel_26 : decode Y_M_duel.2.1 26 = .ok (.iconst (-1), 1) := by decide +kernel
theorem d_M_duel_27 : decode Y_M_duel.2.1 27 = .ok (.ireturn, 1) := by decide +kernel
theorem d_M_duel_28 : decode Y_M_duel.2.1 28 = .ok (.iconst 0, 1) := by decide +kernel
theorem d_M_duel_29 : decode Y_M_duel.2.1 29 = .ok (.istore_n 3, 1) := by decide +kernel
theorem d_M_duel_30 : decode Y_M_duel.2.1 30 = .ok (.iload_n 3, 1) := by decide +kernel
theorem d_M_duel_31 : decode Y_M_duel.2.1 31 = .ok (.bipush 16, 2) := by decide +kernel
theorem d_M_duel_33 : decode Y_M_duel.2.1 33 = .ok (.if_icmp .ge 75, 3) := by decide +kernel
theorem d_M_duel_36 : decode Y_M_duel.2.1 36 = .ok (.aload_n 0, 1) := by decide +kernel
theorem d_M_duel_37 : decode Y_M_duel.2.1 37 = .ok (.invokevirtual 378, 3) := by decide +kernel
theorem d_M_duel_40 : decode Y_M_duel.2.1 40 = .ok (.aload_n 0, 1) := by decide +kernel
theorem d_M_duel_41 : decode Y_M_duel.2.1 41 = .ok (.getfield 82, 3) := by decide +kernel
theorem d_M_duel_44 : decode Y_M_duel.2.1 44 = .ok (.iload_n 1, 1) := by decide +kernel
theorem d_M_duel_45 : decode Y_M_duel.2.1 45 = .ok (.dup2, 1) := by decide +kernel
theorem d_M_duel_46 : decode Y_M_duel.2.1 46 = .ok (.iaload, 1) := by decide +kernel
theorem d_M_duel_47 : decode Y_M_duel.2.1 47 = .ok (.iload_n 3, 1) := by decide +kernel
theorem d_M_duel_48 : decode Y_M_duel.2.1 48 = .ok (.iconst 4, 1) := by decide +kernel
theorem d_M_duel_49 : decode Y_M_duel.2.1 49 = .ok (.idiv, 1) := by decide +kernel
theorem d_M_duel_50 : decode Y_M_duel.2.1 50 = .ok (.iadd, 1) := by decide +kernel
theorem d_M_duel_51 : decode Y_M_duel.2.1 51 = .ok (.iastore, 1) := by decide +kernel
theorem d_M_duel_52 : decode Y_M_duel.2.1 52 = .ok (.aload_n 0, 1) := by decide +kernel
theorem d_M_duel_53 : decode Y_M_duel.2.1 53 = .ok (.getfield 82, 3) := by decide +kernel
theorem d_M_duel_56 : decode Y_M_duel.2.1 56 = .ok (.iload_n 2, 1) := by decide +kernel
theorem d_M_duel_57 : decode Y_M_duel.2.1 57 = .ok (.dup2, 1) := by decide +kernel
theorem d_M_duel_58 : decode Y_M_duel.2.1 58 = .ok (.iaload, 1) := by decide +kernel
theorem d_M_duel_59 : decode Y_M_duel.2.1 59 = .ok (.iload_n 3, 1) := by decide +kernel
theorem d_M_duel_60 : decode Y_M_duel.2.1 60 = .ok (.iconst 4, 1) := by decide +kernel
theorem d_M_duel_61 : decode Y_M_duel.2.1 61 = .ok (.irem, 1) := by decide +kernel
theorem d_M_duel_62 : decode Y_M_duel.2.1 62 = .ok (.iadd, 1) := by decide +kernel
theorem d_M_duel_63 : decode Y_M_duel.2.1 63 = .ok (.iastore, 1) := by decide +kernel
theorem d_M_duel_64 : decode Y_M_duel.2.1 64 = .ok (.aload_n 0, 1) := by decide +kernel
theorem d_M_duel_65 : decode Y_M_duel.2.1 65 = .ok (.invokevirtual 381, 3) := by decide +kernel
theorem d_M_duel_68 : decode Y_M_duel.2.1 68 = .ok (.istore 4, 2) := by decide +kernel
theorem d_M_duel_70 : decode Y_M_duel.2.1 70 = .ok (.aload_n 0, 1) := by decide +kernel
theorem d_M_duel_71 : decode Y_M_duel.2.1 71 = .ok (.getfield 103, 3) := by decide +kernel
theorem d_M_duel_74 : decode Y_M_duel.2.1 74 = .ok (.iload_n 3, 1) := by decide +kernel
theorem d_M_duel_75 : decode Y_M_duel.2.1 75 = .ok (.aload_n 0, 1) := by decide +kernel
theorem d_M_duel_76 : decode Y_M_duel.2.1 76 = .ok (.getfield 85, 3) := by decide +kernel
theorem d_M_duel_79 : decode Y_M_duel.2.1 79 = .ok (.iload_n 1, 1) := by decide +kernel
theorem d_M_duel_80 : decode Y_M_duel.2.1 80 = .ok (.iaload, 1) := by decide +kernel
theorem d_M_duel_81 : decode Y_M_duel.2.1 81 = .ok (.iload_n 3, 1) := by decide +kernel
theorem d_M_duel_82 : decode Y_M_duel.2.1 82 = .ok (.iconst 4, 1) := by decide +kernel
theorem d_M_duel_83 : decode Y_M_duel.2.1 83 = .ok (.idiv, 1) := by decide +kernel
theorem d_M_duel_84 : decode Y_M_duel.2.1 84 = .ok (.isub, 1) := by decide +kernel
theorem d_M_duel_85 : decode Y_M_duel.2.1 85 = .ok (.iastore, 1) := by decide +kernel
theorem d_M_duel_86 : decode Y_M_duel.2.1 86 = .ok (.aload_n 0, 1) := by decide +kernel
theorem d_M_duel_87 : decode Y_M_duel.2.1 87 = .ok (.getfield 106, 3) := by decide +kernel
theorem d_M_duel_90 : decode Y_M_duel.2.1 90 = .ok (.iload_n 3, 1) := by decide +kernel
theorem d_M_duel_91 : decode Y_M_duel.2.1 91 = .ok (.aload_n 0, 1) := by decide +kernel
theorem d_M_duel_92 : decode Y_M_duel.2.1 92 = .ok (.getfield 85, 3) := by decide +kernel
theorem d_M_duel_95 : decode Y_M_duel.2.1 95 = .ok (.iload_n 2, 1) := by decide +kernel
theorem d_M_duel_96 : decode Y_M_duel.2.1 96 = .ok (.iaload, 1) := by decide +kernel
theorem d_M_duel_97 : decode Y_M_duel.2.1 97 = .ok (.iload_n 3, 1) := by decide +kernel
theorem d_M_duel_98 : decode Y_M_duel.2.1 98 = .ok (.iconst 4, 1) := by decide +kernel
theorem d_M_duel_99 : decode Y_M_duel.2.1 99 = .ok (.irem, 1) := by decide +kernel
theorem d_M_duel_100 : decode Y_M_duel.2.1 100 = .ok (.isub, 1) := by decide +kernel
theorem d_M_duel_101 : decode Y_M_duel.2.1 101 = .ok (.iastore, 1) := by decide +kernel
theorem d_M_duel_102 : decode Y_M_duel.2.1 102 = .ok (.iinc 3 1, 3) := by decide +kernel
theorem d_M_duel_105 : decode Y_M_duel.2.1 105 = .ok (.goto (-75), 3) := by decide +kernel
theorem d_M_duel_108 : decode Y_M_duel.2.1 108 = .ok (.iconst 0, 1) := by decide +kernel
theorem d_M_duel_109 : decode Y_M_duel.2.1 109 = .ok (.istore_n 3, 1) := by decide +kernel
theorem d_M_duel_110 : decode Y_M_duel.2.1 110 = .ok (.iconst 0, 1) := by decide +kernel
theorem d_M_duel_111 : decode Y_M_duel.2.1 111 = .ok (.istore 4, 2) := by decide +kernel
theorem d_M_duel_113 : decode Y_M_duel.2.1 113 = .ok (.iload 4, 2) := by decide +kernel
theorem d_M_duel_115 : decode Y_M_duel.2.1 115 = .ok (.bipush 16, 2) := by decide +kernel
theorem d_M_duel_117 : decode Y_M_duel.2.1 117 = .ok (.if_icmp .ge 131, 3) := by decide +kernel
theorem d_M_duel_120 : decode Y_M_duel.2.1 120 = .ok (.iload 4, 2) := by decide +kernel
theorem d_M_duel_122 : decode Y_M_duel.2.1 122 = .ok (.iconst 4, 1) := by decide +kernel
theorem d_M_duel_123 : decode Y_M_duel.2.1 123 = .ok (.idiv, 1) := by decide +kernel
theorem d_M_duel_124 : decode Y_M_duel.2.1 124 = .ok (.istore 5, 2) := by decide +kernel
theorem d_M_duel_126 : decode Y_M_duel.2.1 126 = .ok (.iload 4, 2) := by decide +kernel
theorem d_M_duel_128 : decode Y_M_duel.2.1 128 = .ok (.iconst 4, 1) := by decide +kernel
theorem d_M_duel_129 : decode Y_M_duel.2.1 129 = .ok (.irem, 1) := by decide +kernel
theorem d_M_duel_130 : decode Y_M_duel.2.1 130 = .ok (.istore 6, 2) := by decide +kernel
theorem d_M_duel_132 : decode Y_M_duel.2.1 132 = .ok (.iconst 1, 1) := by decide +kernel
theorem d_M_duel_133 : decode Y_M_duel.2.1 133 = .ok (.istore 7, 2) := by decide +kernel
theorem d_M_duel_135 : decode Y_M_duel.2.1 135 = .ok (.iconst 0, 1) := by decide +kernel
theorem d_M_duel_136 : decode Y_M_duel.2.1 136 = .ok (.istore 8, 2) := by decide +kernel
theorem d_M_duel_138 : decode Y_M_duel.2.1 138 = .ok (.iload 8, 2) := by decide +kernel
theorem d_M_duel_140 : decode Y_M_duel.2.1 140 = .ok (.iconst 4, 1) := by decide +kernel
theorem d_M_duel_141 : decode Y_M_duel.2.1 141 = .ok (.if_icmp .ge 65, 3) := by decide +kernel
theorem d_M_duel_144 : decode Y_M_duel.2.1 144 = .ok (.iload 7, 2) := by decide +kernel
theorem d_M_duel_146 : decode Y_M_duel.2.1 146 = .ok (.ifCond .eq 51, 3) := by decide +kernel
theorem d_M_duel_149 : decode Y_M_duel.2.1 149 = .ok (.aload_n 0, 1) := by decide +kernel
theorem d_M_duel_150 : decode Y_M_duel.2.1 150 = .ok (.getfield 103, 3) := by decide +kernel
theorem d_M_duel_153 : decode Y_M_duel.2.1 153 = .ok (.iconst 4, 1) := by decide +kernel
theorem d_M_duel_154 : decode Y_M_duel.2.1 154 = .ok (.iload 8, 2) := by decide +kernel
theorem d_M_duel_156 : decode Y_M_duel.2.1 156 = .ok (.imul, 1) := by decide +kernel
theorem d_M_duel_157 : decode Y_M_duel.2.1 157 = .ok (.iload 6, 2) := by decide +kernel
theorem d_M_duel_159 : decode Y_M_duel.2.1 159 = .ok (.iadd, 1) := by decide +kernel
theorem d_M_duel_160 : decode Y_M_duel.2.1 160 = .ok (.iaload, 1) := by decide +kernel
theorem d_M_duel_161 : decode Y_M_duel.2.1 161 = .ok (.aload_n 0, 1) := by decide +kernel
theorem d_M_duel_162 : decode Y_M_duel.2.1 162 = .ok (.getfield 103, 3) := by decide +kernel
theorem d_M_duel_165 : decode Y_M_duel.2.1 165 = .ok (.iload 4, 2) := by decide +kernel
theorem d_M_duel_167 : decode Y_M_duel.2.1 167 = .ok (.iaload, 1) := by decide +kernel
theorem d_M_duel_168 : decode Y_M_duel.2.1 168 = .ok (.if_icmp .gt 29, 3) := by decide +kernel
theorem d_M_duel_171 : decode Y_M_duel.2.1 171 = .ok (.aload_n 0, 1) := by decide +kernel
theorem d_M_duel_172 : decode Y_M_duel.2.1 172 = .ok (.getfield 106, 3) := by decide +kernel
theorem d_M_duel_175 : decode Y_M_duel.2.1 175 = .ok (.iconst 4, 1) := by decide +kernel
theorem d_M_duel_176 : decode Y_M_duel.2.1 176 = .ok (.iload 5, 2) := by decide +kernel
theorem d_M_duel_178 : decode Y_M_duel.2.1 178 = .ok (.imul, 1) := by decide +kernel
theorem d_M_duel_179 : decode Y_M_duel.2.1 179 = .ok (.iload 8, 2) := by decide +kernel
theorem d_M_duel_181 : decode Y_M_duel.2.1 181 = .ok (.iadd, 1) := by decide +kernel
theorem d_M_duel_182 : decode Y_M_duel.2.1 182 = .ok (.iaload, 1) := by decide +kernel
theorem d_M_duel_183 : decode Y_M_duel.2.1 183 = .ok (.aload_n 0, 1) := by decide +kernel
theorem d_M_duel_184 : decode Y_M_duel.2.1 184 = .ok (.getfield 106, 3) := by decide +kernel
theorem d_M_duel_187 : decode Y_M_duel.2.1 187 = .ok (.iload 4, 2) := by decide +kernel
theorem d_M_duel_189 : decode Y_M_duel.2.1 189 = .ok (.iaload, 1) := by decide +kernel
theorem d_M_duel_190 : decode Y_M_duel.2.1 190 = .ok (.if_icmp .gt 7, 3) := by decide +kernel
theorem d_M_duel_193 : decode Y_M_duel.2.1 193 = .ok (.iconst 1, 1) := by decide +kernel
theorem d_M_duel_194 : decode Y_M_duel.2.1 194 = .ok (.goto 4, 3) := by decide +kernel
theorem d_M_duel_197 : decode Y_M_duel.2.1 197 = .ok (.iconst 0, 1) := by decide +kernel
theorem d_M_duel_198 : decode Y_M_duel.2.1 198 = .ok (.istore 7, 2) := by decide +kernel
theorem d_M_duel_200 : decode Y_M_duel.2.1 200 = .ok (.iinc 8 1, 3) := by decide +kernel
theorem d_M_duel_203 : decode Y_M_duel.2.1 203 = .ok (.goto (-65), 3) := by decide +kernel
theorem d_M_duel_206 : decode Y_M_duel.2.1 206 = .ok (.iload 7, 2) := by decide +kernel
theorem d_M_duel_208 : decode Y_M_duel.2.1 208 = .ok (.ifCond .ne 6, 3) := by decide +kernel
theorem d_M_duel_211 : decode Y_M_duel.2.1 211 = .ok (.goto 31, 3) := by decide +kernel
theorem d_M_duel_214 : decode Y_M_duel.2.1 214 = .ok (.iload_n 3, 1) := by decide +kernel
theorem d_M_duel_215 : decode Y_M_duel.2.1 215 = .ok (.ifCond .ne 24, 3) := by decide +kernel
theorem d_M_duel_218 : decode Y_M_duel.2.1 218 = .ok (.aload_n 0, 1) := by decide +kernel
theorem d_M_duel_219 : decode Y_M_duel.2.1 219 = .ok (.getfield 94, 3) := by decide +kernel
theorem d_M_duel_222 : decode Y_M_duel.2.1 222 = .ok (.iconst 0, 1) := by decide +kernel
theorem d_M_duel_223 : decode Y_M_duel.2.1 223 = .ok (.iload 5, 2) := by decide +kernel
theorem d_M_duel_225 : decode Y_M_duel.2.1 225 = .ok (.iastore, 1) := by decide +kernel
theorem d_M_duel_226 : decode Y_M_duel.2.1 226 = .ok (.aload_n 0, 1) := by decide +kernel
theorem d_M_duel_227 : decode Y_M_duel.2.1 227 = .ok (.getfield 94, 3) := by decide +kernel
theorem d_M_duel_230 : decode Y_M_duel.2.1 230 = .ok (.iconst 1, 1) := by decide +kernel
theorem d_M_duel_231 : decode Y_M_duel.2.1 231 = .ok (.iload 6, 2) := by decide +kernel
theorem d_M_duel_233 : decode Y_M_duel.2.1 233 = .ok (.iastore, 1) := by decide +kernel
theorem d_M_duel_234 : decode Y_M_duel.2.1 234 = .ok (.aload_n 0, 1) := by decide +kernel
theorem d_M_duel_235 : decode Y_M_duel.2.1 235 = .ok (.iconst 2, 1) := by decide +kernel
theorem d_M_duel_236 : decode Y_M_duel.2.1 236 = .ok (.putfield 369, 3) := by decide +kernel
theorem d_M_duel_239 : decode Y_M_duel.2.1 239 = .ok (.iinc 3 1, 3) := by decide +kernel
theorem d_M_duel_242 : decode Y_M_duel.2.1 242 = .ok (.iinc 4 1, 3) := by decide +kernel
theorem d_M_duel_245 : decode Y_M_duel.2.1 245 = .ok (.goto (-132), 3) := by decide +kernel
theorem d_M_duel_248 : decode Y_M_duel.2.1 248 = .ok (.iload_n 3, 1) := by decide +kernel
theorem d_M_duel_249 : decode Y_M_duel.2.1 249 = .ok (.ireturn, 1) := by decide +kernel
theorem e_M_duel {l : Launch} {G : GT} {d : Nat} {P : Int → MM → Prop} {m : MM} (x1 : Int) (x2 : Int)  (H : wfM m → inR x1 → inR x2 → ∀ m1, m1 = up m 70 48 0 → (∃ (e4 : Nat) (P5 : Int → MM → Prop), e4 < d ∧ CI l G Y_M_isPlate e4 [.inr (.inr 70), .inl x1] m1 P5 ∧ (∀ z10 m11, P5 z10 m11 → inR z10 → wfM m11 → ((z10 = 0 → (P (-1) m11)) ∧ (¬ (z10 = 0) → (∃ (e20 : Nat) (P21 : Int → MM → Prop), e20 < d ∧ CI l G Y_M_isPlate e20 [.inr (.inr 70), .inl x2] m11 P21 ∧ (∀ z26 m27, P21 z26 m27 → inR z26 → wfM m27 → ((z26 = 0 → (P (-1) m27)) ∧ (¬ (z26 = 0) → ((x1 ≠ x2 → (Wq l G false Y_M_duel d (QI P) 30 [(0, .inr (.inr 70)), (1, .inl x1), (2, .inl x2), (3, .inl 0)] [] m27)) ∧ (¬ (x1 ≠ x2) → (P (-1) m27)))))))))))) : CI l G Y_M_duel d [.inr (.inr 70), .inl x1, .inl x2] m P := by
  refine CI.of [(0, .inr (.inr 70)), (1, .inl x1), (2, .inl x2)] k_M_duel.1 (Nat.le_of_ble_eq_true rfl) rfl (Wp.wf (fun hw _ hl hs => ?_))
  have H0 := H hw (hl _ (List.mem_of_getElem? (i := 1) rfl)) (hl _ (List.mem_of_getElem? (i := 2) rfl))
  refine Wp.aload_n 0 0 d_M_duel_0 rfl rfl ?_
  refine Wp.iconst d_M_duel_1 (by decide) ?_
  refine Wq.putI 48 rfl d_M_duel_2 fl_M_369 (fun _ _ _ h => by cases h; rfl) rfl rfl rfl (fun m1 hm2 => ?_)
  have H3 := H0 m1 hm2
  refine Wp.aload_n 0 0 d_M_duel_5 rfl rfl ?_
  refine Wp.iload_n 1 1 d_M_duel_6 rfl rfl ?_
  obtain ⟨e4, P5, hd6, ho7, H8⟩ := H3
  refine Wq.VI (st := []) [.inl x1] d_M_duel_7 k_M_isPlate ml_M_405 rfl rfl rfl (fun h => by cases h) (Nat.le_of_ble_eq_true rfl) hd6 ho7 (fun z10 m11 hp12 hz13 hw14 => ?_)
  have H9 := H8 z10 m11 hp12 hz13 hw14
  obtain ⟨H16, H17⟩ := H9
  refine Wp.if_eq 26 d_M_duel_10 (by decide) (fun c15 => ?_) (fun c15 => ?_)
  · have H18 := H16 c15
    refine Wp.iconst d_M_duel_26 (by decide) ?_
    exact Wq.iret d_M_duel_27 rfl H18
  · have H19 := H17 c15
    refine Wp.aload_n 0 0 d_M_duel_13 rfl rfl ?_
    refine Wp.iload_n 2 2 d_M_duel_14 rfl rfl ?_
    obtain ⟨e20, P21, hd22, ho23, H24⟩ := H19
    refine Wq.VI (st := []) [.inl x2] d_M_duel_15 k_M_isPlate ml_M_405 rfl rfl rfl (fun h => by cases h) (Nat.le_of_ble_eq_true rfl) hd22 ho23 (fun z26 m27 hp28 hz29 hw30 => ?_)
    have H25 := H24 z26 m27 hp28 hz29 hw30
    obtain ⟨H32, H33⟩ := H25
    refine Wp.if_eq 26 d_M_duel_18 (by decide) (fun c31 => ?_) (fun c31 => ?_)
    · have H34 := H32 c31
      refine Wp.iconst d_M_duel_26 (by decide) ?_
      exact Wq.iret d_M_duel_27 rfl H34
    · have H35 := H33 c31
      refine Wp.iload_n 1 1 d_M_duel_21 rfl rfl ?_
      refine Wp.iload_n 2 2 d_M_duel_22 rfl rfl ?_
      obtain ⟨H37, H38⟩ := H35
      refine Wp.icmp_ne 28 d_M_duel_23 (by decide) (fun c36 => ?_) (fun c36 => ?_)
      · have H39 := H37 c36
        refine Wp.iconst d_M_duel_28 (by decide) ?_
        refine Wp.istore_n 3 [(0, .inr (.inr 70)), (1, .inl x1), (2, .inl x2), (3, .inl 0)] d_M_duel_29 rfl (by decide) rfl ?_
        exact H39
      · have H40 := H38 c36
        refine Wp.iconst d_M_duel_26 (by decide) ?_
        exact Wq.iret d_M_duel_27 rfl H40
theorem s_M_duel_30 {l : Launch} {G : GT} {d : Nat} {P : Int → MM → Prop} {m : MM} (x1 : Int) (x2 : Int) (x3 : Int)  (H : wfM m → inR x1 → inR x2 → inR x3 → (x3 ≥ 16 → (Wq l G false Y_M_duel d (QI P) 113 [(0, .inr (.inr 70)), (3, .inl 0), (4, .inl 0)] [] m)) ∧ (¬ (x3 ≥ 16) → (∃ (e6 : Nat) (P7 : MM → Prop), e6 < d ∧ CV l G Y_M_layNow e6 [.inr (.inr 70)] m P7 ∧ (∀ m13, P7 m13 → wfM m13 → ((0 ≤ x1 ∧ x1 < (5 : Int)) ∧ ((inR ((m13 93 x1) + (Int.tdiv x3 4))) ∧ ((0 ≤ x1 ∧ x1 < (5 : Int)) ∧ (∀ m21, m21 = up m13 93 x1 ((m13 93 x1) + (Int.tdiv x3 4)) → ((0 ≤ x2 ∧ x2 < (5 : Int)) ∧ ((inR ((m21 93 x2) + (Int.tmod x3 4))) ∧ ((0 ≤ x2 ∧ x2 < (5 : Int)) ∧ (∀ m30, m30 = up m21 93 x2 ((m21 93 x2) + (Int.tmod x3 4)) → (∃ (e35 : Nat) (P36 : Int → MM → Prop), e35 < d ∧ CI l G Y_M_settleHeap e35 [.inr (.inr 70)] m30 P36 ∧ (∀ z41 m42, P36 z41 m42 → inR z41 → wfM m42 → ((0 ≤ x1 ∧ x1 < (5 : Int)) ∧ ((inR ((m42 94 x1) - (Int.tdiv x3 4))) ∧ ((0 ≤ x3 ∧ x3 < (16 : Int)) ∧ (∀ m50, m50 = up m42 100 x3 ((m42 94 x1) - (Int.tdiv x3 4)) → ((0 ≤ x2 ∧ x2 < (5 : Int)) ∧ ((inR ((m50 94 x2) - (Int.tmod x3 4))) ∧ ((0 ≤ x3 ∧ x3 < (16 : Int)) ∧ (∀ m59, m59 = up m50 101 x3 ((m50 94 x2) - (Int.tmod x3 4)) → ((inR (x3 + 1)) ∧ (Wq l G false Y_M_duel d (QI P) 30 [(0, .inr (.inr 70)), (1, .inl x1), (2, .inl x2), (3, .inl (x3 + 1))] [] m59)))))))))))))))))))))))) : Wq l G false Y_M_duel d (QI P) 30 [(0, .inr (.inr 70)), (1, .inl x1), (2, .inl x2), (3, .inl x3)] [] m := by
  refine Wp.wf (fun hw _ hl hs => ?_)
  have H0 := H hw (hl _ (List.mem_of_getElem? (i := 1) rfl)) (hl _ (List.mem_of_getElem? (i := 2) rfl)) (hl _ (List.mem_of_getElem? (i := 3) rfl))
  refine Wp.iload_n 3 3 d_M_duel_30 rfl rfl ?_
  refine Wp.bipush d_M_duel_31 (by decide) (by decide) ?_
  obtain ⟨H2, H3⟩ := H0
  refine Wp.icmp_ge 108 d_M_duel_33 (by decide) (fun c1 => ?_) (fun c1 => ?_)
  · have H4 := H2 c1
    refine Wp.iconst d_M_duel_108 (by decide) ?_
    refine Wp.istore_n 3 [(0, .inr (.inr 70)), (1, .inl x1), (2, .inl x2), (3, .inl 0)] d_M_duel_109 rfl (by decide) rfl ?_
    refine Wp.iconst d_M_duel_110 (by decide) ?_
    refine Wp.istore 4 [(0, .inr (.inr 70)), (1, .inl x1), (2, .inl x2), (3, .inl 0), (4, .inl 0)] d_M_duel_111 (by decide) rfl ?_
    refine Wp.pick [0, 3, 4] [(0, .inr (.inr 70)), (3, .inl 0), (4, .inl 0)] rfl ?_
    exact H4
  · have H5 := H3 c1
    refine Wp.aload_n 0 0 d_M_duel_36 rfl rfl ?_
    obtain ⟨e6, P7, hd8, ho9, H10⟩ := H5
    refine Wq.VV (st := []) [] d_M_duel_37 k_M_layNow ml_M_378 rfl rfl rfl (fun h => by cases h) (Nat.le_of_ble_eq_true rfl) hd8 ho9 (fun m13 hp14 hw16 => ?_)
    have H11 := H10 m13 hp14 hw16
    refine Wp.aload_n 0 0 d_M_duel_40 rfl rfl ?_
    refine Wp.getP 93 d_M_duel_41 fl_M_82 rfl rfl rfl ?_
    refine Wp.iload_n 1 1 d_M_duel_44 rfl rfl ?_
    refine Wp.dup2 d_M_duel_45 rfl rfl ?_
    obtain ⟨s17, H18⟩ := H11
    refine Wp.iald d_M_duel_46 rfl (Or.inl rfl) s17.1 s17.2 ?_
    refine Wp.iload_n 3 3 d_M_duel_47 rfl rfl ?_
    refine Wp.iconst d_M_duel_48 (by decide) ?_
    refine Wq.idiv d_M_duel_49 (by decide) ?_
    obtain ⟨s19, H20⟩ := H18
    refine Wp.iadd d_M_duel_50 s19 ?_
    obtain ⟨s72, H73⟩ := H20
    refine Wq.iast d_M_duel_51 rfl s72.1 s72.2 (fun m21 hm22 => ?_)
    have H23 := H73 m21 hm22
    refine Wp.aload_n 0 0 d_M_duel_52 rfl rfl ?_
    refine Wp.getP 93 d_M_duel_53 fl_M_82 rfl rfl rfl ?_
    refine Wp.iload_n 2 2 d_M_duel_56 rfl rfl ?_
    refine Wp.dup2 d_M_duel_57 rfl rfl ?_
    obtain ⟨s26, H27⟩ := H23
    refine Wp.iald d_M_duel_58 rfl (Or.inl rfl) s26.1 s26.2 ?_
    refine Wp.iload_n 3 3 d_M_duel_59 rfl rfl ?_
    refine Wp.iconst d_M_duel_60 (by decide) ?_
    refine Wq.irem d_M_duel_61 (by decide) ?_
    obtain ⟨s28, H29⟩ := H27
    refine Wp.iadd d_M_duel_62 s28 ?_
    obtain ⟨s70, H71⟩ := H29
    refine Wq.iast d_M_duel_63 rfl s70.1 s70.2 (fun m30 hm31 => ?_)
    have H32 := H71 m30 hm31
    refine Wp.aload_n 0 0 d_M_duel_64 rfl rfl ?_
    obtain ⟨e35, P36, hd37, ho38, H39⟩ := H32
    refine Wq.VI (st := []) [] d_M_duel_65 k_M_settleHeap ml_M_381 rfl rfl rfl (fun h => by cases h) (Nat.le_of_ble_eq_true rfl) hd37 ho38 (fun z41 m42 hp43 hz44 hw45 => ?_)
    have H40 := H39 z41 m42 hp43 hz44 hw45
    refine Wp.istore 4 [(0, .inr (.inr 70)), (1, .inl x1), (2, .inl x2), (3, .inl x3), (4, .inl z41)] d_M_duel_68 (by decide) rfl ?_
    refine Wp.aload_n 0 0 d_M_duel_70 rfl rfl ?_
    refine Wp.getP 100 d_M_duel_71 fl_M_103 rfl rfl rfl ?_
    refine Wp.iload_n 3 3 d_M_duel_74 rfl rfl ?_
    refine Wp.aload_n 0 0 d_M_duel_75 rfl rfl ?_
    refine Wp.getP 94 d_M_duel_76 fl_M_85 rfl rfl rfl ?_
    refine Wp.iload_n 1 1 d_M_duel_79 rfl rfl ?_
    obtain ⟨s46, H47⟩ := H40
    refine Wp.iald d_M_duel_80 rfl (Or.inl rfl) s46.1 s46.2 ?_
    refine Wp.iload_n 3 3 d_M_duel_81 rfl rfl ?_
    refine Wp.iconst d_M_duel_82 (by decide) ?_
    refine Wq.idiv d_M_duel_83 (by decide) ?_
    obtain ⟨s48, H49⟩ := H47
    refine Wp.isub d_M_duel_84 s48 ?_
    obtain ⟨s68, H69⟩ := H49
    refine Wq.iast d_M_duel_85 rfl s68.1 s68.2 (fun m50 hm51 => ?_)
    have H52 := H69 m50 hm51
    refine Wp.aload_n 0 0 d_M_duel_86 rfl rfl ?_
    refine Wp.getP 101 d_M_duel_87 fl_M_106 rfl rfl rfl ?_
    refine Wp.iload_n 3 3 d_M_duel_90 rfl rfl ?_
    refine Wp.aload_n 0 0 d_M_duel_91 rfl rfl ?_
    refine Wp.getP 94 d_M_duel_92 fl_M_85 rfl rfl rfl ?_
    refine Wp.iload_n 2 2 d_M_duel_95 rfl rfl ?_
    obtain ⟨s55, H56⟩ := H52
    refine Wp.iald d_M_duel_96 rfl (Or.inl rfl) s55.1 s55.2 ?_
    refine Wp.iload_n 3 3 d_M_duel_97 rfl rfl ?_
    refine Wp.iconst d_M_duel_98 (by decide) ?_
    refine Wq.irem d_M_duel_99 (by decide) ?_
    obtain ⟨s57, H58⟩ := H56
    refine Wp.isub d_M_duel_100 s57 ?_
    obtain ⟨s66, H67⟩ := H58
    refine Wq.iast d_M_duel_101 rfl s66.1 s66.2 (fun m59 hm60 => ?_)
    have H61 := H67 m59 hm60
    obtain ⟨s64, H65⟩ := H61
    refine Wp.iinc 3 3 [(0, .inr (.inr 70)), (1, .inl x1), (2, .inl x2), (3, .inl (x3 + 1)), (4, .inl z41)] d_M_duel_102 rfl s64 (by decide) rfl ?_
    refine Wp.goto 30 d_M_duel_105 (by decide) ?_
    refine Wp.pick [0, 1, 2, 3] [(0, .inr (.inr 70)), (1, .inl x1), (2, .inl x2), (3, .inl (x3 + 1))] rfl ?_
    exact H65
theorem s_M_duel_113 {l : Launch} {G : GT} {d : Nat} {P : Int → MM → Prop} {m : MM} (x3 : Int) (x4 : Int)  (H : wfM m → inR x3 → inR x4 → (x4 ≥ 16 → (P x3 m)) ∧ (¬ (x4 ≥ 16) → (Wq l G false Y_M_duel d (QI P) 138 [(0, .inr (.inr 70)), (3, .inl x3), (4, .inl x4), (5, .inl (Int.tdiv x4 4)), (6, .inl (Int.tmod x4 4)), (7, .inl 1), (8, .inl 0)] [] m))) : Wq l G false Y_M_duel d (QI P) 113 [(0, .inr (.inr 70)), (3, .inl x3), (4, .inl x4)] [] m := by
  refine Wp.wf (fun hw _ hl hs => ?_)
  have H0 := H hw (hl _ (List.mem_of_getElem? (i := 1) rfl)) (hl _ (List.mem_of_getElem? (i := 2) rfl))
  refine Wp.iload 2 4 d_M_duel_113 rfl ?_
  refine Wp.bipush d_M_duel_115 (by decide) (by decide) ?_
  obtain ⟨H2, H3⟩ := H0
  refine Wp.icmp_ge 248 d_M_duel_117 (by decide) (fun c1 => ?_) (fun c1 => ?_)
  · have H4 := H2 c1
    refine Wp.iload_n 1 3 d_M_duel_248 rfl rfl ?_
    exact Wq.iret d_M_duel_249 rfl H4
  · have H5 := H3 c1
    refine Wp.iload 2 4 d_M_duel_120 rfl ?_
    refine Wp.iconst d_M_duel_122 (by decide) ?_
    refine Wq.idiv d_M_duel_123 (by decide) ?_
    refine Wp.istore 5 [(0, .inr (.inr 70)), (3, .inl x3), (4, .inl x4), (5, .inl (Int.tdiv x4 4))] d_M_duel_124 (by decide) rfl ?_
    refine Wp.iload 2 4 d_M_duel_126 rfl ?_
    refine Wp.iconst d_M_duel_128 (by decide) ?_
    refine Wq.irem d_M_duel_129 (by decide) ?_
    refine Wp.istore 6 [(0, .inr (.inr 70)), (3, .inl x3), (4, .inl x4), (5, .inl (Int.tdiv x4 4)), (6, .inl (Int.tmod x4 4))] d_M_duel_130 (by decide) rfl ?_
    refine Wp.iconst d_M_duel_132 (by decide) ?_
    refine Wp.istore 7 [(0, .inr (.inr 70)), (3, .inl x3), (4, .inl x4), (5, .inl (Int.tdiv x4 4)), (6, .inl (Int.tmod x4 4)), (7, .inl 1)] d_M_duel_133 (by decide) rfl ?_
    refine Wp.iconst d_M_duel_135 (by decide) ?_
    refine Wp.istore 8 [(0, .inr (.inr 70)), (3, .inl x3), (4, .inl x4), (5, .inl (Int.tdiv x4 4)), (6, .inl (Int.tmod x4 4)), (7, .inl 1), (8, .inl 0)] d_M_duel_136 (by decide) rfl ?_
    exact H5
theorem s_M_duel_138 {l : Launch} {G : GT} {d : Nat} {P : Int → MM → Prop} {m : MM} (x3 : Int) (x4 : Int) (x5 : Int) (x6 : Int) (x7 : Int) (x8 : Int)  (H : wfM m → inR x3 → inR x4 → inR x5 → inR x6 → inR x7 → inR x8 → (x8 ≥ 4 → ((x7 ≠ 0 → ((x3 ≠ 0 → ((inR (x3 + 1)) ∧ ((inR (x4 + 1)) ∧ (Wq l G false Y_M_duel d (QI P) 113 [(0, .inr (.inr 70)), (3, .inl (x3 + 1)), (4, .inl (x4 + 1))] [] m)))) ∧ (¬ (x3 ≠ 0) → (∀ m20, m20 = up m 97 0 x5 → (∀ m25, m25 = up m20 97 1 x6 → (∀ m30, m30 = up m25 70 48 2 → ((inR (x3 + 1)) ∧ ((inR (x4 + 1)) ∧ (Wq l G false Y_M_duel d (QI P) 113 [(0, .inr (.inr 70)), (3, .inl (x3 + 1)), (4, .inl (x4 + 1))] [] m30))))))))) ∧ (¬ (x7 ≠ 0) → ((inR (x4 + 1)) ∧ (Wq l G false Y_M_duel d (QI P) 113 [(0, .inr (.inr 70)), (3, .inl x3), (4, .inl (x4 + 1))] [] m))))) ∧ (¬ (x8 ≥ 4) → ((x7 = 0 → ((inR (x8 + 1)) ∧ (Wq l G false Y_M_duel d (QI P) 138 [(0, .inr (.inr 70)), (3, .inl x3), (4, .inl x4), (5, .inl x5), (6, .inl x6), (7, .inl 0), (8, .inl (x8 + 1))] [] m))) ∧ (¬ (x7 = 0) → ((inR (4 * x8)) ∧ ((inR ((4 * x8) + x6)) ∧ ((0 ≤ ((4 * x8) + x6) ∧ ((4 * x8) + x6) < (16 : Int)) ∧ ((0 ≤ x4 ∧ x4 < (16 : Int)) ∧ (((m 100 ((4 * x8) + x6)) > (m 100 x4) → ((inR (x8 + 1)) ∧ (Wq l G false Y_M_duel d (QI P) 138 [(0, .inr (.inr 70)), (3, .inl x3), (4, .inl x4), (5, .inl x5), (6, .inl x6), (7, .inl 0), (8, .inl (x8 + 1))] [] m))) ∧ (¬ ((m 100 ((4 * x8) + x6)) > (m 100 x4)) → ((inR (4 * x5)) ∧ ((inR ((4 * x5) + x8)) ∧ ((0 ≤ ((4 * x5) + x8) ∧ ((4 * x5) + x8) < (16 : Int)) ∧ ((0 ≤ x4 ∧ x4 < (16 : Int)) ∧ (((m 101 ((4 * x5) + x8)) > (m 101 x4) → ((inR (x8 + 1)) ∧ (Wq l G false Y_M_duel d (QI P) 138 [(0, .inr (.inr 70)), (3, .inl x3), (4, .inl x4), (5, .inl x5), (6, .inl x6), (7, .inl 0), (8, .inl (x8 + 1))] [] m))) ∧ (¬ ((m 101 ((4 * x5) + x8)) > (m 101 x4)) → ((inR (x8 + 1)) ∧ (Wq l G false Y_M_duel d (QI P) 138 [(0, .inr (.inr 70)), (3, .inl x3), (4, .inl x4), (5, .inl x5), (6, .inl x6), (7, .inl 1), (8, .inl (x8 + 1))] [] m)))))))))))))))))) : Wq l G false Y_M_duel d (QI P) 138 [(0, .inr (.inr 70)), (3, .inl x3), (4, .inl x4), (5, .inl x5), (6, .inl x6), (7, .inl x7), (8, .inl x8)] [] m := by
  refine Wp.wf (fun hw _ hl hs => ?_)
  have H0 := H hw (hl _ (List.mem_of_getElem? (i := 1) rfl)) (hl _ (List.mem_of_getElem? (i := 2) rfl)) (hl _ (List.mem_of_getElem? (i := 3) rfl)) (hl _ (List.mem_of_getElem? (i := 4) rfl)) (hl _ (List.mem_of_getElem? (i := 5) rfl)) (hl _ (List.mem_of_getElem? (i := 6) rfl))
  refine Wp.iload 6 8 d_M_duel_138 rfl ?_
  refine Wp.iconst d_M_duel_140 (by decide) ?_
  obtain ⟨H2, H3⟩ := H0
  refine Wp.icmp_ge 206 d_M_duel_141 (by decide) (fun c1 => ?_) (fun c1 => ?_)
  · have H4 := H2 c1
    refine Wp.iload 5 7 d_M_duel_206 rfl ?_
    obtain ⟨H7, H8⟩ := H4
    refine Wp.if_ne 214 d_M_duel_208 (by decide) (fun c6 => ?_) (fun c6 => ?_)
    · have H9 := H7 c6
      refine Wp.iload_n 1 3 d_M_duel_214 rfl rfl ?_
      obtain ⟨H12, H13⟩ := H9
      refine Wp.if_ne 239 d_M_duel_215 (by decide) (fun c11 => ?_) (fun c11 => ?_)
      · have H14 := H12 c11
        obtain ⟨s16, H17⟩ := H14
        refine Wp.iinc 1 3 [(0, .inr (.inr 70)), (3, .inl (x3 + 1)), (4, .inl x4), (5, .inl x5), (6, .inl x6), (7, .inl x7), (8, .inl x8)] d_M_duel_239 rfl s16 (by decide) rfl ?_
        obtain ⟨s18, H19⟩ := H17
        refine Wp.iinc 2 4 [(0, .inr (.inr 70)), (3, .inl (x3 + 1)), (4, .inl (x4 + 1)), (5, .inl x5), (6, .inl x6), (7, .inl x7), (8, .inl x8)] d_M_duel_242 rfl s18 (by decide) rfl ?_
        refine Wp.goto 113 d_M_duel_245 (by decide) ?_
        refine Wp.pick [0, 1, 2] [(0, .inr (.inr 70)), (3, .inl (x3 + 1)), (4, .inl (x4 + 1))] rfl ?_
        exact H19
      · have H15 := H13 c11
        refine Wp.aload_n 0 0 d_M_duel_218 rfl rfl ?_
        refine Wp.getP 97 d_M_duel_219 fl_M_94 rfl rfl rfl ?_
        refine Wp.iconst d_M_duel_222 (by decide) ?_
        refine Wp.iload 3 5 d_M_duel_223 rfl ?_
        refine Wq.iast d_M_duel_225 rfl (by decide) (by decide) (fun m20 hm21 => ?_)
        have H22 := H15 m20 hm21
        refine Wp.aload_n 0 0 d_M_duel_226 rfl rfl ?_
        refine Wp.getP 97 d_M_duel_227 fl_M_94 rfl rfl rfl ?_
        refine Wp.iconst d_M_duel_230 (by decide) ?_
        refine Wp.iload 4 6 d_M_duel_231 rfl ?_
        refine Wq.iast d_M_duel_233 rfl (by decide) (by decide) (fun m25 hm26 => ?_)
        have H27 := H22 m25 hm26
        refine Wp.aload_n 0 0 d_M_duel_234 rfl rfl ?_
        refine Wp.iconst d_M_duel_235 (by decide) ?_
        refine Wq.putI 48 rfl d_M_duel_236 fl_M_369 (fun _ _ _ h => by cases h; rfl) rfl rfl rfl (fun m30 hm31 => ?_)
        have H32 := H27 m30 hm31
        obtain ⟨s33, H34⟩ := H32
        refine Wp.iinc 1 3 [(0, .inr (.inr 70)), (3, .inl (x3 + 1)), (4, .inl x4), (5, .inl x5), (6, .inl x6), (7, .inl x7), (8, .inl x8)] d_M_duel_239 rfl s33 (by decide) rfl ?_
        obtain ⟨s35, H36⟩ := H34
        refine Wp.iinc 2 4 [(0, .inr (.inr 70)), (3, .inl (x3 + 1)), (4, .inl (x4 + 1)), (5, .inl x5), (6, .inl x6), (7, .inl x7), (8, .inl x8)] d_M_duel_242 rfl s35 (by decide) rfl ?_
        refine Wp.goto 113 d_M_duel_245 (by decide) ?_
        refine Wp.pick [0, 1, 2] [(0, .inr (.inr 70)), (3, .inl (x3 + 1)), (4, .inl (x4 + 1))] rfl ?_
        exact H36
    · have H10 := H8 c6
      refine Wp.goto 242 d_M_duel_211 (by decide) ?_
      obtain ⟨s37, H38⟩ := H10
      refine Wp.iinc 2 4 [(0, .inr (.inr 70)), (3, .inl x3), (4, .inl (x4 + 1)), (5, .inl x5), (6, .inl x6), (7, .inl x7), (8, .inl x8)] d_M_duel_242 rfl s37 (by decide) rfl ?_
      refine Wp.goto 113 d_M_duel_245 (by decide) ?_
      refine Wp.pick [0, 1, 2] [(0, .inr (.inr 70)), (3, .inl x3), (4, .inl (x4 + 1))] rfl ?_
      exact H38
  · have H5 := H3 c1
    refine Wp.iload 5 7 d_M_duel_144 rfl ?_
    obtain ⟨H40, H41⟩ := H5
    refine Wp.if_eq 197 d_M_duel_146 (by decide) (fun c39 => ?_) (fun c39 => ?_)
    · have H42 := H40 c39
      refine Wp.iconst d_M_duel_197 (by decide) ?_
      refine Wp.istore 7 [(0, .inr (.inr 70)), (3, .inl x3), (4, .inl x4), (5, .inl x5), (6, .inl x6), (7, .inl 0), (8, .inl x8)] d_M_duel_198 (by decide) rfl ?_
      obtain ⟨s44, H45⟩ := H42
      refine Wp.iinc 6 8 [(0, .inr (.inr 70)), (3, .inl x3), (4, .inl x4), (5, .inl x5), (6, .inl x6), (7, .inl 0), (8, .inl (x8 + 1))] d_M_duel_200 rfl s44 (by decide) rfl ?_
      refine Wp.goto 138 d_M_duel_203 (by decide) ?_
      exact H45
    · have H43 := H41 c39
      refine Wp.aload_n 0 0 d_M_duel_149 rfl rfl ?_
      refine Wp.getP 100 d_M_duel_150 fl_M_103 rfl rfl rfl ?_
      refine Wp.iconst d_M_duel_153 (by decide) ?_
      refine Wp.iload 6 8 d_M_duel_154 rfl ?_
      obtain ⟨s46, H47⟩ := H43
      refine Wp.imul d_M_duel_156 s46 ?_
      refine Wp.iload 4 6 d_M_duel_157 rfl ?_
      obtain ⟨s48, H49⟩ := H47
      refine Wp.iadd d_M_duel_159 s48 ?_
      obtain ⟨s50, H51⟩ := H49
      refine Wp.iald d_M_duel_160 rfl (Or.inl rfl) s50.1 s50.2 ?_
      refine Wp.aload_n 0 0 d_M_duel_161 rfl rfl ?_
      refine Wp.getP 100 d_M_duel_162 fl_M_103 rfl rfl rfl ?_
      refine Wp.iload 2 4 d_M_duel_165 rfl ?_
      obtain ⟨s52, H53⟩ := H51
      refine Wp.iald d_M_duel_167 rfl (Or.inl rfl) s52.1 s52.2 ?_
      obtain ⟨H55, H56⟩ := H53
      refine Wp.icmp_gt 197 d_M_duel_168 (by decide) (fun c54 => ?_) (fun c54 => ?_)
      · have H57 := H55 c54
        refine Wp.iconst d_M_duel_197 (by decide) ?_
        refine Wp.istore 7 [(0, .inr (.inr 70)), (3, .inl x3), (4, .inl x4), (5, .inl x5), (6, .inl x6), (7, .inl 0), (8, .inl x8)] d_M_duel_198 (by decide) rfl ?_
        obtain ⟨s59, H60⟩ := H57
        refine Wp.iinc 6 8 [(0, .inr (.inr 70)), (3, .inl x3), (4, .inl x4), (5, .inl x5), (6, .inl x6), (7, .inl 0), (8, .inl (x8 + 1))] d_M_duel_200 rfl s59 (by decide) rfl ?_
        refine Wp.goto 138 d_M_duel_203 (by decide) ?_
        exact H60
      · have H58 := H56 c54
        refine Wp.aload_n 0 0 d_M_duel_171 rfl rfl ?_
        refine Wp.getP 101 d_M_duel_172 fl_M_106 rfl rfl rfl ?_
        refine Wp.iconst d_M_duel_175 (by decide) ?_
        refine Wp.iload 3 5 d_M_duel_176 rfl ?_
        obtain ⟨s61, H62⟩ := H58
        refine Wp.imul d_M_duel_178 s61 ?_
        refine Wp.iload 6 8 d_M_duel_179 rfl ?_
        obtain ⟨s63, H64⟩ := H62
        refine Wp.iadd d_M_duel_181 s63 ?_
        obtain ⟨s65, H66⟩ := H64
        refine Wp.iald d_M_duel_182 rfl (Or.inl rfl) s65.1 s65.2 ?_
        refine Wp.aload_n 0 0 d_M_duel_183 rfl rfl ?_
        refine Wp.getP 101 d_M_duel_184 fl_M_106 rfl rfl rfl ?_
        refine Wp.iload 2 4 d_M_duel_187 rfl ?_
        obtain ⟨s67, H68⟩ := H66
        refine Wp.iald d_M_duel_189 rfl (Or.inl rfl) s67.1 s67.2 ?_
        obtain ⟨H70, H71⟩ := H68
        refine Wp.icmp_gt 197 d_M_duel_190 (by decide) (fun c69 => ?_) (fun c69 => ?_)
        · have H72 := H70 c69
          refine Wp.iconst d_M_duel_197 (by decide) ?_
          refine Wp.istore 7 [(0, .inr (.inr 70)), (3, .inl x3), (4, .inl x4), (5, .inl x5), (6, .inl x6), (7, .inl 0), (8, .inl x8)] d_M_duel_198 (by decide) rfl ?_
          obtain ⟨s74, H75⟩ := H72
          refine Wp.iinc 6 8 [(0, .inr (.inr 70)), (3, .inl x3), (4, .inl x4), (5, .inl x5), (6, .inl x6), (7, .inl 0), (8, .inl (x8 + 1))] d_M_duel_200 rfl s74 (by decide) rfl ?_
          refine Wp.goto 138 d_M_duel_203 (by decide) ?_
          exact H75
        · have H73 := H71 c69
          refine Wp.iconst d_M_duel_193 (by decide) ?_
          refine Wp.goto 198 d_M_duel_194 (by decide) ?_
          refine Wp.istore 7 [(0, .inr (.inr 70)), (3, .inl x3), (4, .inl x4), (5, .inl x5), (6, .inl x6), (7, .inl 1), (8, .inl x8)] d_M_duel_198 (by decide) rfl ?_
          obtain ⟨s76, H77⟩ := H73
          refine Wp.iinc 6 8 [(0, .inr (.inr 70)), (3, .inl x3), (4, .inl x4), (5, .inl x5), (6, .inl x6), (7, .inl 1), (8, .inl (x8 + 1))] d_M_duel_200 rfl s76 (by decide) rfl ?_
          refine Wp.goto 138 d_M_duel_203 (by decide) ?_
          exact H77
theorem d_M_odds_0 : decode Y_M_odds.2.1 0 = .ok (.iload_n 1, 1) := by decide +kernel
theorem d_M_odds_1 : decode Y_M_odds.2.1 1 = .ok (.iconst 0, 1) := by decide +kernel
theorem d_M_odds_2 : decode Y_M_odds.2.1 2 = .ok (.iconst 4, 1) := by decide +kernel
theorem d_M_odds_3 : decode Y_M_odds.2.1 3 = .ok (.invokestatic 341, 3) := by decide +kernel
theorem d_M_odds_6 : decode Y_M_odds.2.1 6 = .ok (.ifCond .eq 12, 3) := by decide +kernel
theorem d_M_odds_9 : decode Y_M_odds.2.1 9 = .ok (.iload_n 2, 1) := by decide +kernel
theorem d_M_odds_10 : decode Y_M_odds.2.1 10 = .ok (.iconst 0, 1) := by decide +kernel
theorem d_M_odds_11 : decode Y_M_odds.2.1 11 = .ok (.iconst 1, 1) := by decide +kernel
theorem d_M_odds_12 : decode Y_M_odds.2.1 12 = .ok (.invokestatic 341, 3) := by decide +kernel
theorem d_M_odds_15 : decode Y_M_odds.2.1 15 = .ok (.ifCond .ne 5, 3) := by decide +kernel
theorem d_M_odds_18 : decode Y_M_odds.2.1 18 = .ok (.iconst (-1), 1) := by decide +kernel
theorem d_M_odds_19 : decode Y_M_odds.2.1 19 = .ok (.ireturn, 1) := by decide +kernel
theorem d_M_odds_20 : decode Y_M_odds.2.1 20 = .ok (.bipush 100, 2) := by decide +kernel
theorem d_M_odds_22 : decode Y_M_odds.2.1 22 = .ok (.aload_n 0, 1) := by decide +kernel
theorem d_M_odds_23 : decode Y_M_odds.2.1 23 = .ok (.getfield 30, 3) := by decide +kernel
theorem d_M_odds_26 : decode Y_M_odds.2.1 26 = .ok (.aload_n 0, 1) := by decide +kernel
theorem d_M_odds_27 : decode Y_M_odds.2.1 27 = .ok (.getfield 243, 3) := by decide +kernel
theorem d_M_odds_30 : decode Y_M_odds.2.1 30 = .ok (.iaload, 1) := by decide +kernel
theorem d_M_odds_31 : decode Y_M_odds.2.1 31 = .ok (.isub, 1) := by decide +kernel
theorem d_M_odds_32 : decode Y_M_odds.2.1 32 = .ok (.iload_n 1, 1) := by decide +kernel
theorem d_M_odds_33 : decode Y_M_odds.2.1 33 = .ok (.invokestatic 465, 3) := by decide +kernel
theorem d_M_odds_36 : decode Y_M_odds.2.1 36 = .ok (.istore_n 3, 1) := by decide +kernel
theorem d_M_odds_37 : decode Y_M_odds.2.1 37 = .ok (.bipush 100, 2) := by decide +kernel
theorem d_M_odds_39 : decode Y_M_odds.2.1 39 = .ok (.iload_n 1, 1) := by decide +kernel
theorem d_M_odds_40 : decode Y_M_odds.2.1 40 = .ok (.invokestatic 465, 3) := by decide +kernel
theorem d_M_odds_43 : decode Y_M_odds.2.1 43 = .ok (.istore 4, 2) := by decide +kernel
theorem d_M_odds_45 : decode Y_M_odds.2.1 45 = .ok (.iload_n 2, 1) := by decide +kernel
theorem d_M_odds_46 : decode Y_M_odds.2.1 46 = .ok (.ifCond .ne 7, 3) := by decide +kernel
theorem d_M_odds_49 : decode Y_M_odds.2.1 49 = .ok (.iload_n 3, 1) := by decide +kernel
theorem d_M_odds_50 : decode Y_M_odds.2.1 50 = .ok (.goto 5, 3) := by decide +kernel
theorem d_M_odds_53 : decode Y_M_odds.2.1 53 = .ok (.iload 4, 2) := by decide +kernel
theorem d_M_odds_55 : decode Y_M_odds.2.1 55 = .ok (.iload 4, 2) := by decide +kernel
theorem d_M_odds_57 : decode Y_M_odds.2.1 57 = .ok (.iload_n 3, 1) := by decide +kernel
theorem d_M_odds_58 : decode Y_M_odds.2.1 58 = .ok (.invokestatic 489, 3) := by decide +kernel
theorem d_M_odds_61 : decode Y_M_odds.2.1 61 = .ok (.idiv, 1) := by decide +kernel
theorem d_M_odds_62 : decode Y_M_odds.2.1 62 = .ok (.ireturn, 1) := by decide +kernel
theorem e_M_odds {l : Launch} {G : GT} {d : Nat} {P : Int → MM → Prop} {m : MM} (x1 : Int) (x2 : Int)  (H : wfM m → inR x1 → inR x2 → ∃ (e1 : Nat) (P2 : Int → MM → Prop), e1 < d ∧ CI l G Y_M_isIn e1 [.inl x1, .inl 0, .inl 4] m P2 ∧ (∀ z7 m8, P2 z7 m8 → inR z7 → wfM m8 → ((z7 = 0 → (P (-1) m8)) ∧ (¬ (z7 = 0) → (∃ (e17 : Nat) (P18 : Int → MM → Prop), e17 < d ∧ CI l G Y_M_isIn e17 [.inl x2, .inl 0, .inl 1] m8 P18 ∧ (∀ z23 m24, P18 z23 m24 → inR z23 → wfM m24 → ((z23 ≠ 0 → ((0 ≤ (m24 70 28) ∧ (m24 70 28) < (2 : Int)) ∧ ((inR (100 - (m24 76 (m24 70 28)))) ∧ (∃ (e37 : Nat) (P38 : Int → MM → Prop), e37 < d ∧ CI l G Y_M_power e37 [.inl (100 - (m24 76 (m24 70 28))), .inl x1] m24 P38 ∧ (∀ z43 m44, P38 z43 m44 → inR z43 → wfM m44 → (∃ (e48 : Nat) (P49 : Int → MM → Prop), e48 < d ∧ CI l G Y_M_power e48 [.inl 100, .inl x1] m44 P49 ∧ (∀ z54 m55, P49 z54 m55 → inR z54 → wfM m55 → ((x2 ≠ 0 → (∃ (e64 : Nat) (P65 : Int → MM → Prop), e64 < d ∧ CI l G Y_M_divisor e64 [.inl z54, .inl z43] m55 P65 ∧ (∀ z70 m71, P65 z70 m71 → inR z70 → wfM m71 → ((0 < z70) ∧ (P (Int.tdiv z54 z70) m71))))) ∧ (¬ (x2 ≠ 0) → (∃ (e77 : Nat) (P78 : Int → MM → Prop), e77 < d ∧ CI l G Y_M_divisor e77 [.inl z54, .inl z43] m55 P78 ∧ (∀ z83 m84, P78 z83 m84 → inR z83 → wfM m84 → ((0 < z83) ∧ (P (Int.tdiv z43 z83) m84))))))))))))) ∧ (¬ (z23 ≠ 0) → (P (-1) m24))))))))) : CI l G Y_M_odds d [.inr (.inr 70), .inl x1, .inl x2] m P := by
  refine CI.of [(0, .inr (.inr 70)), (1, .inl x1), (2, .inl x2)] k_M_odds.1 (Nat.le_of_ble_eq_true rfl) rfl (Wp.wf (fun hw _ hl hs => ?_))
  have H0 := H hw (hl _ (List.mem_of_getElem? (i := 1) rfl)) (hl _ (List.mem_of_getElem? (i := 2) rfl))
  refine Wp.iload_n 1 1 d_M_odds_0 rfl rfl ?_
  refine Wp.iconst d_M_odds_1 (by decide) ?_
  refine Wp.iconst d_M_odds_2 (by decide) ?_
  obtain ⟨e1, P2, hd3, ho4, H5⟩ := H0
  refine Wq.SI (st := []) [.inl x1, .inl 0, .inl 4] d_M_odds_3 k_M_isIn ml_M_341 rfl  (fun h => by cases h) (Nat.le_of_ble_eq_true rfl) hd3 ho4 (fun z7 m8 hp9 hz10 hw11 => ?_)
  have H6 := H5 z7 m8 hp9 hz10 hw11
  obtain ⟨H13, H14⟩ := H6
  refine Wp.if_eq 18 d_M_odds_6 (by decide) (fun c12 => ?_) (fun c12 => ?_)
  · have H15 := H13 c12
    refine Wp.iconst d_M_odds_18 (by decide) ?_
    exact Wq.iret d_M_odds_19 rfl H15
  · have H16 := H14 c12
    refine Wp.iload_n 2 2 d_M_odds_9 rfl rfl ?_
    refine Wp.iconst d_M_odds_10 (by decide) ?_
    refine Wp.iconst d_M_odds_11 (by decide) ?_
    obtain ⟨e17, P18, hd19, ho20, H21⟩ := H16
    refine Wq.SI (st := []) [.inl x2, .inl 0, .inl 1] d_M_odds_12 k_M_isIn ml_M_341 rfl  (fun h => by cases h) (Nat.le_of_ble_eq_true rfl) hd19 ho20 (fun z23 m24 hp25 hz26 hw27 => ?_)
    have H22 := H21 z23 m24 hp25 hz26 hw27
    obtain ⟨H29, H30⟩ := H22
    refine Wp.if_ne 20 d_M_odds_15 (by decide) (fun c28 => ?_) (fun c28 => ?_)
    · have H31 := H29 c28
      refine Wp.bipush d_M_odds_20 (by decide) (by decide) ?_
      refine Wp.aload_n 0 0 d_M_odds_22 rfl rfl ?_
      refine Wp.getP 76 d_M_odds_23 fl_M_30 rfl rfl rfl ?_
      refine Wp.aload_n 0 0 d_M_odds_26 rfl rfl ?_
      refine Wq.getI 28 rfl d_M_odds_27 fl_M_243 rfl (Or.inl rfl) ?_
      obtain ⟨s33, H34⟩ := H31
      refine Wp.iald d_M_odds_30 rfl (Or.inl rfl) s33.1 s33.2 ?_
      obtain ⟨s35, H36⟩ := H34
      refine Wp.isub d_M_odds_31 s35 ?_
      refine Wp.iload_n 1 1 d_M_odds_32 rfl rfl ?_
      obtain ⟨e37, P38, hd39, ho40, H41⟩ := H36
      refine Wq.SI (st := []) [.inl (100 - (m24 76 (m24 70 28))), .inl x1] d_M_odds_33 k_M_power ml_M_465 rfl  (fun h => by cases h) (Nat.le_of_ble_eq_true rfl) hd39 ho40 (fun z43 m44 hp45 hz46 hw47 => ?_)
      have H42 := H41 z43 m44 hp45 hz46 hw47
      refine Wp.istore_n 3 [(0, .inr (.inr 70)), (1, .inl x1), (2, .inl x2), (3, .inl z43)] d_M_odds_36 rfl (by decide) rfl ?_
      refine Wp.bipush d_M_odds_37 (by decide) (by decide) ?_
      refine Wp.iload_n 1 1 d_M_odds_39 rfl rfl ?_
      obtain ⟨e48, P49, hd50, ho51, H52⟩ := H42
      refine Wq.SI (st := []) [.inl 100, .inl x1] d_M_odds_40 k_M_power ml_M_465 rfl  (fun h => by cases h) (Nat.le_of_ble_eq_true rfl) hd50 ho51 (fun z54 m55 hp56 hz57 hw58 => ?_)
      have H53 := H52 z54 m55 hp56 hz57 hw58
      refine Wp.istore 4 [(0, .inr (.inr 70)), (1, .inl x1), (2, .inl x2), (3, .inl z43), (4, .inl z54)] d_M_odds_43 (by decide) rfl ?_
      refine Wp.iload_n 2 2 d_M_odds_45 rfl rfl ?_
      obtain ⟨H60, H61⟩ := H53
      refine Wp.if_ne 53 d_M_odds_46 (by decide) (fun c59 => ?_) (fun c59 => ?_)
      · have H62 := H60 c59
        refine Wp.iload 4 4 d_M_odds_53 rfl ?_
        refine Wp.iload 4 4 d_M_odds_55 rfl ?_
        refine Wp.iload_n 3 3 d_M_odds_57 rfl rfl ?_
        obtain ⟨e64, P65, hd66, ho67, H68⟩ := H62
        refine Wq.SI (st := [.inl z54]) [.inl z54, .inl z43] d_M_odds_58 k_M_divisor ml_M_489 rfl  (fun h => by cases h) (Nat.le_of_ble_eq_true rfl) hd66 ho67 (fun z70 m71 hp72 hz73 hw74 => ?_)
        have H69 := H68 z70 m71 hp72 hz73 hw74
        obtain ⟨s75, H76⟩ := H69
        refine Wq.idiv d_M_odds_61 s75 ?_
        exact Wq.iret d_M_odds_62 rfl H76
      · have H63 := H61 c59
        refine Wp.iload_n 3 3 d_M_odds_49 rfl rfl ?_
        refine Wp.goto 55 d_M_odds_50 (by decide) ?_
        refine Wp.iload 4 4 d_M_odds_55 rfl ?_
        refine Wp.iload_n 3 3 d_M_odds_57 rfl rfl ?_
        obtain ⟨e77, P78, hd79, ho80, H81⟩ := H63
        refine Wq.SI (st := [.inl z43]) [.inl z54, .inl z43] d_M_odds_58 k_M_divisor ml_M_489 rfl  (fun h => by cases h) (Nat.le_of_ble_eq_true rfl) hd79 ho80 (fun z83 m84 hp85 hz86 hw87 => ?_)
        have H82 := H81 z83 m84 hp85 hz86 hw87
        obtain ⟨s88, H89⟩ := H82
        refine Wq.idiv d_M_odds_61 s88 ?_
        exact Wq.iret d_M_odds_62 rfl H89
    · have H32 := H30 c28
      refine Wp.iconst d_M_odds_18 (by decide) ?_
      exact Wq.iret d_M_odds_19 rfl H32
theorem d_M_seen_0 : decode Y_M_seen.2.1 0 = .ok (.aload_n 0, 1) := by decide +kernel
theorem d_M_seen_1 : decode Y_M_seen.2.1 1 = .ok (.iload_n 1, 1) := by decide +kernel
theorem d_M_seen_2 : decode Y_M_seen.2.1 2 = .ok (.invokevirtual 405, 3) := by decide +kernel
theorem d_M_seen_5 : decode Y_M_seen.2.1 5 = .ok (.ifCond .eq 22, 3) := by decide +kernel
theorem d_M_seen_8 : decode Y_M_seen.2.1 8 = .ok (.iload_n 2, 1) := by decide +kernel
theorem d_M_seen_9 : decode Y_M_seen.2.1 9 = .ok (.iconst 0, 1) := by decide +kernel
theorem d_M_seen_10 : decode Y_M_seen.2.1 10 = .ok (.bipush 99, 2) := by decide +kernel
theorem d_M_seen_12 : decode Y_M_seen.2.1 12 = .ok (.invokestatic 341, 3) := by decide +kernel
theorem d_M_seen_15 : decode Y_M_seen.2.1 15 = .ok (.ifCond .eq 12, 3) := by decide +kernel
theorem d_M_seen_18 : decode Y_M_seen.2.1 18 = .ok (.aload_n 0, 1) := by decide +kernel
theorem d_M_seen_19 : decode Y_M_seen.2.1 19 = .ok (.getfield 366, 3) := by decide +kernel
theorem d_M_seen_22 : decode Y_M_seen.2.1 22 = .ok (.bipush 30, 2) := by decide +kernel
theorem d_M_seen_24 : decode Y_M_seen.2.1 24 = .ok (.if_icmp .ne 5, 3) := by decide +kernel
theorem d_M_seen_27 : decode Y_M_seen.2.1 27 = .ok (.iconst (-1), 1) := by decide +kernel
theorem d_M_seen_28 : decode Y_M_seen.2.1 28 = .ok (.ireturn, 1) := by decide +kernel
theorem d_M_seen_29 : decode Y_M_seen.2.1 29 = .ok (.aload_n 0, 1) := by decide +kernel
theorem d_M_seen_30 : decode Y_M_seen.2.1 30 = .ok (.getfield 112, 3) := by decide +kernel
theorem d_M_seen_33 : decode Y_M_seen.2.1 33 = .ok (.aload_n 0, 1) := by decide +kernel
theorem d_M_seen_34 : decode Y_M_seen.2.1 34 = .ok (.getfield 366, 3) := by decide +kernel
theorem d_M_seen_37 : decode Y_M_seen.2.1 37 = .ok (.iload_n 1, 1) := by decide +kernel
theorem d_M_seen_38 : decode Y_M_seen.2.1 38 = .ok (.iastore, 1) := by decide +kernel
theorem d_M_seen_39 : decode Y_M_seen.2.1 39 = .ok (.aload_n 0, 1) := by decide +kernel
theorem d_M_seen_40 : decode Y_M_seen.2.1 40 = .ok (.getfield 115, 3) := by decide +kernel
theorem d_M_seen_43 : decode Y_M_seen.2.1 43 = .ok (.aload_n 0, 1) := by decide +kernel
theorem d_M_seen_44 : decode Y_M_seen.2.1 44 = .ok (.getfield 366, 3) := by decide +kernel
theorem d_M_seen_47 : decode Y_M_seen.2.1 47 = .ok (.iload_n 2, 1) := by decide +kernel
theorem d_M_seen_48 : decode Y_M_seen.2.1 48 = .ok (.iastore, 1) := by decide +kernel
theorem d_M_seen_49 : decode Y_M_seen.2.1 49 = .ok (.aload_n 0, 1) := by decide +kernel
theorem d_M_seen_50 : decode Y_M_seen.2.1 50 = .ok (.getfield 118, 3) := by decide +kernel
theorem d_M_seen_53 : decode Y_M_seen.2.1 53 = .ok (.aload_n 0, 1) := by decide +kernel
theorem d_M_seen_54 : decode Y_M_seen.2.1 54 = .ok (.getfield 366, 3) := by decide +kernel
theorem d_M_seen_57 : decode Y_M_seen.2.1 57 = .ok (.iload_n 3, 1) := by decide +kernel
theorem d_M_seen_58 : decode Y_M_seen.2.1 58 = .ok (.ifCond .eq 7, 3) := by decide +kernel
theorem d_M_seen_61 : decode Y_M_seen.2.1 61 = .ok (.iconst 1, 1) := by decide +kernel
theorem d_M_seen_62 : decode Y_M_seen.2.1 62 = .ok (.goto 4, 3) := by decide +kernel
theorem d_M_seen_65 : decode Y_M_seen.2.1 65 = .ok (.iconst 0, 1) := by decide +kernel
theorem d_M_seen_66 : decode Y_M_seen.2.1 66 = .ok (.iastore, 1) := by decide +kernel
theorem d_M_seen_67 : decode Y_M_seen.2.1 67 = .ok (.aload_n 0, 1) := by decide +kernel
theorem d_M_seen_68 : decode Y_M_seen.2.1 68 = .ok (.getfield 121, 3) := by decide +kernel
theorem d_M_seen_71 : decode Y_M_seen.2.1 71 = .ok (.aload_n 0, 1) := by decide +kernel
theorem d_M_seen_72 : decode Y_M_seen.2.1 72 = .ok (.getfield 366, 3) := by decide +kernel
theorem d_M_seen_75 : decode Y_M_seen.2.1 75 = .ok (.aload_n 0, 1) := by decide +kernel
theorem d_M_seen_76 : decode Y_M_seen.2.1 76 = .ok (.getfield 495, 3) := by decide +kernel
theorem d_M_seen_79 : decode Y_M_seen.2.1 79 = .ok (.iastore, 1) := by decide +kernel
theorem d_M_seen_80 : decode Y_M_seen.2.1 80 = .ok (.aload_n 0, 1) := by decide +kernel
theorem d_M_seen_81 : decode Y_M_seen.2.1 81 = .ok (.getfield 124, 3) := by decide +kernel
theorem d_M_seen_84 : decode Y_M_seen.2.1 84 = .ok (.aload_n 0, 1) := by decide +kernel
theorem d_M_seen_85 : decode Y_M_seen.2.1 85 = .ok (.getfield 366, 3) := by decide +kernel
theorem d_M_seen_88 : decode Y_M_seen.2.1 88 = .ok (.iconst (-1), 1) := by decide +kernel
theorem d_M_seen_89 : decode Y_M_seen.2.1 89 = .ok (.iastore, 1) := by decide +kernel
theorem d_M_seen_90 : decode Y_M_seen.2.1 90 = .ok (.aload_n 0, 1) := by decide +kernel
theorem d_M_seen_91 : decode Y_M_seen.2.1 91 = .ok (.dup, 1) := by decide +kernel
theorem d_M_seen_92 : decode Y_M_seen.2.1 92 = .ok (.getfield 366, 3) := by decide +kernel
theorem d_M_seen_95 : decode Y_M_seen.2.1 95 = .ok (.iconst 1, 1) := by decide +kernel
theorem d_M_seen_96 : decode Y_M_seen.2.1 96 = .ok (.iadd, 1) := by decide +kernel
theorem d_M_seen_97 : decode Y_M_seen.2.1 97 = .ok (.putfield 366, 3) := by decide +kernel
theorem d_M_seen_100 : decode Y_M_seen.2.1 100 = .ok (.aload_n 0, 1) := by decide +kernel
theorem d_M_seen_101 : decode Y_M_seen.2.1 101 = .ok (.getfield 366, 3) := by decide +kernel
theorem d_M_seen_104 : decode Y_M_seen.2.1 104 = .ok (.iconst 1, 1) := by decide +kernel
theorem d_M_seen_105 : decode Y_M_seen.2.1 105 = .ok (.isub, 1) := by decide +kernel
theorem d_M_seen_106 : decode Y_M_seen.2.1 106 = .ok (.ireturn, 1) := by decide +kernel
theorem e_M_seen {l : Launch} {G : GT} {d : Nat} {P : Int → MM → Prop} {m : MM} (x1 : Int) (x2 : Int) (x3 : Int)  (H : wfM m → inR x1 → inR x2 → inR x3 → ∃ (e1 : Nat) (P2 : Int → MM → Prop), e1 < d ∧ CI l G Y_M_isPlate e1 [.inr (.inr 70), .inl x1] m P2 ∧ (∀ z7 m8, P2 z7 m8 → inR z7 → wfM m8 → ((z7 = 0 → (P (-1) m8)) ∧ (¬ (z7 = 0) → (∃ (e17 : Nat) (P18 : Int → MM → Prop), e17 < d ∧ CI l G Y_M_isIn e17 [.inl x2, .inl 0, .inl 99] m8 P18 ∧ (∀ z23 m24, P18 z23 m24 → inR z23 → wfM m24 → ((z23 = 0 → (P (-1) m24)) ∧ (¬ (z23 = 0) → (((m24 70 60) ≠ 30 → ((0 ≤ (m24 70 60) ∧ (m24 70 60) < (30 : Int)) ∧ (∀ m38, m38 = up m24 103 (m24 70 60) x1 → ((0 ≤ (m38 70 60) ∧ (m38 70 60) < (30 : Int)) ∧ (∀ m43, m43 = up m38 104 (m38 70 60) x2 → ((x3 = 0 → ((0 ≤ (m43 70 60) ∧ (m43 70 60) < (30 : Int)) ∧ (∀ m53, m53 = up m43 105 (m43 70 60) 0 → ((0 ≤ (m53 70 60) ∧ (m53 70 60) < (30 : Int)) ∧ (∀ m58, m58 = up m53 106 (m53 70 60) (m53 70 61) → ((0 ≤ (m58 70 60) ∧ (m58 70 60) < (30 : Int)) ∧ (∀ m63, m63 = up m58 107 (m58 70 60) (-1) → ((inR ((m63 70 60) + 1)) ∧ (∀ m70, m70 = up m63 70 60 ((m63 70 60) + 1) → ((inR ((m70 70 60) - 1)) ∧ (P ((m70 70 60) - 1) m70))))))))))) ∧ (¬ (x3 = 0) → ((0 ≤ (m43 70 60) ∧ (m43 70 60) < (30 : Int)) ∧ (∀ m81, m81 = up m43 105 (m43 70 60) 1 → ((0 ≤ (m81 70 60) ∧ (m81 70 60) < (30 : Int)) ∧ (∀ m86, m86 = up m81 106 (m81 70 60) (m81 70 61) → ((0 ≤ (m86 70 60) ∧ (m86 70 60) < (30 : Int)) ∧ (∀ m91, m91 = up m86 107 (m86 70 60) (-1) → ((inR ((m91 70 60) + 1)) ∧ (∀ m98, m98 = up m91 70 60 ((m91 70 60) + 1) → ((inR ((m98 70 60) - 1)) ∧ (P ((m98 70 60) - 1) m98))))))))))))))))) ∧ (¬ ((m24 70 60) ≠ 30) → (P (-1) m24))))))))))) : CI l G Y_M_seen d [.inr (.inr 70), .inl x1, .inl x2, .inl x3] m P := by
  refine CI.of [(0, .inr (.inr 70)), (1, .inl x1), (2, .inl x2), (3, .inl x3)] k_M_seen.1 (Nat.le_of_ble_eq_true rfl) rfl (Wp.wf (fun hw _ hl hs => ?_))
  have H0 := H hw (hl _ (List.mem_of_getElem? (i := 1) rfl)) (hl _ (List.mem_of_getElem? (i := 2) rfl)) (hl _ (List.mem_of_getElem? (i := 3) rfl))
  refine Wp.aload_n 0 0 d_M_seen_0 rfl rfl ?_
  refine Wp.iload_n 1 1 d_M_seen_1 rfl rfl ?_
  obtain ⟨e1, P2, hd3, ho4, H5⟩ := H0
  refine Wq.VI (st := []) [.inl x1] d_M_seen_2 k_M_isPlate ml_M_405 rfl rfl rfl (fun h => by cases h) (Nat.le_of_ble_eq_true rfl) hd3 ho4 (fun z7 m8 hp9 hz10 hw11 => ?_)
  have H6 := H5 z7 m8 hp9 hz10 hw11
  obtain ⟨H13, H14⟩ := H6
  refine Wp.if_eq 27 d_M_seen_5 (by decide) (fun c12 => ?_) (fun c12 => ?_)
  · have H15 := H13 c12
    refine Wp.iconst d_M_seen_27 (by decide) ?_
    exact Wq.iret d_M_seen_28 rfl H15
  · have H16 := H14 c12
    refine Wp.iload_n 2 2 d_M_seen_8 rfl rfl ?_
    refine Wp.iconst d_M_seen_9 (by decide) ?_
    refine Wp.bipush d_M_seen_10 (by decide) (by decide) ?_
    obtain ⟨e17, P18, hd19, ho20, H21⟩ := H16
    refine Wq.SI (st := []) [.inl x2, .inl 0, .inl 99] d_M_seen_12 k_M_isIn ml_M_341 rfl  (fun h => by cases h) (Nat.le_of_ble_eq_true rfl) hd19 ho20 (fun z23 m24 hp25 hz26 hw27 => ?_)
    have H22 := H21 z23 m24 hp25 hz26 hw27
    obtain ⟨H29, H30⟩ := H22
    refine Wp.if_eq 27 d_M_seen_15 (by decide) (fun c28 => ?_) (fun c28 => ?_)
    · have H31 := H29 c28
      refine Wp.iconst d_M_seen_27 (by decide) ?_
      exact Wq.iret d_M_seen_28 rfl H31
    · have H32 := H30 c28
      refine Wp.aload_n 0 0 d_M_seen_18 rfl rfl ?_
      refine Wq.getI 60 rfl d_M_seen_19 fl_M_366 rfl (Or.inl rfl) ?_
      refine Wp.bipush d_M_seen_22 (by decide) (by decide) ?_
      obtain ⟨H34, H35⟩ := H32
      refine Wp.icmp_ne 29 d_M_seen_24 (by decide) (fun c33 => ?_) (fun c33 => ?_)
      · have H36 := H34 c33
        refine Wp.aload_n 0 0 d_M_seen_29 rfl rfl ?_
        refine Wp.getP 103 d_M_seen_30 fl_M_112 rfl rfl rfl ?_
        refine Wp.aload_n 0 0 d_M_seen_33 rfl rfl ?_
        refine Wq.getI 60 rfl d_M_seen_34 fl_M_366 rfl (Or.inl rfl) ?_
        refine Wp.iload_n 1 1 d_M_seen_37 rfl rfl ?_
        obtain ⟨s111, H112⟩ := H36
        refine Wq.iast d_M_seen_38 rfl s111.1 s111.2 (fun m38 hm39 => ?_)
        have H40 := H112 m38 hm39
        refine Wp.aload_n 0 0 d_M_seen_39 rfl rfl ?_
        refine Wp.getP 104 d_M_seen_40 fl_M_115 rfl rfl rfl ?_
        refine Wp.aload_n 0 0 d_M_seen_43 rfl rfl ?_
        refine Wq.getI 60 rfl d_M_seen_44 fl_M_366 rfl (Or.inl rfl) ?_
        refine Wp.iload_n 2 2 d_M_seen_47 rfl rfl ?_
        obtain ⟨s109, H110⟩ := H40
        refine Wq.iast d_M_seen_48 rfl s109.1 s109.2 (fun m43 hm44 => ?_)
        have H45 := H110 m43 hm44
        refine Wp.aload_n 0 0 d_M_seen_49 rfl rfl ?_
        refine Wp.getP 105 d_M_seen_50 fl_M_118 rfl rfl rfl ?_
        refine Wp.aload_n 0 0 d_M_seen_53 rfl rfl ?_
        refine Wq.getI 60 rfl d_M_seen_54 fl_M_366 rfl (Or.inl rfl) ?_
        refine Wp.iload_n 3 3 d_M_seen_57 rfl rfl ?_
        obtain ⟨H49, H50⟩ := H45
        refine Wp.if_eq 65 d_M_seen_58 (by decide) (fun c48 => ?_) (fun c48 => ?_)
        · have H51 := H49 c48
          refine Wp.iconst d_M_seen_65 (by decide) ?_
          obtain ⟨s79, H80⟩ := H51
          refine Wq.iast d_M_seen_66 rfl s79.1 s79.2 (fun m53 hm54 => ?_)
          have H55 := H80 m53 hm54
          refine Wp.aload_n 0 0 d_M_seen_67 rfl rfl ?_
          refine Wp.getP 106 d_M_seen_68 fl_M_121 rfl rfl rfl ?_
          refine Wp.aload_n 0 0 d_M_seen_71 rfl rfl ?_
          refine Wq.getI 60 rfl d_M_seen_72 fl_M_366 rfl (Or.inl rfl) ?_
          refine Wp.aload_n 0 0 d_M_seen_75 rfl rfl ?_
          refine Wq.getI 61 rfl d_M_seen_76 fl_M_495 rfl (Or.inl rfl) ?_
          obtain ⟨s77, H78⟩ := H55
          refine Wq.iast d_M_seen_79 rfl s77.1 s77.2 (fun m58 hm59 => ?_)
          have H60 := H78 m58 hm59
          refine Wp.aload_n 0 0 d_M_seen_80 rfl rfl ?_
          refine Wp.getP 107 d_M_seen_81 fl_M_124 rfl rfl rfl ?_
          refine Wp.aload_n 0 0 d_M_seen_84 rfl rfl ?_
          refine Wq.getI 60 rfl d_M_seen_85 fl_M_366 rfl (Or.inl rfl) ?_
          refine Wp.iconst d_M_seen_88 (by decide) ?_
          obtain ⟨s75, H76⟩ := H60
          refine Wq.iast d_M_seen_89 rfl s75.1 s75.2 (fun m63 hm64 => ?_)
          have H65 := H76 m63 hm64
          refine Wp.aload_n 0 0 d_M_seen_90 rfl rfl ?_
          refine Wp.dup d_M_seen_91 rfl ?_
          refine Wq.getI 60 rfl d_M_seen_92 fl_M_366 rfl (Or.inl rfl) ?_
          refine Wp.iconst d_M_seen_95 (by decide) ?_
          obtain ⟨s68, H69⟩ := H65
          refine Wp.iadd d_M_seen_96 s68 ?_
          refine Wq.putI 60 rfl d_M_seen_97 fl_M_366 (fun _ _ _ h => by cases h; rfl) rfl rfl rfl (fun m70 hm71 => ?_)
          have H72 := H69 m70 hm71
          refine Wp.aload_n 0 0 d_M_seen_100 rfl rfl ?_
          refine Wq.getI 60 rfl d_M_seen_101 fl_M_366 rfl (Or.inl rfl) ?_
          refine Wp.iconst d_M_seen_104 (by decide) ?_
          obtain ⟨s73, H74⟩ := H72
          refine Wp.isub d_M_seen_105 s73 ?_
          exact Wq.iret d_M_seen_106 rfl H74
        · have H52 := H50 c48
          refine Wp.iconst d_M_seen_61 (by decide) ?_
          refine Wp.goto 66 d_M_seen_62 (by decide) ?_
          obtain ⟨s107, H108⟩ := H52
          refine Wq.iast d_M_seen_66 rfl s107.1 s107.2 (fun m81 hm82 => ?_)
          have H83 := H108 m81 hm82
          refine Wp.aload_n 0 0 d_M_seen_67 rfl rfl ?_
          refine Wp.getP 106 d_M_seen_68 fl_M_121 rfl rfl rfl ?_
          refine Wp.aload_n 0 0 d_M_seen_71 rfl rfl ?_
          refine Wq.getI 60 rfl d_M_seen_72 fl_M_366 rfl (Or.inl rfl) ?_
          refine Wp.aload_n 0 0 d_M_seen_75 rfl rfl ?_
          refine Wq.getI 61 rfl d_M_seen_76 fl_M_495 rfl (Or.inl rfl) ?_
          obtain ⟨s105, H106⟩ := H83
          refine Wq.iast d_M_seen_79 rfl s105.1 s105.2 (fun m86 hm87 => ?_)
          have H88 := H106 m86 hm87
          refine Wp.aload_n 0 0 d_M_seen_80 rfl rfl ?_
          refine Wp.getP 107 d_M_seen_81 fl_M_124 rfl rfl rfl ?_
          refine Wp.aload_n 0 0 d_M_seen_84 rfl rfl ?_
          refine Wq.getI 60 rfl d_M_seen_85 fl_M_366 rfl (Or.inl rfl) ?_
          refine Wp.iconst d_M_seen_88 (by decide) ?_
          obtain ⟨s103, H104⟩ := H88
          refine Wq.iast d_M_seen_89 rfl s103.1 s103.2 (fun m91 hm92 => ?_)
          have H93 := H104 m91 hm92
          refine Wp.aload_n 0 0 d_M_seen_90 rfl rfl ?_
          refine Wp.dup d_M_seen_91 rfl ?_
          refine Wq.getI 60 rfl d_M_seen_92 fl_M_366 rfl (Or.inl rfl) ?_
          refine Wp.iconst d_M_seen_95 (by decide) ?_
          obtain ⟨s96, H97⟩ := H93
          refine Wp.iadd d_M_seen_96 s96 ?_
          refine Wq.putI 60 rfl d_M_seen_97 fl_M_366 (fun _ _ _ h => by cases h; rfl) rfl rfl rfl (fun m98 hm99 => ?_)
          have H100 := H97 m98 hm99
          refine Wp.aload_n 0 0 d_M_seen_100 rfl rfl ?_
          refine Wq.getI 60 rfl d_M_seen_101 fl_M_366 rfl (Or.inl rfl) ?_
          refine Wp.iconst d_M_seen_104 (by decide) ?_
          obtain ⟨s101, H102⟩ := H100
          refine Wp.isub d_M_seen_105 s101 ?_
          exact Wq.iret d_M_seen_106 rfl H102
      · have H37 := H35 c33
        refine Wp.iconst d_M_seen_27 (by decide) ?_
        exact Wq.iret d_M_seen_28 rfl H37
theorem d_M_untell_0 : decode Y_M_untell.2.1 0 = .ok (.iload_n 1, 1) := by decide +kernel
theorem d_M_untell_1 : decode Y_M_untell.2.1 1 = .ok (.iconst 0, 1) := by decide +kernel
theorem d_M_untell_2 : decode Y_M_untell.2.1 2 = .ok (.aload_n 0, 1) := by decide +kernel
theorem d_M_untell_3 : decode Y_M_untell.2.1 3 = .ok (.getfield 366, 3) := by decide +kernel
theorem d_M_untell_6 : decode Y_M_untell.2.1 6 = .ok (.iconst 1, 1) := by decide +kernel
theorem d_M_untell_7 : decode Y_M_untell.2.1 7 = .ok (.isub, 1) := by decide +kernel
theorem d_M_untell_8 : decode Y_M_untell.2.1 8 = .ok (.invokestatic 341, 3) := by decide +kernel
theorem d_M_untell_11 : decode Y_M_untell.2.1 11 = .ok (.ifCond .eq 12, 3) := by decide +kernel
theorem d_M_untell_14 : decode Y_M_untell.2.1 14 = .ok (.aload_n 0, 1) := by decide +kernel
theorem d_M_untell_15 : decode Y_M_untell.2.1 15 = .ok (.getfield 124, 3) := by decide +kernel
theorem d_M_untell_18 : decode Y_M_untell.2.1 18 = .ok (.iload_n 1, 1) := by decide +kernel
theorem d_M_untell_19 : decode Y_M_untell.2.1 19 = .ok (.iaload, 1) := by decide +kernel
theorem d_M_untell_20 : decode Y_M_untell.2.1 20 = .ok (.ifCond .lt 5, 3) := by decide +kernel
theorem d_M_untell_23 : decode Y_M_untell.2.1 23 = .ok (.iconst 0, 1) := by decide +kernel
theorem d_M_untell_24 : decode Y_M_untell.2.1 24 = .ok (.ireturn, 1) := by decide +kernel
theorem d_M_untell_25 : decode Y_M_untell.2.1 25 = .ok (.aload_n 0, 1) := by decide +kernel
theorem d_M_untell_26 : decode Y_M_untell.2.1 26 = .ok (.getfield 124, 3) := by decide +kernel
theorem d_M_untell_29 : decode Y_M_untell.2.1 29 = .ok (.iload_n 1, 1) := by decide +kernel
theorem d_M_untell_30 : decode Y_M_untell.2.1 30 = .ok (.aload_n 0, 1) := by decide +kernel
theorem d_M_untell_31 : decode Y_M_untell.2.1 31 = .ok (.getfield 495, 3) := by decide +kernel
theorem d_M_untell_34 : decode Y_M_untell.2.1 34 = .ok (.iastore, 1) := by decide +kernel
theorem d_M_untell_35 : decode Y_M_untell.2.1 35 = .ok (.iconst 1, 1) := by decide +kernel
theorem d_M_untell_36 : decode Y_M_untell.2.1 36 = .ok (.ireturn, 1) := by decide +kernel
theorem e_M_untell {l : Launch} {G : GT} {d : Nat} {P : Int → MM → Prop} {m : MM} (x1 : Int)  (H : wfM m → inR x1 → (inR ((m 70 60) - 1)) ∧ (∃ (e3 : Nat) (P4 : Int → MM → Prop), e3 < d ∧ CI l G Y_M_isIn e3 [.inl x1, .inl 0, .inl ((m 70 60) - 1)] m P4 ∧ (∀ z9 m10, P4 z9 m10 → inR z9 → wfM m10 → ((z9 = 0 → (P 0 m10)) ∧ (¬ (z9 = 0) → ((0 ≤ x1 ∧ x1 < (30 : Int)) ∧ (((m10 107 x1) < 0 → ((0 ≤ x1 ∧ x1 < (30 : Int)) ∧ (∀ m26, m26 = up m10 107 x1 (m10 70 61) → (P 1 m26)))) ∧ (¬ ((m10 107 x1) < 0) → (P 0 m10))))))))) : CI l G Y_M_untell d [.inr (.inr 70), .inl x1] m P := by
  refine CI.of [(0, .inr (.inr 70)), (1, .inl x1)] k_M_untell.1 (Nat.le_of_ble_eq_true rfl) rfl (Wp.wf (fun hw _ hl hs => ?_))
  have H0 := H hw (hl _ (List.mem_of_getElem? (i := 1) rfl))
  refine Wp.iload_n 1 1 d_M_untell_0 rfl rfl ?_
  refine Wp.iconst d_M_untell_1 (by decide) ?_
  refine Wp.aload_n 0 0 d_M_untell_2 rfl rfl ?_
  refine Wq.getI 60 rfl d_M_untell_3 fl_M_366 rfl (Or.inl rfl) ?_
  refine Wp.iconst d_M_untell_6 (by decide) ?_
  obtain ⟨s1, H2⟩ := H0
  refine Wp.isub d_M_untell_7 s1 ?_
  obtain ⟨e3, P4, hd5, ho6, H7⟩ := H2
  refine Wq.SI (st := []) [.inl x1, .inl 0, .inl ((m 70 60) - 1)] d_M_untell_8 k_M_isIn ml_M_341 rfl  (fun h => by cases h) (Nat.le_of_ble_eq_true rfl) hd5 ho6 (fun z9 m10 hp11 hz12 hw13 => ?_)
  have H8 := H7 z9 m10 hp11 hz12 hw13
  obtain ⟨H15, H16⟩ := H8
  refine Wp.if_eq 23 d_M_untell_11 (by decide) (fun c14 => ?_) (fun c14 => ?_)
  · have H17 := H15 c14
    refine Wp.iconst d_M_untell_23 (by decide) ?_
    exact Wq.zret d_M_untell_24 rfl (by decide) H17
  · have H18 := H16 c14
    refine Wp.aload_n 0 0 d_M_untell_14 rfl rfl ?_
    refine Wp.getP 107 d_M_untell_15 fl_M_124 rfl rfl rfl ?_
    refine Wp.iload_n 1 1 d_M_untell_18 rfl rfl ?_
    obtain ⟨s19, H20⟩ := H18
    refine Wp.iald d_M_untell_19 rfl (Or.inl rfl) s19.1 s19.2 ?_
    obtain ⟨H22, H23⟩ := H20
    refine Wp.if_lt 25 d_M_untell_20 (by decide) (fun c21 => ?_) (fun c21 => ?_)
    · have H24 := H22 c21
      refine Wp.aload_n 0 0 d_M_untell_25 rfl rfl ?_
      refine Wp.getP 107 d_M_untell_26 fl_M_124 rfl rfl rfl ?_
      refine Wp.iload_n 1 1 d_M_untell_29 rfl rfl ?_
      refine Wp.aload_n 0 0 d_M_untell_30 rfl rfl ?_
      refine Wq.getI 61 rfl d_M_untell_31 fl_M_495 rfl (Or.inl rfl) ?_
      obtain ⟨s31, H32⟩ := H24
      refine Wq.iast d_M_untell_34 rfl s31.1 s31.2 (fun m26 hm27 => ?_)
      have H28 := H32 m26 hm27
      refine Wp.iconst d_M_untell_35 (by decide) ?_
      exact Wq.zret d_M_untell_36 rfl (by decide) H28
    · have H25 := H23 c21
      refine Wp.iconst d_M_untell_23 (by decide) ?_
      exact Wq.zret d_M_untell_24 rfl (by decide) H25
theorem d_M_later_0 : decode Y_M_later.2.1 0 = .ok (.iload_n 1, 1) := by decide +kernel
theorem d_M_later_1 : decode Y_M_later.2.1 1 = .ok (.iconst 0, 1) := by decide +kernel
theorem d_M_later_2 : decode Y_M_later.2.1 2 = .ok (.sipush 1000, 3) := by decide +kernel
theorem d_M_later_5 : decode Y_M_later.2.1 5 = .ok (.invokestatic 341, 3) := by decide +kernel
theorem d_M_later_8 : decode Y_M_later.2.1 8 = .ok (.ifCond .eq 15, 3) := by decide +kernel
theorem d_M_later_11 : decode Y_M_later.2.1 11 = .ok (.aload_n 0, 1) := by decide +kernel
theorem d_M_later_12 : decode Y_M_later.2.1 12 = .ok (.getfield 495, 3) := by decide +kernel
theorem d_M_later_15 : decode Y_M_later.2.1 15 = .ok (.iload_n 1, 1) := by decide +kernel
theorem d_M_later_16 : decode Y_M_later.2.1 16 = .ok (.iadd, 1) := by decide +kernel
theorem d_M_later_17 : decode Y_M_later.2.1 17 = .ok (.ldc_w 498, 3) := by decide +kernel
theorem d_M_later_20 : decode Y_M_later.2.1 20 = .ok (.if_icmp .le 5, 3) := by decide +kernel
theorem d_M_later_23 : decode Y_M_later.2.1 23 = .ok (.iconst (-1), 1) := by decide +kernel
theorem d_M_later_24 : decode Y_M_later.2.1 24 = .ok (.ireturn, 1) := by decide +kernel
theorem d_M_later_25 : decode Y_M_later.2.1 25 = .ok (.aload_n 0, 1) := by decide +kernel
theorem d_M_later_26 : decode Y_M_later.2.1 26 = .ok (.dup, 1) := by decide +kernel
theorem d_M_later_27 : decode Y_M_later.2.1 27 = .ok (.getfield 495, 3) := by decide +kernel
theorem d_M_later_30 : decode Y_M_later.2.1 30 = .ok (.iload_n 1, 1) := by decide +kernel
theorem d_M_later_31 : decode Y_M_later.2.1 31 = .ok (.iadd, 1) := by decide +kernel
theorem d_M_later_32 : decode Y_M_later.2.1 32 = .ok (.putfield 495, 3) := by decide +kernel
theorem d_M_later_35 : decode Y_M_later.2.1 35 = .ok (.aload_n 0, 1) := by decide +kernel
theorem d_M_later_36 : decode Y_M_later.2.1 36 = .ok (.getfield 495, 3) := by decide +kernel
theorem d_M_later_39 : decode Y_M_later.2.1 39 = .ok (.ireturn, 1) := by decide +kernel
theorem e_M_later {l : Launch} {G : GT} {d : Nat} {P : Int → MM → Prop} {m : MM} (x1 : Int)  (H : wfM m → inR x1 → ∃ (e1 : Nat) (P2 : Int → MM → Prop), e1 < d ∧ CI l G Y_M_isIn e1 [.inl x1, .inl 0, .inl 1000] m P2 ∧ (∀ z7 m8, P2 z7 m8 → inR z7 → wfM m8 → ((z7 = 0 → (P (-1) m8)) ∧ (¬ (z7 = 0) → ((inR ((m8 70 61) + x1)) ∧ ((((m8 70 61) + x1) ≤ 100000 → ((inR ((m8 70 61) + x1)) ∧ (∀ m26, m26 = up m8 70 61 ((m8 70 61) + x1) → (P (m26 70 61) m26)))) ∧ (¬ (((m8 70 61) + x1) ≤ 100000) → (P (-1) m8)))))))) : CI l G Y_M_later d [.inr (.inr 70), .inl x1] m P := by
  refine CI.of [(0, .inr (.inr 70)), (1, .inl x1)] k_M_later.1 (Nat.le_of_ble_eq_true rfl) rfl (Wp.wf (fun hw _ hl hs => ?_))
  have H0 := H hw (hl _ (List.mem_of_getElem? (i := 1) rfl))
  refine Wp.iload_n 1 1 d_M_later_0 rfl rfl ?_
  refine Wp.iconst d_M_later_1 (by decide) ?_
  refine Wp.sipush d_M_later_2 (by decide) (by decide) ?_
  obtain ⟨e1, P2, hd3, ho4, H5⟩ := H0
  refine Wq.SI (st := []) [.inl x1, .inl 0, .inl 1000] d_M_later_5 k_M_isIn ml_M_341 rfl  (fun h => by cases h) (Nat.le_of_ble_eq_true rfl) hd3 ho4 (fun z7 m8 hp9 hz10 hw11 => ?_)
  have H6 := H5 z7 m8 hp9 hz10 hw11
  obtain ⟨H13, H14⟩ := H6
  refine Wp.if_eq 23 d_M_later_8 (by decide) (fun c12 => ?_) (fun c12 => ?_)
  · have H15 := H13 c12
    refine Wp.iconst d_M_later_23 (by decide) ?_
    exact Wq.iret d_M_later_24 rfl H15
  · have H16 := H14 c12
    refine Wp.aload_n 0 0 d_M_later_11 rfl rfl ?_
    refine Wq.getI 61 rfl d_M_later_12 fl_M_495 rfl (Or.inl rfl) ?_
    refine Wp.iload_n 1 1 d_M_later_15 rfl rfl ?_
    obtain ⟨s17, H18⟩ := H16
    refine Wp.iadd d_M_later_16 s17 ?_
    refine Wp.ldcw (z := 100000) d_M_later_17 kc_M_498 (by decide) (by decide) ?_
    obtain ⟨H20, H21⟩ := H18
    refine Wp.icmp_le 25 d_M_later_20 (by decide) (fun c19 => ?_) (fun c19 => ?_)
    · have H22 := H20 c19
      refine Wp.aload_n 0 0 d_M_later_25 rfl rfl ?_
      refine Wp.dup d_M_later_26 rfl ?_
      refine Wq.getI 61 rfl d_M_later_27 fl_M_495 rfl (Or.inl rfl) ?_
      refine Wp.iload_n 1 1 d_M_later_30 rfl rfl ?_
      obtain ⟨s24, H25⟩ := H22
      refine Wp.iadd d_M_later_31 s24 ?_
      refine Wq.putI 61 rfl d_M_later_32 fl_M_495 (fun _ _ _ h => by cases h; rfl) rfl rfl rfl (fun m26 hm27 => ?_)
      have H28 := H25 m26 hm27
      refine Wp.aload_n 0 0 d_M_later_35 rfl rfl ?_
      refine Wq.getI 61 rfl d_M_later_36 fl_M_495 rfl (Or.inl rfl) ?_
      exact Wq.iret d_M_later_39 rfl H28
    · have H23 := H21 c19
      refine Wp.iconst d_M_later_23 (by decide) ?_
      exact Wq.iret d_M_later_24 rfl H23
theorem d_M_fits_0 : decode Y_M_fits.2.1 0 = .ok (.aload_n 0, 1) := by decide +kernel
theorem d_M_fits_1 : decode Y_M_fits.2.1 1 = .ok (.invokevirtual 338, 3) := by decide +kernel
theorem d_M_fits_4 : decode Y_M_fits.2.1 4 = .ok (.ifCond .ne 5, 3) := by decide +kernel
theorem d_M_fits_7 : decode Y_M_fits.2.1 7 = .ok (.iconst 0, 1) := by decide +kernel
theorem d_M_fits_8 : decode Y_M_fits.2.1 8 = .ok (.ireturn, 1) := by decide +kernel
theorem d_M_fits_9 : decode Y_M_fits.2.1 9 = .ok (.aload_n 0, 1) := by decide +kernel
theorem d_M_fits_10 : decode Y_M_fits.2.1 10 = .ok (.invokevirtual 499, 3) := by decide +kernel
theorem d_M_fits_13 : decode Y_M_fits.2.1 13 = .ok (.iconst 0, 1) := by decide +kernel
theorem d_M_fits_14 : decode Y_M_fits.2.1 14 = .ok (.istore_n 2, 1) := by decide +kernel
theorem d_M_fits_15 : decode Y_M_fits.2.1 15 = .ok (.iconst 0, 1) := by decide +kernel
theorem d_M_fits_16 : decode Y_M_fits.2.1 16 = .ok (.istore_n 3, 1) := by decide +kernel
theorem d_M_fits_17 : decode Y_M_fits.2.1 17 = .ok (.iload_n 3, 1) := by decide +kernel
theorem d_M_fits_18 : decode Y_M_fits.2.1 18 = .ok (.bipush 30, 2) := by decide +kernel
theorem d_M_fits_20 : decode Y_M_fits.2.1 20 = .ok (.if_icmp .gt 26, 3) := by decide +kernel
theorem d_M_fits_23 : decode Y_M_fits.2.1 23 = .ok (.iload_n 2, 1) := by decide +kernel
theorem d_M_fits_24 : decode Y_M_fits.2.1 24 = .ok (.aload_n 0, 1) := by decide +kernel
theorem d_M_fits_25 : decode Y_M_fits.2.1 25 = .ok (.iload_n 3, 1) := by decide +kernel
theorem d_M_fits_26 : decode Y_M_fits.2.1 26 = .ok (.iload_n 1, 1) := by decide +kernel
theorem d_M_fits_27 : decode Y_M_fits.2.1 27 = .ok (.invokevirtual 502, 3) := by decide +kernel
theorem d_M_fits_30 : decode Y_M_fits.2.1 30 = .ok (.ifCond .eq 7, 3) := by decide +kernel
theorem d_M_fits_33 : decode Y_M_fits.2.1 33 = .ok (.iconst 1, 1) := by decide +kernel
theorem d_M_fits_34 : decode Y_M_fits.2.1 34 = .ok (.goto 4, 3) := by decide +kernel
theorem d_M_fits_37 : decode Y_M_fits.2.1 37 = .ok (.iconst 0, 1) := by decide +kernel
theorem d_M_fits_38 : decode Y_M_fits.2.1 38 = .ok (.iadd, 1) := by decide +kernel
theorem d_M_fits_39 : decode Y_M_fits.2.1 39 = .ok (.istore_n 2, 1) := by decide +kernel
theorem d_M_fits_40 : decode Y_M_fits.2.1 40 = .ok (.iinc 3 1, 3) := by decide +kernel
theorem d_M_fits_43 : decode Y_M_fits.2.1 43 = .ok (.goto (-26), 3) := by decide +kernel
theorem d_M_fits_46 : decode Y_M_fits.2.1 46 = .ok (.iload_n 2, 1) := by decide +kernel
theorem d_M_fits_47 : decode Y_M_fits.2.1 47 = .ok (.ireturn, 1) := by decide +kernel
theorem e_M_fits {l : Launch} {G : GT} {d : Nat} {P : Int → MM → Prop} {m : MM} (x1 : Int)  (H : wfM m → inR x1 → ∃ (e1 : Nat) (P2 : Int → MM → Prop), e1 < d ∧ CI l G Y_M_lots e1 [.inr (.inr 70)] m P2 ∧ (∀ z7 m8, P2 z7 m8 → inR z7 → wfM m8 → ((z7 ≠ 0 → (∃ (e17 : Nat) (P18 : MM → Prop), e17 < d ∧ CV l G Y_M_layRests e17 [.inr (.inr 70)] m8 P18 ∧ (∀ m24, P18 m24 → wfM m24 → (Wq l G false Y_M_fits d (QI P) 17 [(0, .inr (.inr 70)), (1, .inl x1), (2, .inl 0), (3, .inl 0)] [] m24)))) ∧ (¬ (z7 ≠ 0) → (P 0 m8))))) : CI l G Y_M_fits d [.inr (.inr 70), .inl x1] m P := by
  refine CI.of [(0, .inr (.inr 70)), (1, .inl x1)] k_M_fits.1 (Nat.le_of_ble_eq_true rfl) rfl (Wp.wf (fun hw _ hl hs => ?_))
  have H0 := H hw (hl _ (List.mem_of_getElem? (i := 1) rfl))
  refine Wp.aload_n 0 0 d_M_fits_0 rfl rfl ?_
  obtain ⟨e1, P2, hd3, ho4, H5⟩ := H0
  refine Wq.VI (st := []) [] d_M_fits_1 k_M_lots ml_M_338 rfl rfl rfl (fun h => by cases h) (Nat.le_of_ble_eq_true rfl) hd3 ho4 (fun z7 m8 hp9 hz10 hw11 => ?_)
  have H6 := H5 z7 m8 hp9 hz10 hw11
  obtain ⟨H13, H14⟩ := H6
  refine Wp.if_ne 9 d_M_fits_4 (by decide) (fun c12 => ?_) (fun c12 => ?_)
  · have H15 := H13 c12
    refine Wp.aload_n 0 0 d_M_fits_9 rfl rfl ?_
    obtain ⟨e17, P18, hd19, ho20, H21⟩ := H15
    refine Wq.VV (st := []) [] d_M_fits_10 k_M_layRests ml_M_499 rfl rfl rfl (fun h => by cases h) (Nat.le_of_ble_eq_true rfl) hd19 ho20 (fun m24 hp25 hw27 => ?_)
    have H22 := H21 m24 hp25 hw27
    refine Wp.iconst d_M_fits_13 (by decide) ?_
    refine Wp.istore_n 2 [(0, .inr (.inr 70)), (1, .inl x1), (2, .inl 0)] d_M_fits_14 rfl (by decide) rfl ?_
    refine Wp.iconst d_M_fits_15 (by decide) ?_
    refine Wp.istore_n 3 [(0, .inr (.inr 70)), (1, .inl x1), (2, .inl 0), (3, .inl 0)] d_M_fits_16 rfl (by decide) rfl ?_
    exact H22
  · have H16 := H14 c12
    refine Wp.iconst d_M_fits_7 (by decide) ?_
    exact Wq.iret d_M_fits_8 rfl H16
theorem s_M_fits_17 {l : Launch} {G : GT} {d : Nat} {P : Int → MM → Prop} {m : MM} (x1 : Int) (x2 : Int) (x3 : Int)  (H : wfM m → inR x1 → inR x2 → inR x3 → (x3 > 30 → (P x2 m)) ∧ (¬ (x3 > 30) → (∃ (e6 : Nat) (P7 : Int → MM → Prop), e6 < d ∧ CI l G Y_M_doesFit e6 [.inr (.inr 70), .inl x3, .inl x1] m P7 ∧ (∀ z12 m13, P7 z12 m13 → inR z12 → wfM m13 → ((z12 = 0 → ((inR (x2 + 0)) ∧ ((inR (x3 + 1)) ∧ (Wq l G false Y_M_fits d (QI P) 17 [(0, .inr (.inr 70)), (1, .inl x1), (2, .inl (x2 + 0)), (3, .inl (x3 + 1))] [] m13)))) ∧ (¬ (z12 = 0) → ((inR (x2 + 1)) ∧ ((inR (x3 + 1)) ∧ (Wq l G false Y_M_fits d (QI P) 17 [(0, .inr (.inr 70)), (1, .inl x1), (2, .inl (x2 + 1)), (3, .inl (x3 + 1))] [] m13))))))))) : Wq l G false Y_M_fits d (QI P) 17 [(0, .inr (.inr 70)), (1, .inl x1), (2, .inl x2), (3, .inl x3)] [] m := by
  refine Wp.wf (fun hw _ hl hs => ?_)
  have H0 := H hw (hl _ (List.mem_of_getElem? (i := 1) rfl)) (hl _ (List.mem_of_getElem? (i := 2) rfl)) (hl _ (List.mem_of_getElem? (i := 3) rfl))
  refine Wp.iload_n 3 3 d_M_fits_17 rfl rfl ?_
  refine Wp.bipush d_M_fits_18 (by decide) (by decide) ?_
  obtain ⟨H2, H3⟩ := H0
  refine Wp.icmp_gt 46 d_M_fits_20 (by decide) (fun c1 => ?_) (fun c1 => ?_)
  · have H4 := H2 c1
    refine Wp.iload_n 2 2 d_M_fits_46 rfl rfl ?_
    exact Wq.iret d_M_fits_47 rfl H4
  · have H5 := H3 c1
    refine Wp.iload_n 2 2 d_M_fits_23 rfl rfl ?_
    refine Wp.aload_n 0 0 d_M_fits_24 rfl rfl ?_
    refine Wp.iload_n 3 3 d_M_fits_25 rfl rfl ?_
    refine Wp.iload_n 1 1 d_M_fits_26 rfl rfl ?_
    obtain ⟨e6, P7, hd8, ho9, H10⟩ := H5
    refine Wq.VI (st := [.inl x2]) [.inl x3, .inl x1] d_M_fits_27 k_M_doesFit ml_M_502 rfl rfl rfl (fun h => by cases h) (Nat.le_of_ble_eq_true rfl) hd8 ho9 (fun z12 m13 hp14 hz15 hw16 => ?_)
    have H11 := H10 z12 m13 hp14 hz15 hw16
    obtain ⟨H18, H19⟩ := H11
    refine Wp.if_eq 37 d_M_fits_30 (by decide) (fun c17 => ?_) (fun c17 => ?_)
    · have H20 := H18 c17
      refine Wp.iconst d_M_fits_37 (by decide) ?_
      obtain ⟨s22, H23⟩ := H20
      refine Wp.iadd d_M_fits_38 s22 ?_
      refine Wp.istore_n 2 [(0, .inr (.inr 70)), (1, .inl x1), (2, .inl (x2 + 0)), (3, .inl x3)] d_M_fits_39 rfl (by decide) rfl ?_
      obtain ⟨s24, H25⟩ := H23
      refine Wp.iinc 3 3 [(0, .inr (.inr 70)), (1, .inl x1), (2, .inl (x2 + 0)), (3, .inl (x3 + 1))] d_M_fits_40 rfl s24 (by decide) rfl ?_
      refine Wp.goto 17 d_M_fits_43 (by decide) ?_
      exact H25
    · have H21 := H19 c17
      refine Wp.iconst d_M_fits_33 (by decide) ?_
      refine Wp.goto 38 d_M_fits_34 (by decide) ?_
      obtain ⟨s26, H27⟩ := H21
      refine Wp.iadd d_M_fits_38 s26 ?_
      refine Wp.istore_n 2 [(0, .inr (.inr 70)), (1, .inl x1), (2, .inl (x2 + 1)), (3, .inl x3)] d_M_fits_39 rfl (by decide) rfl ?_
      obtain ⟨s28, H29⟩ := H27
      refine Wp.iinc 3 3 [(0, .inr (.inr 70)), (1, .inl x1), (2, .inl (x2 + 1)), (3, .inl (x3 + 1))] d_M_fits_40 rfl s28 (by decide) rfl ?_
      refine Wp.goto 17 d_M_fits_43 (by decide) ?_
      exact H29
theorem d_M_layRests_0 : decode Y_M_layRests.2.1 0 = .ok (.iconst 0, 1) := by decide +kernel
theorem d_M_layRests_1 : decode Y_M_layRests.2.1 1 = .ok (.istore_n 1, 1) := by decide +kernel
theorem d_M_layRests_2 : decode Y_M_layRests.2.1 2 = .ok (.iload_n 1, 1) := by decide +kernel
theorem d_M_layRests_3 : decode Y_M_layRests.2.1 3 = .ok (.bipush 30, 2) := by decide +kernel
theorem d_M_layRests_5 : decode Y_M_layRests.2.1 5 = .ok (.if_icmp .gt 95, 3) := by decide +kernel
theorem d_M_layRests_8 : decode Y_M_layRests.2.1 8 = .ok (.iconst 0, 1) := by decide +kernel
theorem d_M_layRests_9 : decode Y_M_layRests.2.1 9 = .ok (.istore_n 2, 1) := by decide +kernel
theorem d_M_layRests_10 : decode Y_M_layRests.2.1 10 = .ok (.iload_n 2, 1) := by decide +kernel
theorem d_M_layRests_11 : decode Y_M_layRests.2.1 11 = .ok (.aload_n 0, 1) := by decide +kernel
theorem d_M_layRests_12 : decode Y_M_layRests.2.1 12 = .ok (.invokevirtual 338, 3) := by decide +kernel
theorem d_M_layRests_15 : decode Y_M_layRests.2.1 15 = .ok (.if_icmp .ge 42, 3) := by decide +kernel
theorem d_M_layRests_18 : decode Y_M_layRests.2.1 18 = .ok (.aload_n 0, 1) := by decide +kernel
theorem d_M_layRests_19 : decode Y_M_layRests.2.1 19 = .ok (.getfield 82, 3) := by decide +kernel
theorem d_M_layRests_22 : decode Y_M_layRests.2.1 22 = .ok (.iload_n 2, 1) := by decide +kernel
theorem d_M_layRests_23 : decode Y_M_layRests.2.1 23 = .ok (.iload_n 2, 1) := by decide +kernel
theorem d_M_layRests_24 : decode Y_M_layRests.2.1 24 = .ok (.aload_n 0, 1) := by decide +kernel
theorem d_M_layRests_25 : decode Y_M_layRests.2.1 25 = .ok (.invokevirtual 338, 3) := by decide +kernel
theorem d_M_layRests_28 : decode Y_M_layRests.2.1 28 = .ok (.iconst 1, 1) := by decide +kernel
theorem d_M_layRests_29 : decode Y_M_layRests.2.1 29 = .ok (.isub, 1) := by decide +kernel
theorem d_M_layRests_30 : decode Y_M_layRests.2.1 30 = .ok (.if_icmp .ne 7, 3) := by decide +kernel
theorem d_M_layRests_33 : decode Y_M_layRests.2.1 33 = .ok (.iload_n 1, 1) := by decide +kernel
theorem d_M_layRests_34 : decode Y_M_layRests.2.1 34 = .ok (.goto 16, 3) := by decide +kernel
theorem d_M_layRests_37 : decode Y_M_layRests.2.1 37 = .ok (.aload_n 0, 1) := by decide +kernel
theorem d_M_layRests_38 : decode Y_M_layRests.2.1 38 = .ok (.getfield 39, 3) := by decide +kernel
theorem d_M_layRests_41 : decode Y_M_layRests.2.1 41 = .ok (.iconst 5, 1) := by decide +kernel
theorem d_M_layRests_42 : decode Y_M_layRests.2.1 42 = .ok (.aload_n 0, 1) := by decide +kernel
theorem d_M_layRests_43 : decode Y_M_layRests.2.1 43 = .ok (.getfield 243, 3) := by decide +kernel
theorem d_M_layRests_46 : decode Y_M_layRests.2.1 46 = .ok (.imul, 1) := by decide +kernel
theorem d_M_layRests_47 : decode Y_M_layRests.2.1 47 = .ok (.iload_n 2, 1) := by decide +kernel
theorem d_M_layRests_48 : decode Y_M_layRests.2.1 48 = .ok (.iadd, 1) := by decide +kernel
theorem d_M_layRests_49 : decode Y_M_layRests.2.1 49 = .ok (.iaload, 1) := by decide +kernel
theorem d_M_layRests_50 : decode Y_M_layRests.2.1 50 = .ok (.iastore, 1) := by decide +kernel
theorem d_M_layRests_51 : decode Y_M_layRests.2.1 51 = .ok (.iinc 2 1, 3) := by decide +kernel
theorem d_M_layRests_54 : decode Y_M_layRests.2.1 54 = .ok (.goto (-44), 3) := by decide +kernel
theorem d_M_layRests_57 : decode Y_M_layRests.2.1 57 = .ok (.aload_n 0, 1) := by decide +kernel
theorem d_M_layRests_58 : decode Y_M_layRests.2.1 58 = .ok (.invokevirtual 381, 3) := by decide +kernel
theorem d_M_layRests_61 : decode Y_M_layRests.2.1 61 = .ok (.istore_n 2, 1) := by decide +kernel
theorem d_M_layRests_62 : decode Y_M_layRests.2.1 62 = .ok (.iconst 0, 1) := by decide +kernel
theorem d_M_layRests_63 : decode Y_M_layRests.2.1 63 = .ok (.istore_n 3, 1) := by decide +kernel
theorem d_M_layRests_64 : decode Y_M_layRests.2.1 64 = .ok (.iload_n 3, 1) := by decide +kernel
theorem d_M_layRests_65 : decode Y_M_layRests.2.1 65 = .ok (.aload_n 0, 1) := by decide +kernel
theorem d_M_layRests_66 : decode Y_M_layRests.2.1 66 = .ok (.invokevirtual 338, 3) := by decide +kernel
theorem d_M_layRests_69 : decode Y_M_layRests.2.1 69 = .ok (.if_icmp .ge 25, 3) := by decide +kernel
theorem d_M_layRests_72 : decode Y_M_layRests.2.1 72 = .ok (.aload_n 0, 1) := by decide +kernel
theorem d_M_layRests_73 : decode Y_M_layRests.2.1 73 = .ok (.getfield 109, 3) := by decide +kernel
theorem d_M_layRests_76 : decode Y_M_layRests.2.1 76 = .ok (.iconst 5, 1) := by decide +kernel
theorem d_M_layRests_77 : decode Y_M_layRests.2.1 77 = .ok (.iload_n 1, 1) := by decide +kernel
theorem d_M_layRests_78 : decode Y_M_layRests.2.1 78 = .ok (.imul, 1) := by decide +kernel
theorem d_M_layRests_79 : decode Y_M_layRests.2.1 79 = .ok (.iload_n 3, 1) := by decide +kernel
theorem d_M_layRests_80 : decode Y_M_layRests.2.1 80 = .ok (.iadd, 1) := by decide +kernel
theorem d_M_layRests_81 : decode Y_M_layRests.2.1 81 = .ok (.aload_n 0, 1) := by decide +kernel
theorem d_M_layRests_82 : decode Y_M_layRests.2.1 82 = .ok (.getfield 82, 3) := by decide +kernel
theorem d_M_layRests_85 : decode Y_M_layRests.2.1 85 = .ok (.iload_n 3, 1) := by decide +kernel
theorem d_M_layRests_86 : decode Y_M_layRests.2.1 86 = .ok (.iaload, 1) := by decide +kernel
theorem d_M_layRests_87 : decode Y_M_layRests.2.1 87 = .ok (.iastore, 1) := by decide +kernel
theorem d_M_layRests_88 : decode Y_M_layRests.2.1 88 = .ok (.iinc 3 1, 3) := by decide +kernel
theorem d_M_layRests_91 : decode Y_M_layRests.2.1 91 = .ok (.goto (-27), 3) := by decide +kernel
theorem d_M_layRests_94 : decode Y_M_layRests.2.1 94 = .ok (.iinc 1 1, 3) := by decide +kernel
theorem d_M_layRests_97 : decode Y_M_layRests.2.1 97 = .ok (.goto (-95), 3) := by decide +kernel
theorem d_M_layRests_100 : decode Y_M_layRests.2.1 100 = .ok (.return_, 1) := by decide +kernel
theorem e_M_layRests {l : Launch} {G : GT} {d : Nat} {P : MM → Prop} {m : MM}   (H : wfM m → Wq l G false Y_M_layRests d (QV P) 2 [(0, .inr (.inr 70)), (1, .inl 0)] [] m) : CV l G Y_M_layRests d [.inr (.inr 70)] m P := by
  refine CV.of [(0, .inr (.inr 70))] k_M_layRests.1 (Nat.le_of_ble_eq_true rfl) rfl (Wp.wf (fun hw _ hl hs => ?_))
  have H0 := H hw
  refine Wp.iconst d_M_layRests_0 (by decide) ?_
  refine Wp.istore_n 1 [(0, .inr (.inr 70)), (1, .inl 0)] d_M_layRests_1 rfl (by decide) rfl ?_
  exact H0
theorem s_M_layRests_2 {l : Launch} {G : GT} {d : Nat} {P : MM → Prop} {m : MM} (x1 : Int)  (H : wfM m → inR x1 → (x1 > 30 → (P m)) ∧ (¬ (x1 > 30) → (Wq l G false Y_M_layRests d (QV P) 10 [(0, .inr (.inr 70)), (1, .inl x1), (2, .inl 0)] [] m))) : Wq l G false Y_M_layRests d (QV P) 2 [(0, .inr (.inr 70)), (1, .inl x1)] [] m := by
  refine Wp.wf (fun hw _ hl hs => ?_)
  have H0 := H hw (hl _ (List.mem_of_getElem? (i := 1) rfl))
  refine Wp.iload_n 1 1 d_M_layRests_2 rfl rfl ?_
  refine Wp.bipush d_M_layRests_3 (by decide) (by decide) ?_
  obtain ⟨H2, H3⟩ := H0
  refine Wp.icmp_gt 100 d_M_layRests_5 (by decide) (fun c1 => ?_) (fun c1 => ?_)
  · have H4 := H2 c1
    exact Wq.vret d_M_layRests_100 rfl H4
  · have H5 := H3 c1
    refine Wp.iconst d_M_layRests_8 (by decide) ?_
    refine Wp.istore_n 2 [(0, .inr (.inr 70)), (1, .inl x1), (2, .inl 0)] d_M_layRests_9 rfl (by decide) rfl ?_
    exact H5
theorem s_M_layRests_10 {l : Launch} {G : GT} {d : Nat} {P : MM → Prop} {m : MM} (x1 : Int) (x2 : Int)  (H : wfM m → inR x1 → inR x2 → ∃ (e1 : Nat) (P2 : Int → MM → Prop), e1 < d ∧ CI l G Y_M_lots e1 [.inr (.inr 70)] m P2 ∧ (∀ z7 m8, P2 z7 m8 → inR z7 → wfM m8 → ((x2 ≥ z7 → (∃ (e17 : Nat) (P18 : Int → MM → Prop), e17 < d ∧ CI l G Y_M_settleHeap e17 [.inr (.inr 70)] m8 P18 ∧ (∀ z23 m24, P18 z23 m24 → inR z23 → wfM m24 → (Wq l G false Y_M_layRests d (QV P) 64 [(0, .inr (.inr 70)), (1, .inl x1), (3, .inl 0)] [] m24)))) ∧ (¬ (x2 ≥ z7) → (∃ (e28 : Nat) (P29 : Int → MM → Prop), e28 < d ∧ CI l G Y_M_lots e28 [.inr (.inr 70)] m8 P29 ∧ (∀ z34 m35, P29 z34 m35 → inR z34 → wfM m35 → ((inR (z34 - 1)) ∧ ((x2 ≠ (z34 - 1) → ((inR (5 * (m35 70 28))) ∧ ((inR ((5 * (m35 70 28)) + x2)) ∧ ((0 ≤ ((5 * (m35 70 28)) + x2) ∧ ((5 * (m35 70 28)) + x2) < (10 : Int)) ∧ ((0 ≤ x2 ∧ x2 < (5 : Int)) ∧ (∀ m52, m52 = up m35 93 x2 (m35 79 ((5 * (m35 70 28)) + x2)) → ((inR (x2 + 1)) ∧ (Wq l G false Y_M_layRests d (QV P) 10 [(0, .inr (.inr 70)), (1, .inl x1), (2, .inl (x2 + 1))] [] m52)))))))) ∧ (¬ (x2 ≠ (z34 - 1)) → ((0 ≤ x2 ∧ x2 < (5 : Int)) ∧ (∀ m61, m61 = up m35 93 x2 x1 → ((inR (x2 + 1)) ∧ (Wq l G false Y_M_layRests d (QV P) 10 [(0, .inr (.inr 70)), (1, .inl x1), (2, .inl (x2 + 1))] [] m61))))))))))))) : Wq l G false Y_M_layRests d (QV P) 10 [(0, .inr (.inr 70)), (1, .inl x1), (2, .inl x2)] [] m := by
  refine Wp.wf (fun hw _ hl hs => ?_)
  have H0 := H hw (hl _ (List.mem_of_getElem? (i := 1) rfl)) (hl _ (List.mem_of_getElem? (i := 2) rfl))
  refine Wp.iload_n 2 2 d_M_layRests_10 rfl rfl ?_
  refine Wp.aload_n 0 0 d_M_layRests_11 rfl rfl ?_
  obtain ⟨e1, P2, hd3, ho4, H5⟩ := H0
  refine Wq.VI (st := [.inl x2]) [] d_M_layRests_12 k_M_lots ml_M_338 rfl rfl rfl (fun h => by cases h) (Nat.le_of_ble_eq_true rfl) hd3 ho4 (fun z7 m8 hp9 hz10 hw11 => ?_)
  have H6 := H5 z7 m8 hp9 hz10 hw11
  obtain ⟨H13, H14⟩ := H6
  refine Wp.icmp_ge 57 d_M_layRests_15 (by decide) (fun c12 => ?_) (fun c12 => ?_)
  · have H15 := H13 c12
    refine Wp.aload_n 0 0 d_M_layRests_57 rfl rfl ?_
    obtain ⟨e17, P18, hd19, ho20, H21⟩ := H15
    refine Wq.VI (st := []) [] d_M_layRests_58 k_M_settleHeap ml_M_381 rfl rfl rfl (fun h => by cases h) (Nat.le_of_ble_eq_true rfl) hd19 ho20 (fun z23 m24 hp25 hz26 hw27 => ?_)
    have H22 := H21 z23 m24 hp25 hz26 hw27
    refine Wp.istore_n 2 [(0, .inr (.inr 70)), (1, .inl x1), (2, .inl z23)] d_M_layRests_61 rfl (by decide) rfl ?_
    refine Wp.iconst d_M_layRests_62 (by decide) ?_
    refine Wp.istore_n 3 [(0, .inr (.inr 70)), (1, .inl x1), (2, .inl z23), (3, .inl 0)] d_M_layRests_63 rfl (by decide) rfl ?_
    refine Wp.pick [0, 1, 3] [(0, .inr (.inr 70)), (1, .inl x1), (3, .inl 0)] rfl ?_
    exact H22
  · have H16 := H14 c12
    refine Wp.aload_n 0 0 d_M_layRests_18 rfl rfl ?_
    refine Wp.getP 93 d_M_layRests_19 fl_M_82 rfl rfl rfl ?_
    refine Wp.iload_n 2 2 d_M_layRests_22 rfl rfl ?_
    refine Wp.iload_n 2 2 d_M_layRests_23 rfl rfl ?_
    refine Wp.aload_n 0 0 d_M_layRests_24 rfl rfl ?_
    obtain ⟨e28, P29, hd30, ho31, H32⟩ := H16
    refine Wq.VI (st := [.inl x2, .inl x2, .inr (.inr 93)]) [] d_M_layRests_25 k_M_lots ml_M_338 rfl rfl rfl (fun h => by cases h) (Nat.le_of_ble_eq_true rfl) hd30 ho31 (fun z34 m35 hp36 hz37 hw38 => ?_)
    have H33 := H32 z34 m35 hp36 hz37 hw38
    refine Wp.iconst d_M_layRests_28 (by decide) ?_
    obtain ⟨s39, H40⟩ := H33
    refine Wp.isub d_M_layRests_29 s39 ?_
    obtain ⟨H42, H43⟩ := H40
    refine Wp.icmp_ne 37 d_M_layRests_30 (by decide) (fun c41 => ?_) (fun c41 => ?_)
    · have H44 := H42 c41
      refine Wp.aload_n 0 0 d_M_layRests_37 rfl rfl ?_
      refine Wp.getP 79 d_M_layRests_38 fl_M_39 rfl rfl rfl ?_
      refine Wp.iconst d_M_layRests_41 (by decide) ?_
      refine Wp.aload_n 0 0 d_M_layRests_42 rfl rfl ?_
      refine Wq.getI 28 rfl d_M_layRests_43 fl_M_243 rfl (Or.inl rfl) ?_
      obtain ⟨s46, H47⟩ := H44
      refine Wp.imul d_M_layRests_46 s46 ?_
      refine Wp.iload_n 2 2 d_M_layRests_47 rfl rfl ?_
      obtain ⟨s48, H49⟩ := H47
      refine Wp.iadd d_M_layRests_48 s48 ?_
      obtain ⟨s50, H51⟩ := H49
      refine Wp.iald d_M_layRests_49 rfl (Or.inl rfl) s50.1 s50.2 ?_
      obtain ⟨s59, H60⟩ := H51
      refine Wq.iast d_M_layRests_50 rfl s59.1 s59.2 (fun m52 hm53 => ?_)
      have H54 := H60 m52 hm53
      obtain ⟨s57, H58⟩ := H54
      refine Wp.iinc 2 2 [(0, .inr (.inr 70)), (1, .inl x1), (2, .inl (x2 + 1))] d_M_layRests_51 rfl s57 (by decide) rfl ?_
      refine Wp.goto 10 d_M_layRests_54 (by decide) ?_
      exact H58
    · have H45 := H43 c41
      refine Wp.iload_n 1 1 d_M_layRests_33 rfl rfl ?_
      refine Wp.goto 50 d_M_layRests_34 (by decide) ?_
      obtain ⟨s68, H69⟩ := H45
      refine Wq.iast d_M_layRests_50 rfl s68.1 s68.2 (fun m61 hm62 => ?_)
      have H63 := H69 m61 hm62
      obtain ⟨s66, H67⟩ := H63
      refine Wp.iinc 2 2 [(0, .inr (.inr 70)), (1, .inl x1), (2, .inl (x2 + 1))] d_M_layRests_51 rfl s66 (by decide) rfl ?_
      refine Wp.goto 10 d_M_layRests_54 (by decide) ?_
      exact H67
theorem s_M_layRests_64 {l : Launch} {G : GT} {d : Nat} {P : MM → Prop} {m : MM} (x1 : Int) (x3 : Int)  (H : wfM m → inR x1 → inR x3 → ∃ (e1 : Nat) (P2 : Int → MM → Prop), e1 < d ∧ CI l G Y_M_lots e1 [.inr (.inr 70)] m P2 ∧ (∀ z7 m8, P2 z7 m8 → inR z7 → wfM m8 → ((x3 ≥ z7 → ((inR (x1 + 1)) ∧ (Wq l G false Y_M_layRests d (QV P) 2 [(0, .inr (.inr 70)), (1, .inl (x1 + 1))] [] m8))) ∧ (¬ (x3 ≥ z7) → ((inR (5 * x1)) ∧ ((inR ((5 * x1) + x3)) ∧ ((0 ≤ x3 ∧ x3 < (5 : Int)) ∧ ((0 ≤ ((5 * x1) + x3) ∧ ((5 * x1) + x3) < (155 : Int)) ∧ (∀ m25, m25 = up m8 102 ((5 * x1) + x3) (m8 93 x3) → ((inR (x3 + 1)) ∧ (Wq l G false Y_M_layRests d (QV P) 64 [(0, .inr (.inr 70)), (1, .inl x1), (3, .inl (x3 + 1))] [] m25))))))))))) : Wq l G false Y_M_layRests d (QV P) 64 [(0, .inr (.inr 70)), (1, .inl x1), (3, .inl x3)] [] m := by
  refine Wp.wf (fun hw _ hl hs => ?_)
  have H0 := H hw (hl _ (List.mem_of_getElem? (i := 1) rfl)) (hl _ (List.mem_of_getElem? (i := 2) rfl))
  refine Wp.iload_n 2 3 d_M_layRests_64 rfl rfl ?_
  refine Wp.aload_n 0 0 d_M_layRests_65 rfl rfl ?_
  obtain ⟨e1, P2, hd3, ho4, H5⟩ := H0
  refine Wq.VI (st := [.inl x3]) [] d_M_layRests_66 k_M_lots ml_M_338 rfl rfl rfl (fun h => by cases h) (Nat.le_of_ble_eq_true rfl) hd3 ho4 (fun z7 m8 hp9 hz10 hw11 => ?_)
  have H6 := H5 z7 m8 hp9 hz10 hw11
  obtain ⟨H13, H14⟩ := H6
  refine Wp.icmp_ge 94 d_M_layRests_69 (by decide) (fun c12 => ?_) (fun c12 => ?_)
  · have H15 := H13 c12
    obtain ⟨s17, H18⟩ := H15
    refine Wp.iinc 1 1 [(0, .inr (.inr 70)), (1, .inl (x1 + 1)), (3, .inl x3)] d_M_layRests_94 rfl s17 (by decide) rfl ?_
    refine Wp.goto 2 d_M_layRests_97 (by decide) ?_
    refine Wp.pick [0, 1] [(0, .inr (.inr 70)), (1, .inl (x1 + 1))] rfl ?_
    exact H18
  · have H16 := H14 c12
    refine Wp.aload_n 0 0 d_M_layRests_72 rfl rfl ?_
    refine Wp.getP 102 d_M_layRests_73 fl_M_109 rfl rfl rfl ?_
    refine Wp.iconst d_M_layRests_76 (by decide) ?_
    refine Wp.iload_n 1 1 d_M_layRests_77 rfl rfl ?_
    obtain ⟨s19, H20⟩ := H16
    refine Wp.imul d_M_layRests_78 s19 ?_
    refine Wp.iload_n 2 3 d_M_layRests_79 rfl rfl ?_
    obtain ⟨s21, H22⟩ := H20
    refine Wp.iadd d_M_layRests_80 s21 ?_
    refine Wp.aload_n 0 0 d_M_layRests_81 rfl rfl ?_
    refine Wp.getP 93 d_M_layRests_82 fl_M_82 rfl rfl rfl ?_
    refine Wp.iload_n 2 3 d_M_layRests_85 rfl rfl ?_
    obtain ⟨s23, H24⟩ := H22
    refine Wp.iald d_M_layRests_86 rfl (Or.inl rfl) s23.1 s23.2 ?_
    obtain ⟨s32, H33⟩ := H24
    refine Wq.iast d_M_layRests_87 rfl s32.1 s32.2 (fun m25 hm26 => ?_)
    have H27 := H33 m25 hm26
    obtain ⟨s30, H31⟩ := H27
    refine Wp.iinc 2 3 [(0, .inr (.inr 70)), (1, .inl x1), (3, .inl (x3 + 1))] d_M_layRests_88 rfl s30 (by decide) rfl ?_
    refine Wp.goto 64 d_M_layRests_91 (by decide) ?_
    exact H31
theorem d_M_doesFit_0 : decode Y_M_doesFit.2.1 0 = .ok (.iconst 0, 1) := by decide +kernel
theorem d_M_doesFit_1 : decode Y_M_doesFit.2.1 1 = .ok (.istore_n 3, 1) := by decide +kernel
theorem d_M_doesFit_2 : decode Y_M_doesFit.2.1 2 = .ok (.iload_n 3, 1) := by decide +kernel
theorem d_M_doesFit_3 : decode Y_M_doesFit.2.1 3 = .ok (.aload_n 0, 1) := by decide +kernel
theorem d_M_doesFit_4 : decode Y_M_doesFit.2.1 4 = .ok (.getfield 366, 3) := by decide +kernel
theorem d_M_doesFit_7 : decode Y_M_doesFit.2.1 7 = .ok (.if_icmp .ge 85, 3) := by decide +kernel
theorem d_M_doesFit_10 : decode Y_M_doesFit.2.1 10 = .ok (.aload_n 0, 1) := by decide +kernel
theorem d_M_doesFit_11 : decode Y_M_doesFit.2.1 11 = .ok (.getfield 121, 3) := by decide +kernel
theorem d_M_doesFit_14 : decode Y_M_doesFit.2.1 14 = .ok (.iload_n 3, 1) := by decide +kernel
theorem d_M_doesFit_15 : decode Y_M_doesFit.2.1 15 = .ok (.iaload, 1) := by decide +kernel
theorem d_M_doesFit_16 : decode Y_M_doesFit.2.1 16 = .ok (.iload_n 2, 1) := by decide +kernel
theorem d_M_doesFit_17 : decode Y_M_doesFit.2.1 17 = .ok (.if_icmp .gt 69, 3) := by decide +kernel
theorem d_M_doesFit_20 : decode Y_M_doesFit.2.1 20 = .ok (.aload_n 0, 1) := by decide +kernel
theorem d_M_doesFit_21 : decode Y_M_doesFit.2.1 21 = .ok (.getfield 124, 3) := by decide +kernel
theorem d_M_doesFit_24 : decode Y_M_doesFit.2.1 24 = .ok (.iload_n 3, 1) := by decide +kernel
theorem d_M_doesFit_25 : decode Y_M_doesFit.2.1 25 = .ok (.iaload, 1) := by decide +kernel
theorem d_M_doesFit_26 : decode Y_M_doesFit.2.1 26 = .ok (.ifCond .lt 16, 3) := by decide +kernel
theorem d_M_doesFit_29 : decode Y_M_doesFit.2.1 29 = .ok (.aload_n 0, 1) := by decide +kernel
theorem d_M_doesFit_30 : decode Y_M_doesFit.2.1 30 = .ok (.getfield 124, 3) := by decide +kernel
theorem d_M_doesFit_33 : decode Y_M_doesFit.2.1 33 = .ok (.iload_n 3, 1) := by decide +kernel
theorem d_M_doesFit_34 : decode Y_M_doesFit.2.1 34 = .ok (.iaload, 1) := by decide +kernel
theorem d_M_doesFit_35 : decode Y_M_doesFit.2.1 35 = .ok (.iload_n 2, 1) := by decide +kernel
theorem d_M_doesFit_36 : decode Y_M_doesFit.2.1 36 = .ok (.if_icmp .gt 6, 3) := by decide +kernel
theorem d_M_doesFit_39 : decode Y_M_doesFit.2.1 39 = .ok (.goto 47, 3) := by decide +kernel
theorem d_M_doesFit_42 : decode Y_M_doesFit.2.1 42 = .ok (.aload_n 0, 1) := by decide +kernel
theorem d_M_doesFit_43 : decode Y_M_doesFit.2.1 43 = .ok (.getfield 109, 3) := by decide +kernel
theorem d_M_doesFit_46 : decode Y_M_doesFit.2.1 46 = .ok (.iconst 5, 1) := by decide +kernel
theorem d_M_doesFit_47 : decode Y_M_doesFit.2.1 47 = .ok (.iload_n 1, 1) := by decide +kernel
theorem d_M_doesFit_48 : decode Y_M_doesFit.2.1 48 = .ok (.imul, 1) := by decide +kernel
theorem d_M_doesFit_49 : decode Y_M_doesFit.2.1 49 = .ok (.aload_n 0, 1) := by decide +kernel
theorem d_M_doesFit_50 : decode Y_M_doesFit.2.1 50 = .ok (.getfield 112, 3) := by decide +kernel
theorem d_M_doesFit_53 : decode Y_M_doesFit.2.1 53 = .ok (.iload_n 3, 1) := by decide +kernel
theorem d_M_doesFit_54 : decode Y_M_doesFit.2.1 54 = .ok (.iaload, 1) := by decide +kernel
theorem d_M_doesFit_55 : decode Y_M_doesFit.2.1 55 = .ok (.iadd, 1) := by decide +kernel
theorem d_M_doesFit_56 : decode Y_M_doesFit.2.1 56 = .ok (.iaload, 1) := by decide +kernel
theorem d_M_doesFit_57 : decode Y_M_doesFit.2.1 57 = .ok (.aload_n 0, 1) := by decide +kernel
theorem d_M_doesFit_58 : decode Y_M_doesFit.2.1 58 = .ok (.getfield 115, 3) := by decide +kernel
theorem d_M_doesFit_61 : decode Y_M_doesFit.2.1 61 = .ok (.iload_n 3, 1) := by decide +kernel
theorem d_M_doesFit_62 : decode Y_M_doesFit.2.1 62 = .ok (.iaload, 1) := by decide +kernel
theorem d_M_doesFit_63 : decode Y_M_doesFit.2.1 63 = .ok (.if_icmp .lt 7, 3) := by decide +kernel
theorem d_M_doesFit_66 : decode Y_M_doesFit.2.1 66 = .ok (.iconst 1, 1) := by decide +kernel
theorem d_M_doesFit_67 : decode Y_M_doesFit.2.1 67 = .ok (.goto 4, 3) := by decide +kernel
theorem d_M_doesFit_70 : decode Y_M_doesFit.2.1 70 = .ok (.iconst 0, 1) := by decide +kernel
theorem d_M_doesFit_71 : decode Y_M_doesFit.2.1 71 = .ok (.istore 4, 2) := by decide +kernel
theorem d_M_doesFit_73 : decode Y_M_doesFit.2.1 73 = .ok (.iload 4, 2) := by decide +kernel
theorem d_M_doesFit_75 : decode Y_M_doesFit.2.1 75 = .ok (.aload_n 0, 1) := by decide +kernel
theorem d_M_doesFit_76 : decode Y_M_doesFit.2.1 76 = .ok (.getfield 118, 3) := by decide +kernel
theorem d_M_doesFit_79 : decode Y_M_doesFit.2.1 79 = .ok (.iload_n 3, 1) := by decide +kernel
theorem d_M_doesFit_80 : decode Y_M_doesFit.2.1 80 = .ok (.iaload, 1) := by decide +kernel
theorem d_M_doesFit_81 : decode Y_M_doesFit.2.1 81 = .ok (.if_icmp .eq 5, 3) := by decide +kernel
theorem d_M_doesFit_84 : decode Y_M_doesFit.2.1 84 = .ok (.iconst 0, 1) := by decide +kernel
theorem d_M_doesFit_85 : decode Y_M_doesFit.2.1 85 = .ok (.ireturn, 1) := by decide +kernel
theorem d_M_doesFit_86 : decode Y_M_doesFit.2.1 86 = .ok (.iinc 3 1, 3) := by decide +kernel
theorem d_M_doesFit_89 : decode Y_M_doesFit.2.1 89 = .ok (.goto (-87), 3) := by decide +kernel
theorem d_M_doesFit_92 : decode Y_M_doesFit.2.1 92 = .ok (.iconst 1, 1) := by decide +kernel
theorem d_M_doesFit_93 : decode Y_M_doesFit.2.1 93 = .ok (.ireturn, 1) := by decide +kernel
theorem e_M_doesFit {l : Launch} {G : GT} {d : Nat} {P : Int → MM → Prop} {m : MM} (x1 : Int) (x2 : Int)  (H : wfM m → inR x1 → inR x2 → Wq l G false Y_M_doesFit d (QI P) 2 [(0, .inr (.inr 70)), (1, .inl x1), (2, .inl x2), (3, .inl 0)] [] m) : CI l G Y_M_doesFit d [.inr (.inr 70), .inl x1, .inl x2] m P := by
  refine CI.of [(0, .inr (.inr 70)), (1, .inl x1), (2, .inl x2)] k_M_doesFit.1 (Nat.le_of_ble_eq_true rfl) rfl (Wp.wf (fun hw _ hl hs => ?_))
  have H0 := H hw (hl _ (List.mem_of_getElem? (i := 1) rfl)) (hl _ (List.mem_of_getElem? (i := 2) rfl))
  refine Wp.iconst d_M_doesFit_0 (by decide) ?_
  refine Wp.istore_n 3 [(0, .inr (.inr 70)), (1, .inl x1), (2, .inl x2), (3, .inl 0)] d_M_doesFit_1 rfl (by decide) rfl ?_
  exact H0
theorem s_M_doesFit_2 {l : Launch} {G : GT} {d : Nat} {P : Int → MM → Prop} {m : MM} (x1 : Int) (x2 : Int) (x3 : Int)  (H : wfM m → inR x1 → inR x2 → inR x3 → (x3 ≥ (m 70 60) → (P 1 m)) ∧ (¬ (x3 ≥ (m 70 60)) → ((0 ≤ x3 ∧ x3 < (30 : Int)) ∧ (((m 106 x3) > x2 → ((inR (x3 + 1)) ∧ (Wq l G false Y_M_doesFit d (QI P) 2 [(0, .inr (.inr 70)), (1, .inl x1), (2, .inl x2), (3, .inl (x3 + 1))] [] m))) ∧ (¬ ((m 106 x3) > x2) → ((0 ≤ x3 ∧ x3 < (30 : Int)) ∧ (((m 107 x3) < 0 → (Wq l G false Y_M_doesFit d (QI P) 42 [(0, .inr (.inr 70)), (1, .inl x1), (2, .inl x2), (3, .inl x3)] [] m)) ∧ (¬ ((m 107 x3) < 0) → ((0 ≤ x3 ∧ x3 < (30 : Int)) ∧ (((m 107 x3) > x2 → (Wq l G false Y_M_doesFit d (QI P) 42 [(0, .inr (.inr 70)), (1, .inl x1), (2, .inl x2), (3, .inl x3)] [] m)) ∧ (¬ ((m 107 x3) > x2) → ((inR (x3 + 1)) ∧ (Wq l G false Y_M_doesFit d (QI P) 2 [(0, .inr (.inr 70)), (1, .inl x1), (2, .inl x2), (3, .inl (x3 + 1))] [] m))))))))))))) : Wq l G false Y_M_doesFit d (QI P) 2 [(0, .inr (.inr 70)), (1, .inl x1), (2, .inl x2), (3, .inl x3)] [] m := by
  refine Wp.wf (fun hw _ hl hs => ?_)
  have H0 := H hw (hl _ (List.mem_of_getElem? (i := 1) rfl)) (hl _ (List.mem_of_getElem? (i := 2) rfl)) (hl _ (List.mem_of_getElem? (i := 3) rfl))
  refine Wp.iload_n 3 3 d_M_doesFit_2 rfl rfl ?_
  refine Wp.aload_n 0 0 d_M_doesFit_3 rfl rfl ?_
  refine Wq.getI 60 rfl d_M_doesFit_4 fl_M_366 rfl (Or.inl rfl) ?_
  obtain ⟨H2, H3⟩ := H0
  refine Wp.icmp_ge 92 d_M_doesFit_7 (by decide) (fun c1 => ?_) (fun c1 => ?_)
  · have H4 := H2 c1
    refine Wp.iconst d_M_doesFit_92 (by decide) ?_
    exact Wq.zret d_M_doesFit_93 rfl (by decide) H4
  · have H5 := H3 c1
    refine Wp.aload_n 0 0 d_M_doesFit_10 rfl rfl ?_
    refine Wp.getP 106 d_M_doesFit_11 fl_M_121 rfl rfl rfl ?_
    refine Wp.iload_n 3 3 d_M_doesFit_14 rfl rfl ?_
    obtain ⟨s6, H7⟩ := H5
    refine Wp.iald d_M_doesFit_15 rfl (Or.inl rfl) s6.1 s6.2 ?_
    refine Wp.iload_n 2 2 d_M_doesFit_16 rfl rfl ?_
    obtain ⟨H9, H10⟩ := H7
    refine Wp.icmp_gt 86 d_M_doesFit_17 (by decide) (fun c8 => ?_) (fun c8 => ?_)
    · have H11 := H9 c8
      obtain ⟨s13, H14⟩ := H11
      refine Wp.iinc 3 3 [(0, .inr (.inr 70)), (1, .inl x1), (2, .inl x2), (3, .inl (x3 + 1))] d_M_doesFit_86 rfl s13 (by decide) rfl ?_
      refine Wp.goto 2 d_M_doesFit_89 (by decide) ?_
      exact H14
    · have H12 := H10 c8
      refine Wp.aload_n 0 0 d_M_doesFit_20 rfl rfl ?_
      refine Wp.getP 107 d_M_doesFit_21 fl_M_124 rfl rfl rfl ?_
      refine Wp.iload_n 3 3 d_M_doesFit_24 rfl rfl ?_
      obtain ⟨s15, H16⟩ := H12
      refine Wp.iald d_M_doesFit_25 rfl (Or.inl rfl) s15.1 s15.2 ?_
      obtain ⟨H18, H19⟩ := H16
      refine Wp.if_lt 42 d_M_doesFit_26 (by decide) (fun c17 => ?_) (fun c17 => ?_)
      · have H20 := H18 c17
        exact H20
      · have H21 := H19 c17
        refine Wp.aload_n 0 0 d_M_doesFit_29 rfl rfl ?_
        refine Wp.getP 107 d_M_doesFit_30 fl_M_124 rfl rfl rfl ?_
        refine Wp.iload_n 3 3 d_M_doesFit_33 rfl rfl ?_
        obtain ⟨s22, H23⟩ := H21
        refine Wp.iald d_M_doesFit_34 rfl (Or.inl rfl) s22.1 s22.2 ?_
        refine Wp.iload_n 2 2 d_M_doesFit_35 rfl rfl ?_
        obtain ⟨H25, H26⟩ := H23
        refine Wp.icmp_gt 42 d_M_doesFit_36 (by decide) (fun c24 => ?_) (fun c24 => ?_)
        · have H27 := H25 c24
          exact H27
        · have H28 := H26 c24
          refine Wp.goto 86 d_M_doesFit_39 (by decide) ?_
          obtain ⟨s29, H30⟩ := H28
          refine Wp.iinc 3 3 [(0, .inr (.inr 70)), (1, .inl x1), (2, .inl x2), (3, .inl (x3 + 1))] d_M_doesFit_86 rfl s29 (by decide) rfl ?_
          refine Wp.goto 2 d_M_doesFit_89 (by decide) ?_
          exact H30
theorem s_M_doesFit_42 {l : Launch} {G : GT} {d : Nat} {P : Int → MM → Prop} {m : MM} (x1 : Int) (x2 : Int) (x3 : Int)  (H : wfM m → inR x1 → inR x2 → inR x3 → (inR (5 * x1)) ∧ ((0 ≤ x3 ∧ x3 < (30 : Int)) ∧ ((inR ((5 * x1) + (m 103 x3))) ∧ ((0 ≤ ((5 * x1) + (m 103 x3)) ∧ ((5 * x1) + (m 103 x3)) < (155 : Int)) ∧ ((0 ≤ x3 ∧ x3 < (30 : Int)) ∧ (((m 102 ((5 * x1) + (m 103 x3))) < (m 104 x3) → ((0 ≤ x3 ∧ x3 < (30 : Int)) ∧ ((0 = (m 105 x3) → ((inR (x3 + 1)) ∧ (Wq l G false Y_M_doesFit d (QI P) 2 [(0, .inr (.inr 70)), (1, .inl x1), (2, .inl x2), (3, .inl (x3 + 1))] [] m))) ∧ (¬ (0 = (m 105 x3)) → (P 0 m))))) ∧ (¬ ((m 102 ((5 * x1) + (m 103 x3))) < (m 104 x3)) → ((0 ≤ x3 ∧ x3 < (30 : Int)) ∧ ((1 = (m 105 x3) → ((inR (x3 + 1)) ∧ (Wq l G false Y_M_doesFit d (QI P) 2 [(0, .inr (.inr 70)), (1, .inl x1), (2, .inl x2), (3, .inl (x3 + 1))] [] m))) ∧ (¬ (1 = (m 105 x3)) → (P 0 m))))))))))) : Wq l G false Y_M_doesFit d (QI P) 42 [(0, .inr (.inr 70)), (1, .inl x1), (2, .inl x2), (3, .inl x3)] [] m := by
  refine Wp.wf (fun hw _ hl hs => ?_)
  have H0 := H hw (hl _ (List.mem_of_getElem? (i := 1) rfl)) (hl _ (List.mem_of_getElem? (i := 2) rfl)) (hl _ (List.mem_of_getElem? (i := 3) rfl))
  refine Wp.aload_n 0 0 d_M_doesFit_42 rfl rfl ?_
  refine Wp.getP 102 d_M_doesFit_43 fl_M_109 rfl rfl rfl ?_
  refine Wp.iconst d_M_doesFit_46 (by decide) ?_
  refine Wp.iload_n 1 1 d_M_doesFit_47 rfl rfl ?_
  obtain ⟨s1, H2⟩ := H0
  refine Wp.imul d_M_doesFit_48 s1 ?_
  refine Wp.aload_n 0 0 d_M_doesFit_49 rfl rfl ?_
  refine Wp.getP 103 d_M_doesFit_50 fl_M_112 rfl rfl rfl ?_
  refine Wp.iload_n 3 3 d_M_doesFit_53 rfl rfl ?_
  obtain ⟨s3, H4⟩ := H2
  refine Wp.iald d_M_doesFit_54 rfl (Or.inl rfl) s3.1 s3.2 ?_
  obtain ⟨s5, H6⟩ := H4
  refine Wp.iadd d_M_doesFit_55 s5 ?_
  obtain ⟨s7, H8⟩ := H6
  refine Wp.iald d_M_doesFit_56 rfl (Or.inl rfl) s7.1 s7.2 ?_
  refine Wp.aload_n 0 0 d_M_doesFit_57 rfl rfl ?_
  refine Wp.getP 104 d_M_doesFit_58 fl_M_115 rfl rfl rfl ?_
  refine Wp.iload_n 3 3 d_M_doesFit_61 rfl rfl ?_
  obtain ⟨s9, H10⟩ := H8
  refine Wp.iald d_M_doesFit_62 rfl (Or.inl rfl) s9.1 s9.2 ?_
  obtain ⟨H12, H13⟩ := H10
  refine Wp.icmp_lt 70 d_M_doesFit_63 (by decide) (fun c11 => ?_) (fun c11 => ?_)
  · have H14 := H12 c11
    refine Wp.iconst d_M_doesFit_70 (by decide) ?_
    refine Wp.istore 4 [(0, .inr (.inr 70)), (1, .inl x1), (2, .inl x2), (3, .inl x3), (4, .inl 0)] d_M_doesFit_71 (by decide) rfl ?_
    refine Wp.iload 4 4 d_M_doesFit_73 rfl ?_
    refine Wp.aload_n 0 0 d_M_doesFit_75 rfl rfl ?_
    refine Wp.getP 105 d_M_doesFit_76 fl_M_118 rfl rfl rfl ?_
    refine Wp.iload_n 3 3 d_M_doesFit_79 rfl rfl ?_
    obtain ⟨s16, H17⟩ := H14
    refine Wp.iald d_M_doesFit_80 rfl (Or.inl rfl) s16.1 s16.2 ?_
    obtain ⟨H19, H20⟩ := H17
    refine Wp.icmp_eq 86 d_M_doesFit_81 (by decide) (fun c18 => ?_) (fun c18 => ?_)
    · have H21 := H19 c18
      obtain ⟨s23, H24⟩ := H21
      refine Wp.iinc 3 3 [(0, .inr (.inr 70)), (1, .inl x1), (2, .inl x2), (3, .inl (x3 + 1)), (4, .inl 0)] d_M_doesFit_86 rfl s23 (by decide) rfl ?_
      refine Wp.goto 2 d_M_doesFit_89 (by decide) ?_
      refine Wp.pick [0, 1, 2, 3] [(0, .inr (.inr 70)), (1, .inl x1), (2, .inl x2), (3, .inl (x3 + 1))] rfl ?_
      exact H24
    · have H22 := H20 c18
      refine Wp.iconst d_M_doesFit_84 (by decide) ?_
      exact Wq.zret d_M_doesFit_85 rfl (by decide) H22
  · have H15 := H13 c11
    refine Wp.iconst d_M_doesFit_66 (by decide) ?_
    refine Wp.goto 71 d_M_doesFit_67 (by decide) ?_
    refine Wp.istore 4 [(0, .inr (.inr 70)), (1, .inl x1), (2, .inl x2), (3, .inl x3), (4, .inl 1)] d_M_doesFit_71 (by decide) rfl ?_
    refine Wp.iload 4 4 d_M_doesFit_73 rfl ?_
    refine Wp.aload_n 0 0 d_M_doesFit_75 rfl rfl ?_
    refine Wp.getP 105 d_M_doesFit_76 fl_M_118 rfl rfl rfl ?_
    refine Wp.iload_n 3 3 d_M_doesFit_79 rfl rfl ?_
    obtain ⟨s25, H26⟩ := H15
    refine Wp.iald d_M_doesFit_80 rfl (Or.inl rfl) s25.1 s25.2 ?_
    obtain ⟨H28, H29⟩ := H26
    refine Wp.icmp_eq 86 d_M_doesFit_81 (by decide) (fun c27 => ?_) (fun c27 => ?_)
    · have H30 := H28 c27
      obtain ⟨s32, H33⟩ := H30
      refine Wp.iinc 3 3 [(0, .inr (.inr 70)), (1, .inl x1), (2, .inl x2), (3, .inl (x3 + 1)), (4, .inl 1)] d_M_doesFit_86 rfl s32 (by decide) rfl ?_
      refine Wp.goto 2 d_M_doesFit_89 (by decide) ?_
      refine Wp.pick [0, 1, 2, 3] [(0, .inr (.inr 70)), (1, .inl x1), (2, .inl x2), (3, .inl (x3 + 1))] rfl ?_
      exact H33
    · have H31 := H29 c27
      refine Wp.iconst d_M_doesFit_84 (by decide) ?_
      exact Wq.zret d_M_doesFit_85 rfl (by decide) H31
theorem d_M_sure_0 : decode Y_M_sure.2.1 0 = .ok (.iload_n 1, 1) := by decide +kernel
theorem d_M_sure_1 : decode Y_M_sure.2.1 1 = .ok (.iconst 0, 1) := by decide +kernel
theorem d_M_sure_2 : decode Y_M_sure.2.1 2 = .ok (.iconst 1, 1) := by decide +kernel
theorem d_M_sure_3 : decode Y_M_sure.2.1 3 = .ok (.invokestatic 341, 3) := by decide +kernel
theorem d_M_sure_6 : decode Y_M_sure.2.1 6 = .ok (.ifCond .eq 11, 3) := by decide +kernel
theorem d_M_sure_9 : decode Y_M_sure.2.1 9 = .ok (.aload_n 0, 1) := by decide +kernel
theorem d_M_sure_10 : decode Y_M_sure.2.1 10 = .ok (.iload_n 2, 1) := by decide +kernel
theorem d_M_sure_11 : decode Y_M_sure.2.1 11 = .ok (.invokevirtual 505, 3) := by decide +kernel
theorem d_M_sure_14 : decode Y_M_sure.2.1 14 = .ok (.ifCond .ne 5, 3) := by decide +kernel
theorem d_M_sure_17 : decode Y_M_sure.2.1 17 = .ok (.iconst (-1), 1) := by decide +kernel
theorem d_M_sure_18 : decode Y_M_sure.2.1 18 = .ok (.ireturn, 1) := by decide +kernel
theorem d_M_sure_19 : decode Y_M_sure.2.1 19 = .ok (.iload_n 1, 1) := by decide +kernel
theorem d_M_sure_20 : decode Y_M_sure.2.1 20 = .ok (.ifCond .ne 7, 3) := by decide +kernel
theorem d_M_sure_23 : decode Y_M_sure.2.1 23 = .ok (.iconst 0, 1) := by decide +kernel
theorem d_M_sure_24 : decode Y_M_sure.2.1 24 = .ok (.goto 5, 3) := by decide +kernel
theorem d_M_sure_27 : decode Y_M_sure.2.1 27 = .ok (.bipush 30, 2) := by decide +kernel
theorem d_M_sure_29 : decode Y_M_sure.2.1 29 = .ok (.istore_n 3, 1) := by decide +kernel
theorem d_M_sure_30 : decode Y_M_sure.2.1 30 = .ok (.aload_n 0, 1) := by decide +kernel
theorem d_M_sure_31 : decode Y_M_sure.2.1 31 = .ok (.iload_n 3, 1) := by decide +kernel
theorem d_M_sure_32 : decode Y_M_sure.2.1 32 = .ok (.iload_n 2, 1) := by decide +kernel
theorem d_M_sure_33 : decode Y_M_sure.2.1 33 = .ok (.invokevirtual 502, 3) := by decide +kernel
theorem d_M_sure_36 : decode Y_M_sure.2.1 36 = .ok (.ifCond .ne 18, 3) := by decide +kernel
theorem d_M_sure_39 : decode Y_M_sure.2.1 39 = .ok (.iload_n 3, 1) := by decide +kernel
theorem d_M_sure_40 : decode Y_M_sure.2.1 40 = .ok (.iload_n 1, 1) := by decide +kernel
theorem d_M_sure_41 : decode Y_M_sure.2.1 41 = .ok (.ifCond .ne 7, 3) := by decide +kernel
theorem d_M_sure_44 : decode Y_M_sure.2.1 44 = .ok (.iconst 1, 1) := by decide +kernel
theorem d_M_sure_45 : decode Y_M_sure.2.1 45 = .ok (.goto 4, 3) := by decide +kernel
theorem d_M_sure_48 : decode Y_M_sure.2.1 48 = .ok (.iconst (-1), 1) := by decide +kernel
theorem d_M_sure_49 : decode Y_M_sure.2.1 49 = .ok (.iadd, 1) := by decide +kernel
theorem d_M_sure_50 : decode Y_M_sure.2.1 50 = .ok (.istore_n 3, 1) := by decide +kernel
theorem d_M_sure_51 : decode Y_M_sure.2.1 51 = .ok (.goto (-21), 3) := by decide +kernel
theorem d_M_sure_54 : decode Y_M_sure.2.1 54 = .ok (.iload_n 3, 1) := by decide +kernel
theorem d_M_sure_55 : decode Y_M_sure.2.1 55 = .ok (.ireturn, 1) := by decide +kernel
theorem e_M_sure {l : Launch} {G : GT} {d : Nat} {P : Int → MM → Prop} {m : MM} (x1 : Int) (x2 : Int)  (H : wfM m → inR x1 → inR x2 → ∃ (e1 : Nat) (P2 : Int → MM → Prop), e1 < d ∧ CI l G Y_M_isIn e1 [.inl x1, .inl 0, .inl 1] m P2 ∧ (∀ z7 m8, P2 z7 m8 → inR z7 → wfM m8 → ((z7 = 0 → (P (-1) m8)) ∧ (¬ (z7 = 0) → (∃ (e17 : Nat) (P18 : Int → MM → Prop), e17 < d ∧ CI l G Y_M_fits e17 [.inr (.inr 70), .inl x2] m8 P18 ∧ (∀ z23 m24, P18 z23 m24 → inR z23 → wfM m24 → ((z23 ≠ 0 → ((x1 ≠ 0 → (Wq l G false Y_M_sure d (QI P) 30 [(0, .inr (.inr 70)), (1, .inl x1), (2, .inl x2), (3, .inl 30)] [] m24)) ∧ (¬ (x1 ≠ 0) → (Wq l G false Y_M_sure d (QI P) 30 [(0, .inr (.inr 70)), (1, .inl x1), (2, .inl x2), (3, .inl 0)] [] m24)))) ∧ (¬ (z23 ≠ 0) → (P (-1) m24))))))))) : CI l G Y_M_sure d [.inr (.inr 70), .inl x1, .inl x2] m P := by
  refine CI.of [(0, .inr (.inr 70)), (1, .inl x1), (2, .inl x2)] k_M_sure.1 (Nat.le_of_ble_eq_true rfl) rfl (Wp.wf (fun hw _ hl hs => ?_))
  have H0 := H hw (hl _ (List.mem_of_getElem? (i := 1) rfl)) (hl _ (List.mem_of_getElem? (i := 2) rfl))
  refine Wp.iload_n 1 1 d_M_sure_0 rfl rfl ?_
  refine Wp.iconst d_M_sure_1 (by decide) ?_
  refine Wp.iconst d_M_sure_2 (by decide) ?_
  obtain ⟨e1, P2, hd3, ho4, H5⟩ := H0
  refine Wq.SI (st := []) [.inl x1, .inl 0, .inl 1] d_M_sure_3 k_M_isIn ml_M_341 rfl  (fun h => by cases h) (Nat.le_of_ble_eq_true rfl) hd3 ho4 (fun z7 m8 hp9 hz10 hw11 => ?_)
  have H6 := H5 z7 m8 hp9 hz10 hw11
  obtain ⟨H13, H14⟩ := H6
  refine Wp.if_eq 17 d_M_sure_6 (by decide) (fun c12 => ?_) (fun c12 => ?_)
  · have H15 := H13 c12
    refine Wp.iconst d_M_sure_17 (by decide) ?_
    exact Wq.iret d_M_sure_18 rfl H15
  · have H16 := H14 c12
    refine Wp.aload_n 0 0 d_M_sure_9 rfl rfl ?_
    refine Wp.iload_n 2 2 d_M_sure_10 rfl rfl ?_
    obtain ⟨e17, P18, hd19, ho20, H21⟩ := H16
    refine Wq.VI (st := []) [.inl x2] d_M_sure_11 k_M_fits ml_M_505 rfl rfl rfl (fun h => by cases h) (Nat.le_of_ble_eq_true rfl) hd19 ho20 (fun z23 m24 hp25 hz26 hw27 => ?_)
    have H22 := H21 z23 m24 hp25 hz26 hw27
    obtain ⟨H29, H30⟩ := H22
    refine Wp.if_ne 19 d_M_sure_14 (by decide) (fun c28 => ?_) (fun c28 => ?_)
    · have H31 := H29 c28
      refine Wp.iload_n 1 1 d_M_sure_19 rfl rfl ?_
      obtain ⟨H34, H35⟩ := H31
      refine Wp.if_ne 27 d_M_sure_20 (by decide) (fun c33 => ?_) (fun c33 => ?_)
      · have H36 := H34 c33
        refine Wp.bipush d_M_sure_27 (by decide) (by decide) ?_
        refine Wp.istore_n 3 [(0, .inr (.inr 70)), (1, .inl x1), (2, .inl x2), (3, .inl 30)] d_M_sure_29 rfl (by decide) rfl ?_
        exact H36
      · have H37 := H35 c33
        refine Wp.iconst d_M_sure_23 (by decide) ?_
        refine Wp.goto 29 d_M_sure_24 (by decide) ?_
        refine Wp.istore_n 3 [(0, .inr (.inr 70)), (1, .inl x1), (2, .inl x2), (3, .inl 0)] d_M_sure_29 rfl (by decide) rfl ?_
        exact H37
    · have H32 := H30 c28
      refine Wp.iconst d_M_sure_17 (by decide) ?_
      exact Wq.iret d_M_sure_18 rfl H32
theorem s_M_sure_30 {l : Launch} {G : GT} {d : Nat} {P : Int → MM → Prop} {m : MM} (x1 : Int) (x2 : Int) (x3 : Int)  (H : wfM m → inR x1 → inR x2 → inR x3 → ∃ (e1 : Nat) (P2 : Int → MM → Prop), e1 < d ∧ CI l G Y_M_doesFit e1 [.inr (.inr 70), .inl x3, .inl x2] m P2 ∧ (∀ z7 m8, P2 z7 m8 → inR z7 → wfM m8 → ((z7 ≠ 0 → (P x3 m8)) ∧ (¬ (z7 ≠ 0) → ((x1 ≠ 0 → ((inR (x3 + (-1))) ∧ (Wq l G false Y_M_sure d (QI P) 30 [(0, .inr (.inr 70)), (1, .inl x1), (2, .inl x2), (3, .inl (x3 + (-1)))] [] m8))) ∧ (¬ (x1 ≠ 0) → ((inR (x3 + 1)) ∧ (Wq l G false Y_M_sure d (QI P) 30 [(0, .inr (.inr 70)), (1, .inl x1), (2, .inl x2), (3, .inl (x3 + 1))] [] m8)))))))) : Wq l G false Y_M_sure d (QI P) 30 [(0, .inr (.inr 70)), (1, .inl x1), (2, .inl x2), (3, .inl x3)] [] m := by
  refine Wp.wf (fun hw _ hl hs => ?_)
  have H0 := H hw (hl _ (List.mem_of_getElem? (i := 1) rfl)) (hl _ (List.mem_of_getElem? (i := 2) rfl)) (hl _ (List.mem_of_getElem? (i := 3) rfl))
  refine Wp.aload_n 0 0 d_M_sure_30 rfl rfl ?_
  refine Wp.iload_n 3 3 d_M_sure_31 rfl rfl ?_
  refine Wp.iload_n 2 2 d_M_sure_32 rfl rfl ?_
  obtain ⟨e1, P2, hd3, ho4, H5⟩ := H0
  refine Wq.VI (st := []) [.inl x3, .inl x2] d_M_sure_33 k_M_doesFit ml_M_502 rfl rfl rfl (fun h => by cases h) (Nat.le_of_ble_eq_true rfl) hd3 ho4 (fun z7 m8 hp9 hz10 hw11 => ?_)
  have H6 := H5 z7 m8 hp9 hz10 hw11
  obtain ⟨H13, H14⟩ := H6
  refine Wp.if_ne 54 d_M_sure_36 (by decide) (fun c12 => ?_) (fun c12 => ?_)
  · have H15 := H13 c12
    refine Wp.iload_n 3 3 d_M_sure_54 rfl rfl ?_
    exact Wq.iret d_M_sure_55 rfl H15
  · have H16 := H14 c12
    refine Wp.iload_n 3 3 d_M_sure_39 rfl rfl ?_
    refine Wp.iload_n 1 1 d_M_sure_40 rfl rfl ?_
    obtain ⟨H18, H19⟩ := H16
    refine Wp.if_ne 48 d_M_sure_41 (by decide) (fun c17 => ?_) (fun c17 => ?_)
    · have H20 := H18 c17
      refine Wp.iconst d_M_sure_48 (by decide) ?_
      obtain ⟨s22, H23⟩ := H20
      refine Wp.iadd d_M_sure_49 s22 ?_
      refine Wp.istore_n 3 [(0, .inr (.inr 70)), (1, .inl x1), (2, .inl x2), (3, .inl (x3 + (-1)))] d_M_sure_50 rfl (by decide) rfl ?_
      refine Wp.goto 30 d_M_sure_51 (by decide) ?_
      exact H23
    · have H21 := H19 c17
      refine Wp.iconst d_M_sure_44 (by decide) ?_
      refine Wp.goto 49 d_M_sure_45 (by decide) ?_
      obtain ⟨s24, H25⟩ := H21
      refine Wp.iadd d_M_sure_49 s24 ?_
      refine Wp.istore_n 3 [(0, .inr (.inr 70)), (1, .inl x1), (2, .inl x2), (3, .inl (x3 + 1))] d_M_sure_50 rfl (by decide) rfl ?_
      refine Wp.goto 30 d_M_sure_51 (by decide) ?_
      exact H25
theorem d_M_ask_0 : decode Y_M_ask.2.1 0 = .ok (.iload_n 1, 1) := by decide +kernel
theorem d_M_ask_1 : decode Y_M_ask.2.1 1 = .ok (.iconst 0, 1) := by decide +kernel
theorem d_M_ask_2 : decode Y_M_ask.2.1 2 = .ok (.iconst 1, 1) := by decide +kernel
theorem d_M_ask_3 : decode Y_M_ask.2.1 3 = .ok (.invokestatic 341, 3) := by decide +kernel
theorem d_M_ask_6 : decode Y_M_ask.2.1 6 = .ok (.ifCond .eq 11, 3) := by decide +kernel
theorem d_M_ask_9 : decode Y_M_ask.2.1 9 = .ok (.aload_n 0, 1) := by decide +kernel
theorem d_M_ask_10 : decode Y_M_ask.2.1 10 = .ok (.iload_n 2, 1) := by decide +kernel
theorem d_M_ask_11 : decode Y_M_ask.2.1 11 = .ok (.invokevirtual 505, 3) := by decide +kernel
theorem d_M_ask_14 : decode Y_M_ask.2.1 14 = .ok (.ifCond .ne 5, 3) := by decide +kernel
theorem d_M_ask_17 : decode Y_M_ask.2.1 17 = .ok (.iconst (-1), 1) := by decide +kernel
theorem d_M_ask_18 : decode Y_M_ask.2.1 18 = .ok (.ireturn, 1) := by decide +kernel
theorem d_M_ask_19 : decode Y_M_ask.2.1 19 = .ok (.iconst 0, 1) := by decide +kernel
theorem d_M_ask_20 : decode Y_M_ask.2.1 20 = .ok (.istore_n 3, 1) := by decide +kernel
theorem d_M_ask_21 : decode Y_M_ask.2.1 21 = .ok (.iconst 1, 1) := by decide +kernel
theorem d_M_ask_22 : decode Y_M_ask.2.1 22 = .ok (.istore 4, 2) := by decide +kernel
theorem d_M_ask_24 : decode Y_M_ask.2.1 24 = .ok (.iload 4, 2) := by decide +kernel
theorem d_M_ask_26 : decode Y_M_ask.2.1 26 = .ok (.aload_n 0, 1) := by decide +kernel
theorem d_M_ask_27 : decode Y_M_ask.2.1 27 = .ok (.invokevirtual 338, 3) := by decide +kernel
theorem d_M_ask_30 : decode Y_M_ask.2.1 30 = .ok (.if_icmp .ge 28, 3) := by decide +kernel
theorem d_M_ask_33 : decode Y_M_ask.2.1 33 = .ok (.aload_n 0, 1) := by decide +kernel
theorem d_M_ask_34 : decode Y_M_ask.2.1 34 = .ok (.iload 4, 2) := by decide +kernel
theorem d_M_ask_36 : decode Y_M_ask.2.1 36 = .ok (.iload_n 2, 1) := by decide +kernel
theorem d_M_ask_37 : decode Y_M_ask.2.1 37 = .ok (.invokevirtual 508, 3) := by decide +kernel
theorem d_M_ask_40 : decode Y_M_ask.2.1 40 = .ok (.aload_n 0, 1) := by decide +kernel
theorem d_M_ask_41 : decode Y_M_ask.2.1 41 = .ok (.iload_n 3, 1) := by decide +kernel
theorem d_M_ask_42 : decode Y_M_ask.2.1 42 = .ok (.iload_n 2, 1) := by decide +kernel
theorem d_M_ask_43 : decode Y_M_ask.2.1 43 = .ok (.invokevirtual 508, 3) := by decide +kernel
theorem d_M_ask_46 : decode Y_M_ask.2.1 46 = .ok (.if_icmp .ge 6, 3) := by decide +kernel
theorem d_M_ask_49 : decode Y_M_ask.2.1 49 = .ok (.iload 4, 2) := by decide +kernel
theorem d_M_ask_51 : decode Y_M_ask.2.1 51 = .ok (.istore_n 3, 1) := by decide +kernel
theorem d_M_ask_52 : decode Y_M_ask.2.1 52 = .ok (.iinc 4 1, 3) := by decide +kernel
theorem d_M_ask_55 : decode Y_M_ask.2.1 55 = .ok (.goto (-31), 3) := by decide +kernel
theorem d_M_ask_58 : decode Y_M_ask.2.1 58 = .ok (.iload_n 1, 1) := by decide +kernel
theorem d_M_ask_59 : decode Y_M_ask.2.1 59 = .ok (.ifCond .ne 7, 3) := by decide +kernel
theorem d_M_ask_62 : decode Y_M_ask.2.1 62 = .ok (.iload_n 3, 1) := by decide +kernel
theorem d_M_ask_63 : decode Y_M_ask.2.1 63 = .ok (.goto 9, 3) := by decide +kernel
theorem d_M_ask_66 : decode Y_M_ask.2.1 66 = .ok (.aload_n 0, 1) := by decide +kernel
theorem d_M_ask_67 : decode Y_M_ask.2.1 67 = .ok (.iload_n 3, 1) := by decide +kernel
theorem d_M_ask_68 : decode Y_M_ask.2.1 68 = .ok (.iload_n 2, 1) := by decide +kernel
theorem d_M_ask_69 : decode Y_M_ask.2.1 69 = .ok (.invokevirtual 508, 3) := by decide +kernel
theorem d_M_ask_72 : decode Y_M_ask.2.1 72 = .ok (.ireturn, 1) := by decide +kernel
theorem e_M_ask {l : Launch} {G : GT} {d : Nat} {P : Int → MM → Prop} {m : MM} (x1 : Int) (x2 : Int)  (H : wfM m → inR x1 → inR x2 → ∃ (e1 : Nat) (P2 : Int → MM → Prop), e1 < d ∧ CI l G Y_M_isIn e1 [.inl x1, .inl 0, .inl 1] m P2 ∧ (∀ z7 m8, P2 z7 m8 → inR z7 → wfM m8 → ((z7 = 0 → (P (-1) m8)) ∧ (¬ (z7 = 0) → (∃ (e17 : Nat) (P18 : Int → MM → Prop), e17 < d ∧ CI l G Y_M_fits e17 [.inr (.inr 70), .inl x2] m8 P18 ∧ (∀ z23 m24, P18 z23 m24 → inR z23 → wfM m24 → ((z23 ≠ 0 → (Wq l G false Y_M_ask d (QI P) 24 [(0, .inr (.inr 70)), (1, .inl x1), (2, .inl x2), (3, .inl 0), (4, .inl 1)] [] m24)) ∧ (¬ (z23 ≠ 0) → (P (-1) m24))))))))) : CI l G Y_M_ask d [.inr (.inr 70), .inl x1, .inl x2] m P := by
  refine CI.of [(0, .inr (.inr 70)), (1, .inl x1), (2, .inl x2)] k_M_ask.1 (Nat.le_of_ble_eq_true rfl) rfl (Wp.wf (fun hw _ hl hs => ?_))
  have H0 := H hw (hl _ (List.mem_of_getElem? (i := 1) rfl)) (hl _ (List.mem_of_getElem? (i := 2) rfl))
  refine Wp.iload_n 1 1 d_M_ask_0 rfl rfl ?_
  refine Wp.iconst d_M_ask_1 (by decide) ?_
  refine Wp.iconst d_M_ask_2 (by decide) ?_
  obtain ⟨e1, P2, hd3, ho4, H5⟩ := H0
  refine Wq.SI (st := []) [.inl x1, .inl 0, .inl 1] d_M_ask_3 k_M_isIn ml_M_341 rfl  (fun h => by cases h) (Nat.le_of_ble_eq_true rfl) hd3 ho4 (fun z7 m8 hp9 hz10 hw11 => ?_)
  have H6 := H5 z7 m8 hp9 hz10 hw11
  obtain ⟨H13, H14⟩ := H6
  refine Wp.if_eq 17 d_M_ask_6 (by decide) (fun c12 => ?_) (fun c12 => ?_)
  · have H15 := H13 c12
    refine Wp.iconst d_M_ask_17 (by decide) ?_
    exact Wq.iret d_M_ask_18 rfl H15
  · have H16 := H14 c12
    refine Wp.aload_n 0 0 d_M_ask_9 rfl rfl ?_
    refine Wp.iload_n 2 2 d_M_ask_10 rfl rfl ?_
    obtain ⟨e17, P18, hd19, ho20, H21⟩ := H16
    refine Wq.VI (st := []) [.inl x2] d_M_ask_11 k_M_fits ml_M_505 rfl rfl rfl (fun h => by cases h) (Nat.le_of_ble_eq_true rfl) hd19 ho20 (fun z23 m24 hp25 hz26 hw27 => ?_)
    have H22 := H21 z23 m24 hp25 hz26 hw27
    obtain ⟨H29, H30⟩ := H22
    refine Wp.if_ne 19 d_M_ask_14 (by decide) (fun c28 => ?_) (fun c28 => ?_)
    · have H31 := H29 c28
      refine Wp.iconst d_M_ask_19 (by decide) ?_
      refine Wp.istore_n 3 [(0, .inr (.inr 70)), (1, .inl x1), (2, .inl x2), (3, .inl 0)] d_M_ask_20 rfl (by decide) rfl ?_
      refine Wp.iconst d_M_ask_21 (by decide) ?_
      refine Wp.istore 4 [(0, .inr (.inr 70)), (1, .inl x1), (2, .inl x2), (3, .inl 0), (4, .inl 1)] d_M_ask_22 (by decide) rfl ?_
      exact H31
    · have H32 := H30 c28
      refine Wp.iconst d_M_ask_17 (by decide) ?_
      exact Wq.iret d_M_ask_18 rfl H32
theorem s_M_ask_24 {l : Launch} {G : GT} {d : Nat} {P : Int → MM → Prop} {m : MM} (x1 : Int) (x2 : Int) (x3 : Int) (x4 : Int)  (H : wfM m → inR x1 → inR x2 → inR x3 → inR x4 → ∃ (e1 : Nat) (P2 : Int → MM → Prop), e1 < d ∧ CI l G Y_M_lots e1 [.inr (.inr 70)] m P2 ∧ (∀ z7 m8, P2 z7 m8 → inR z7 → wfM m8 → ((x4 ≥ z7 → ((x1 ≠ 0 → (∃ (e22 : Nat) (P23 : Int → MM → Prop), e22 < d ∧ CI l G Y_M_mostBy e22 [.inr (.inr 70), .inl x3, .inl x2] m8 P23 ∧ (∀ z28 m29, P23 z28 m29 → inR z28 → wfM m29 → (P z28 m29)))) ∧ (¬ (x1 ≠ 0) → (P x3 m8)))) ∧ (¬ (x4 ≥ z7) → (∃ (e33 : Nat) (P34 : Int → MM → Prop), e33 < d ∧ CI l G Y_M_mostBy e33 [.inr (.inr 70), .inl x4, .inl x2] m8 P34 ∧ (∀ z39 m40, P34 z39 m40 → inR z39 → wfM m40 → (∃ (e44 : Nat) (P45 : Int → MM → Prop), e44 < d ∧ CI l G Y_M_mostBy e44 [.inr (.inr 70), .inl x3, .inl x2] m40 P45 ∧ (∀ z50 m51, P45 z50 m51 → inR z50 → wfM m51 → ((z39 ≥ z50 → ((inR (x4 + 1)) ∧ (Wq l G false Y_M_ask d (QI P) 24 [(0, .inr (.inr 70)), (1, .inl x1), (2, .inl x2), (3, .inl x3), (4, .inl (x4 + 1))] [] m51))) ∧ (¬ (z39 ≥ z50) → ((inR (x4 + 1)) ∧ (Wq l G false Y_M_ask d (QI P) 24 [(0, .inr (.inr 70)), (1, .inl x1), (2, .inl x2), (3, .inl x4), (4, .inl (x4 + 1))] [] m51)))))))))))) : Wq l G false Y_M_ask d (QI P) 24 [(0, .inr (.inr 70)), (1, .inl x1), (2, .inl x2), (3, .inl x3), (4, .inl x4)] [] m := by
  refine Wp.wf (fun hw _ hl hs => ?_)
  have H0 := H hw (hl _ (List.mem_of_getElem? (i := 1) rfl)) (hl _ (List.mem_of_getElem? (i := 2) rfl)) (hl _ (List.mem_of_getElem? (i := 3) rfl)) (hl _ (List.mem_of_getElem? (i := 4) rfl))
  refine Wp.iload 4 4 d_M_ask_24 rfl ?_
  refine Wp.aload_n 0 0 d_M_ask_26 rfl rfl ?_
  obtain ⟨e1, P2, hd3, ho4, H5⟩ := H0
  refine Wq.VI (st := [.inl x4]) [] d_M_ask_27 k_M_lots ml_M_338 rfl rfl rfl (fun h => by cases h) (Nat.le_of_ble_eq_true rfl) hd3 ho4 (fun z7 m8 hp9 hz10 hw11 => ?_)
  have H6 := H5 z7 m8 hp9 hz10 hw11
  obtain ⟨H13, H14⟩ := H6
  refine Wp.icmp_ge 58 d_M_ask_30 (by decide) (fun c12 => ?_) (fun c12 => ?_)
  · have H15 := H13 c12
    refine Wp.iload_n 1 1 d_M_ask_58 rfl rfl ?_
    obtain ⟨H18, H19⟩ := H15
    refine Wp.if_ne 66 d_M_ask_59 (by decide) (fun c17 => ?_) (fun c17 => ?_)
    · have H20 := H18 c17
      refine Wp.aload_n 0 0 d_M_ask_66 rfl rfl ?_
      refine Wp.iload_n 3 3 d_M_ask_67 rfl rfl ?_
      refine Wp.iload_n 2 2 d_M_ask_68 rfl rfl ?_
      obtain ⟨e22, P23, hd24, ho25, H26⟩ := H20
      refine Wq.VI (st := []) [.inl x3, .inl x2] d_M_ask_69 k_M_mostBy ml_M_508 rfl rfl rfl (fun h => by cases h) (Nat.le_of_ble_eq_true rfl) hd24 ho25 (fun z28 m29 hp30 hz31 hw32 => ?_)
      have H27 := H26 z28 m29 hp30 hz31 hw32
      exact Wq.iret d_M_ask_72 rfl H27
    · have H21 := H19 c17
      refine Wp.iload_n 3 3 d_M_ask_62 rfl rfl ?_
      refine Wp.goto 72 d_M_ask_63 (by decide) ?_
      exact Wq.iret d_M_ask_72 rfl H21
  · have H16 := H14 c12
    refine Wp.aload_n 0 0 d_M_ask_33 rfl rfl ?_
    refine Wp.iload 4 4 d_M_ask_34 rfl ?_
    refine Wp.iload_n 2 2 d_M_ask_36 rfl rfl ?_
    obtain ⟨e33, P34, hd35, ho36, H37⟩ := H16
    refine Wq.VI (st := []) [.inl x4, .inl x2] d_M_ask_37 k_M_mostBy ml_M_508 rfl rfl rfl (fun h => by cases h) (Nat.le_of_ble_eq_true rfl) hd35 ho36 (fun z39 m40 hp41 hz42 hw43 => ?_)
    have H38 := H37 z39 m40 hp41 hz42 hw43
    refine Wp.aload_n 0 0 d_M_ask_40 rfl rfl ?_
    refine Wp.iload_n 3 3 d_M_ask_41 rfl rfl ?_
    refine Wp.iload_n 2 2 d_M_ask_42 rfl rfl ?_
    obtain ⟨e44, P45, hd46, ho47, H48⟩ := H38
    refine Wq.VI (st := [.inl z39]) [.inl x3, .inl x2] d_M_ask_43 k_M_mostBy ml_M_508 rfl rfl rfl (fun h => by cases h) (Nat.le_of_ble_eq_true rfl) hd46 ho47 (fun z50 m51 hp52 hz53 hw54 => ?_)
    have H49 := H48 z50 m51 hp52 hz53 hw54
    obtain ⟨H56, H57⟩ := H49
    refine Wp.icmp_ge 52 d_M_ask_46 (by decide) (fun c55 => ?_) (fun c55 => ?_)
    · have H58 := H56 c55
      obtain ⟨s60, H61⟩ := H58
      refine Wp.iinc 4 4 [(0, .inr (.inr 70)), (1, .inl x1), (2, .inl x2), (3, .inl x3), (4, .inl (x4 + 1))] d_M_ask_52 rfl s60 (by decide) rfl ?_
      refine Wp.goto 24 d_M_ask_55 (by decide) ?_
      exact H61
    · have H59 := H57 c55
      refine Wp.iload 4 4 d_M_ask_49 rfl ?_
      refine Wp.istore_n 3 [(0, .inr (.inr 70)), (1, .inl x1), (2, .inl x2), (3, .inl x4), (4, .inl x4)] d_M_ask_51 rfl (by decide) rfl ?_
      obtain ⟨s62, H63⟩ := H59
      refine Wp.iinc 4 4 [(0, .inr (.inr 70)), (1, .inl x1), (2, .inl x2), (3, .inl x4), (4, .inl (x4 + 1))] d_M_ask_52 rfl s62 (by decide) rfl ?_
      refine Wp.goto 24 d_M_ask_55 (by decide) ?_
      exact H63
theorem d_M_mostBy_0 : decode Y_M_mostBy.2.1 0 = .ok (.iconst 0, 1) := by decide +kernel
theorem d_M_mostBy_1 : decode Y_M_mostBy.2.1 1 = .ok (.istore_n 3, 1) := by decide +kernel
theorem d_M_mostBy_2 : decode Y_M_mostBy.2.1 2 = .ok (.iload_n 3, 1) := by decide +kernel
theorem d_M_mostBy_3 : decode Y_M_mostBy.2.1 3 = .ok (.bipush 10, 2) := by decide +kernel
theorem d_M_mostBy_5 : decode Y_M_mostBy.2.1 5 = .ok (.if_icmp .ge 16, 3) := by decide +kernel
theorem d_M_mostBy_8 : decode Y_M_mostBy.2.1 8 = .ok (.aload_n 0, 1) := by decide +kernel
theorem d_M_mostBy_9 : decode Y_M_mostBy.2.1 9 = .ok (.getfield 127, 3) := by decide +kernel
theorem d_M_mostBy_12 : decode Y_M_mostBy.2.1 12 = .ok (.iload_n 3, 1) := by decide +kernel
theorem d_M_mostBy_13 : decode Y_M_mostBy.2.1 13 = .ok (.iconst 0, 1) := by decide +kernel
theorem d_M_mostBy_14 : decode Y_M_mostBy.2.1 14 = .ok (.iastore, 1) := by decide +kernel
theorem d_M_mostBy_15 : decode Y_M_mostBy.2.1 15 = .ok (.iinc 3 1, 3) := by decide +kernel
theorem d_M_mostBy_18 : decode Y_M_mostBy.2.1 18 = .ok (.goto (-16), 3) := by decide +kernel
theorem d_M_mostBy_21 : decode Y_M_mostBy.2.1 21 = .ok (.iconst 0, 1) := by decide +kernel
theorem d_M_mostBy_22 : decode Y_M_mostBy.2.1 22 = .ok (.istore_n 3, 1) := by decide +kernel
theorem d_M_mostBy_23 : decode Y_M_mostBy.2.1 23 = .ok (.iconst 0, 1) := by decide +kernel
theorem d_M_mostBy_24 : decode Y_M_mostBy.2.1 24 = .ok (.istore 4, 2) := by decide +kernel
theorem d_M_mostBy_26 : decode Y_M_mostBy.2.1 26 = .ok (.iload 4, 2) := by decide +kernel
theorem d_M_mostBy_28 : decode Y_M_mostBy.2.1 28 = .ok (.bipush 30, 2) := by decide +kernel
theorem d_M_mostBy_30 : decode Y_M_mostBy.2.1 30 = .ok (.if_icmp .gt 65, 3) := by decide +kernel
theorem d_M_mostBy_33 : decode Y_M_mostBy.2.1 33 = .ok (.aload_n 0, 1) := by decide +kernel
theorem d_M_mostBy_34 : decode Y_M_mostBy.2.1 34 = .ok (.iload 4, 2) := by decide +kernel
theorem d_M_mostBy_36 : decode Y_M_mostBy.2.1 36 = .ok (.iload_n 2, 1) := by decide +kernel
theorem d_M_mostBy_37 : decode Y_M_mostBy.2.1 37 = .ok (.invokevirtual 502, 3) := by decide +kernel
theorem d_M_mostBy_40 : decode Y_M_mostBy.2.1 40 = .ok (.ifCond .ne 6, 3) := by decide +kernel
theorem d_M_mostBy_43 : decode Y_M_mostBy.2.1 43 = .ok (.goto 46, 3) := by decide +kernel
theorem d_M_mostBy_46 : decode Y_M_mostBy.2.1 46 = .ok (.aload_n 0, 1) := by decide +kernel
theorem d_M_mostBy_47 : decode Y_M_mostBy.2.1 47 = .ok (.getfield 109, 3) := by decide +kernel
theorem d_M_mostBy_50 : decode Y_M_mostBy.2.1 50 = .ok (.iconst 5, 1) := by decide +kernel
theorem d_M_mostBy_51 : decode Y_M_mostBy.2.1 51 = .ok (.iload 4, 2) := by decide +kernel
theorem d_M_mostBy_53 : decode Y_M_mostBy.2.1 53 = .ok (.imul, 1) := by decide +kernel
theorem d_M_mostBy_54 : decode Y_M_mostBy.2.1 54 = .ok (.iload_n 1, 1) := by decide +kernel
theorem d_M_mostBy_55 : decode Y_M_mostBy.2.1 55 = .ok (.iadd, 1) := by decide +kernel
theorem d_M_mostBy_56 : decode Y_M_mostBy.2.1 56 = .ok (.iaload, 1) := by decide +kernel
theorem d_M_mostBy_57 : decode Y_M_mostBy.2.1 57 = .ok (.istore 5, 2) := by decide +kernel
theorem d_M_mostBy_59 : decode Y_M_mostBy.2.1 59 = .ok (.aload_n 0, 1) := by decide +kernel
theorem d_M_mostBy_60 : decode Y_M_mostBy.2.1 60 = .ok (.getfield 127, 3) := by decide +kernel
theorem d_M_mostBy_63 : decode Y_M_mostBy.2.1 63 = .ok (.iload 5, 2) := by decide +kernel
theorem d_M_mostBy_65 : decode Y_M_mostBy.2.1 65 = .ok (.dup2, 1) := by decide +kernel
theorem d_M_mostBy_66 : decode Y_M_mostBy.2.1 66 = .ok (.iaload, 1) := by decide +kernel
theorem d_M_mostBy_67 : decode Y_M_mostBy.2.1 67 = .ok (.iconst 1, 1) := by decide +kernel
theorem d_M_mostBy_68 : decode Y_M_mostBy.2.1 68 = .ok (.iadd, 1) := by decide +kernel
theorem d_M_mostBy_69 : decode Y_M_mostBy.2.1 69 = .ok (.iastore, 1) := by decide +kernel
theorem d_M_mostBy_70 : decode Y_M_mostBy.2.1 70 = .ok (.aload_n 0, 1) := by decide +kernel
theorem d_M_mostBy_71 : decode Y_M_mostBy.2.1 71 = .ok (.getfield 127, 3) := by decide +kernel
theorem d_M_mostBy_74 : decode Y_M_mostBy.2.1 74 = .ok (.iload 5, 2) := by decide +kernel
theorem d_M_mostBy_76 : decode Y_M_mostBy.2.1 76 = .ok (.iaload, 1) := by decide +kernel
theorem d_M_mostBy_77 : decode Y_M_mostBy.2.1 77 = .ok (.iload_n 3, 1) := by decide +kernel
theorem d_M_mostBy_78 : decode Y_M_mostBy.2.1 78 = .ok (.if_icmp .le 11, 3) := by decide +kernel
theorem d_M_mostBy_81 : decode Y_M_mostBy.2.1 81 = .ok (.aload_n 0, 1) := by decide +kernel
theorem d_M_mostBy_82 : decode Y_M_mostBy.2.1 82 = .ok (.getfield 127, 3) := by decide +kernel
theorem d_M_mostBy_85 : decode Y_M_mostBy.2.1 85 = .ok (.iload 5, 2) := by decide +kernel
theorem d_M_mostBy_87 : decode Y_M_mostBy.2.1 87 = .ok (.iaload, 1) := by decide +kernel
theorem d_M_mostBy_88 : decode Y_M_mostBy.2.1 88 = .ok (.istore_n 3, 1) := by decide +kernel
theorem d_M_mostBy_89 : decode Y_M_mostBy.2.1 89 = .ok (.iinc 4 1, 3) := by decide +kernel
theorem d_M_mostBy_92 : decode Y_M_mostBy.2.1 92 = .ok (.goto (-66), 3) := by decide +kernel
theorem d_M_mostBy_95 : decode Y_M_mostBy.2.1 95 = .ok (.iload_n 3, 1) := by decide +kernel
theorem d_M_mostBy_96 : decode Y_M_mostBy.2.1 96 = .ok (.ireturn, 1) := by decide +kernel
theorem e_M_mostBy {l : Launch} {G : GT} {d : Nat} {P : Int → MM → Prop} {m : MM} (x1 : Int) (x2 : Int)  (H : wfM m → inR x1 → inR x2 → Wq l G false Y_M_mostBy d (QI P) 2 [(0, .inr (.inr 70)), (1, .inl x1), (2, .inl x2), (3, .inl 0)] [] m) : CI l G Y_M_mostBy d [.inr (.inr 70), .inl x1, .inl x2] m P := by
  refine CI.of [(0, .inr (.inr 70)), (1, .inl x1), (2, .inl x2)] k_M_mostBy.1 (Nat.le_of_ble_eq_true rfl) rfl (Wp.wf (fun hw _ hl hs => ?_))
  have H0 := H hw (hl _ (List.mem_of_getElem? (i := 1) rfl)) (hl _ (List.mem_of_getElem? (i := 2) rfl))
  refine Wp.iconst d_M_mostBy_0 (by decide) ?_
  refine Wp.istore_n 3 [(0, .inr (.inr 70)), (1, .inl x1), (2, .inl x2), (3, .inl 0)] d_M_mostBy_1 rfl (by decide) rfl ?_
  exact H0
theorem s_M_mostBy_2 {l : Launch} {G : GT} {d : Nat} {P : Int → MM → Prop} {m : MM} (x1 : Int) (x2 : Int) (x3 : Int)  (H : wfM m → inR x1 → inR x2 → inR x3 → (x3 ≥ 10 → (Wq l G false Y_M_mostBy d (QI P) 26 [(0, .inr (.inr 70)), (1, .inl x1), (2, .inl x2), (3, .inl 0), (4, .inl 0)] [] m)) ∧ (¬ (x3 ≥ 10) → ((0 ≤ x3 ∧ x3 < (10 : Int)) ∧ (∀ m6, m6 = up m 108 x3 0 → ((inR (x3 + 1)) ∧ (Wq l G false Y_M_mostBy d (QI P) 2 [(0, .inr (.inr 70)), (1, .inl x1), (2, .inl x2), (3, .inl (x3 + 1))] [] m6)))))) : Wq l G false Y_M_mostBy d (QI P) 2 [(0, .inr (.inr 70)), (1, .inl x1), (2, .inl x2), (3, .inl x3)] [] m := by
  refine Wp.wf (fun hw _ hl hs => ?_)
  have H0 := H hw (hl _ (List.mem_of_getElem? (i := 1) rfl)) (hl _ (List.mem_of_getElem? (i := 2) rfl)) (hl _ (List.mem_of_getElem? (i := 3) rfl))
  refine Wp.iload_n 3 3 d_M_mostBy_2 rfl rfl ?_
  refine Wp.bipush d_M_mostBy_3 (by decide) (by decide) ?_
  obtain ⟨H2, H3⟩ := H0
  refine Wp.icmp_ge 21 d_M_mostBy_5 (by decide) (fun c1 => ?_) (fun c1 => ?_)
  · have H4 := H2 c1
    refine Wp.iconst d_M_mostBy_21 (by decide) ?_
    refine Wp.istore_n 3 [(0, .inr (.inr 70)), (1, .inl x1), (2, .inl x2), (3, .inl 0)] d_M_mostBy_22 rfl (by decide) rfl ?_
    refine Wp.iconst d_M_mostBy_23 (by decide) ?_
    refine Wp.istore 4 [(0, .inr (.inr 70)), (1, .inl x1), (2, .inl x2), (3, .inl 0), (4, .inl 0)] d_M_mostBy_24 (by decide) rfl ?_
    exact H4
  · have H5 := H3 c1
    refine Wp.aload_n 0 0 d_M_mostBy_8 rfl rfl ?_
    refine Wp.getP 108 d_M_mostBy_9 fl_M_127 rfl rfl rfl ?_
    refine Wp.iload_n 3 3 d_M_mostBy_12 rfl rfl ?_
    refine Wp.iconst d_M_mostBy_13 (by decide) ?_
    obtain ⟨s13, H14⟩ := H5
    refine Wq.iast d_M_mostBy_14 rfl s13.1 s13.2 (fun m6 hm7 => ?_)
    have H8 := H14 m6 hm7
    obtain ⟨s11, H12⟩ := H8
    refine Wp.iinc 3 3 [(0, .inr (.inr 70)), (1, .inl x1), (2, .inl x2), (3, .inl (x3 + 1))] d_M_mostBy_15 rfl s11 (by decide) rfl ?_
    refine Wp.goto 2 d_M_mostBy_18 (by decide) ?_
    exact H12
theorem s_M_mostBy_26 {l : Launch} {G : GT} {d : Nat} {P : Int → MM → Prop} {m : MM} (x1 : Int) (x2 : Int) (x3 : Int) (x4 : Int)  (H : wfM m → inR x1 → inR x2 → inR x3 → inR x4 → (x4 > 30 → (P x3 m)) ∧ (¬ (x4 > 30) → (∃ (e6 : Nat) (P7 : Int → MM → Prop), e6 < d ∧ CI l G Y_M_doesFit e6 [.inr (.inr 70), .inl x4, .inl x2] m P7 ∧ (∀ z12 m13, P7 z12 m13 → inR z12 → wfM m13 → ((z12 ≠ 0 → ((inR (5 * x4)) ∧ ((inR ((5 * x4) + x1)) ∧ ((0 ≤ ((5 * x4) + x1) ∧ ((5 * x4) + x1) < (155 : Int)) ∧ ((0 ≤ (m13 102 ((5 * x4) + x1)) ∧ (m13 102 ((5 * x4) + x1)) < (10 : Int)) ∧ ((inR ((m13 108 (m13 102 ((5 * x4) + x1))) + 1)) ∧ ((0 ≤ (m13 102 ((5 * x4) + x1)) ∧ (m13 102 ((5 * x4) + x1)) < (10 : Int)) ∧ (∀ m32, m32 = up m13 108 (m13 102 ((5 * x4) + x1)) ((m13 108 (m13 102 ((5 * x4) + x1))) + 1) → ((0 ≤ (m13 102 ((5 * x4) + x1)) ∧ (m13 102 ((5 * x4) + x1)) < (10 : Int)) ∧ (((m32 108 (m13 102 ((5 * x4) + x1))) ≤ x3 → ((inR (x4 + 1)) ∧ (Wq l G false Y_M_mostBy d (QI P) 26 [(0, .inr (.inr 70)), (1, .inl x1), (2, .inl x2), (3, .inl x3), (4, .inl (x4 + 1))] [] m32))) ∧ (¬ ((m32 108 (m13 102 ((5 * x4) + x1))) ≤ x3) → ((0 ≤ (m13 102 ((5 * x4) + x1)) ∧ (m13 102 ((5 * x4) + x1)) < (10 : Int)) ∧ ((inR (x4 + 1)) ∧ (Wq l G false Y_M_mostBy d (QI P) 26 [(0, .inr (.inr 70)), (1, .inl x1), (2, .inl x2), (3, .inl (m32 108 (m13 102 ((5 * x4) + x1)))), (4, .inl (x4 + 1))] [] m32)))))))))))))) ∧ (¬ (z12 ≠ 0) → ((inR (x4 + 1)) ∧ (Wq l G false Y_M_mostBy d (QI P) 26 [(0, .inr (.inr 70)), (1, .inl x1), (2, .inl x2), (3, .inl x3), (4, .inl (x4 + 1))] [] m13)))))))) : Wq l G false Y_M_mostBy d (QI P) 26 [(0, .inr (.inr 70)), (1, .inl x1), (2, .inl x2), (3, .inl x3), (4, .inl x4)] [] m := by
  refine Wp.wf (fun hw _ hl hs => ?_)
  have H0 := H hw (hl _ (List.mem_of_getElem? (i := 1) rfl)) (hl _ (List.mem_of_getElem? (i := 2) rfl)) (hl _ (List.mem_of_getElem? (i := 3) rfl)) (hl _ (List.mem_of_getElem? (i := 4) rfl))
  refine Wp.iload 4 4 d_M_mostBy_26 rfl ?_
  refine Wp.bipush d_M_mostBy_28 (by decide) (by decide) ?_
  obtain ⟨H2, H3⟩ := H0
  refine Wp.icmp_gt 95 d_M_mostBy_30 (by decide) (fun c1 => ?_) (fun c1 => ?_)
  · have H4 := H2 c1
    refine Wp.iload_n 3 3 d_M_mostBy_95 rfl rfl ?_
    exact Wq.iret d_M_mostBy_96 rfl H4
  · have H5 := H3 c1
    refine Wp.aload_n 0 0 d_M_mostBy_33 rfl rfl ?_
    refine Wp.iload 4 4 d_M_mostBy_34 rfl ?_
    refine Wp.iload_n 2 2 d_M_mostBy_36 rfl rfl ?_
    obtain ⟨e6, P7, hd8, ho9, H10⟩ := H5
    refine Wq.VI (st := []) [.inl x4, .inl x2] d_M_mostBy_37 k_M_doesFit ml_M_502 rfl rfl rfl (fun h => by cases h) (Nat.le_of_ble_eq_true rfl) hd8 ho9 (fun z12 m13 hp14 hz15 hw16 => ?_)
    have H11 := H10 z12 m13 hp14 hz15 hw16
    obtain ⟨H18, H19⟩ := H11
    refine Wp.if_ne 46 d_M_mostBy_40 (by decide) (fun c17 => ?_) (fun c17 => ?_)
    · have H20 := H18 c17
      refine Wp.aload_n 0 0 d_M_mostBy_46 rfl rfl ?_
      refine Wp.getP 102 d_M_mostBy_47 fl_M_109 rfl rfl rfl ?_
      refine Wp.iconst d_M_mostBy_50 (by decide) ?_
      refine Wp.iload 4 4 d_M_mostBy_51 rfl ?_
      obtain ⟨s22, H23⟩ := H20
      refine Wp.imul d_M_mostBy_53 s22 ?_
      refine Wp.iload_n 1 1 d_M_mostBy_54 rfl rfl ?_
      obtain ⟨s24, H25⟩ := H23
      refine Wp.iadd d_M_mostBy_55 s24 ?_
      obtain ⟨s26, H27⟩ := H25
      refine Wp.iald d_M_mostBy_56 rfl (Or.inl rfl) s26.1 s26.2 ?_
      refine Wp.istore 5 [(0, .inr (.inr 70)), (1, .inl x1), (2, .inl x2), (3, .inl x3), (4, .inl x4), (5, .inl (m13 102 ((5 * x4) + x1)))] d_M_mostBy_57 (by decide) rfl ?_
      refine Wp.aload_n 0 0 d_M_mostBy_59 rfl rfl ?_
      refine Wp.getP 108 d_M_mostBy_60 fl_M_127 rfl rfl rfl ?_
      refine Wp.iload 5 5 d_M_mostBy_63 rfl ?_
      refine Wp.dup2 d_M_mostBy_65 rfl rfl ?_
      obtain ⟨s28, H29⟩ := H27
      refine Wp.iald d_M_mostBy_66 rfl (Or.inl rfl) s28.1 s28.2 ?_
      refine Wp.iconst d_M_mostBy_67 (by decide) ?_
      obtain ⟨s30, H31⟩ := H29
      refine Wp.iadd d_M_mostBy_68 s30 ?_
      obtain ⟨s50, H51⟩ := H31
      refine Wq.iast d_M_mostBy_69 rfl s50.1 s50.2 (fun m32 hm33 => ?_)
      have H34 := H51 m32 hm33
      refine Wp.aload_n 0 0 d_M_mostBy_70 rfl rfl ?_
      refine Wp.getP 108 d_M_mostBy_71 fl_M_127 rfl rfl rfl ?_
      refine Wp.iload 5 5 d_M_mostBy_74 rfl ?_
      obtain ⟨s37, H38⟩ := H34
      refine Wp.iald d_M_mostBy_76 rfl (Or.inl rfl) s37.1 s37.2 ?_
      refine Wp.iload_n 3 3 d_M_mostBy_77 rfl rfl ?_
      obtain ⟨H40, H41⟩ := H38
      refine Wp.icmp_le 89 d_M_mostBy_78 (by decide) (fun c39 => ?_) (fun c39 => ?_)
      · have H42 := H40 c39
        obtain ⟨s44, H45⟩ := H42
        refine Wp.iinc 4 4 [(0, .inr (.inr 70)), (1, .inl x1), (2, .inl x2), (3, .inl x3), (4, .inl (x4 + 1)), (5, .inl (m13 102 ((5 * x4) + x1)))] d_M_mostBy_89 rfl s44 (by decide) rfl ?_
        refine Wp.goto 26 d_M_mostBy_92 (by decide) ?_
        refine Wp.pick [0, 1, 2, 3, 4] [(0, .inr (.inr 70)), (1, .inl x1), (2, .inl x2), (3, .inl x3), (4, .inl (x4 + 1))] rfl ?_
        exact H45
      · have H43 := H41 c39
        refine Wp.aload_n 0 0 d_M_mostBy_81 rfl rfl ?_
        refine Wp.getP 108 d_M_mostBy_82 fl_M_127 rfl rfl rfl ?_
        refine Wp.iload 5 5 d_M_mostBy_85 rfl ?_
        obtain ⟨s46, H47⟩ := H43
        refine Wp.iald d_M_mostBy_87 rfl (Or.inl rfl) s46.1 s46.2 ?_
        refine Wp.istore_n 3 [(0, .inr (.inr 70)), (1, .inl x1), (2, .inl x2), (3, .inl (m32 108 (m13 102 ((5 * x4) + x1)))), (4, .inl x4), (5, .inl (m13 102 ((5 * x4) + x1)))] d_M_mostBy_88 rfl (by decide) rfl ?_
        obtain ⟨s48, H49⟩ := H47
        refine Wp.iinc 4 4 [(0, .inr (.inr 70)), (1, .inl x1), (2, .inl x2), (3, .inl (m32 108 (m13 102 ((5 * x4) + x1)))), (4, .inl (x4 + 1)), (5, .inl (m13 102 ((5 * x4) + x1)))] d_M_mostBy_89 rfl s48 (by decide) rfl ?_
        refine Wp.goto 26 d_M_mostBy_92 (by decide) ?_
        refine Wp.pick [0, 1, 2, 3, 4] [(0, .inr (.inr 70)), (1, .inl x1), (2, .inl x2), (3, .inl (m32 108 (m13 102 ((5 * x4) + x1)))), (4, .inl (x4 + 1))] rfl ?_
        exact H49
    · have H21 := H19 c17
      refine Wp.goto 89 d_M_mostBy_43 (by decide) ?_
      obtain ⟨s52, H53⟩ := H21
      refine Wp.iinc 4 4 [(0, .inr (.inr 70)), (1, .inl x1), (2, .inl x2), (3, .inl x3), (4, .inl (x4 + 1))] d_M_mostBy_89 rfl s52 (by decide) rfl ?_
      refine Wp.goto 26 d_M_mostBy_92 (by decide) ?_
      exact H53
theorem d_M_image_0 : decode Y_M_image.2.1 0 = .ok (.iload_n 1, 1) := by decide +kernel
theorem d_M_image_1 : decode Y_M_image.2.1 1 = .ok (.iconst 0, 1) := by decide +kernel
theorem d_M_image_2 : decode Y_M_image.2.1 2 = .ok (.iconst 2, 1) := by decide +kernel
theorem d_M_image_3 : decode Y_M_image.2.1 3 = .ok (.invokestatic 341, 3) := by decide +kernel
theorem d_M_image_6 : decode Y_M_image.2.1 6 = .ok (.ifCond .ne 5, 3) := by decide +kernel
theorem d_M_image_9 : decode Y_M_image.2.1 9 = .ok (.iconst (-1), 1) := by decide +kernel
theorem d_M_image_10 : decode Y_M_image.2.1 10 = .ok (.ireturn, 1) := by decide +kernel
theorem d_M_image_11 : decode Y_M_image.2.1 11 = .ok (.iconst 0, 1) := by decide +kernel
theorem d_M_image_12 : decode Y_M_image.2.1 12 = .ok (.istore_n 2, 1) := by decide +kernel
theorem d_M_image_13 : decode Y_M_image.2.1 13 = .ok (.iload_n 2, 1) := by decide +kernel
theorem d_M_image_14 : decode Y_M_image.2.1 14 = .ok (.bipush 8, 2) := by decide +kernel
theorem d_M_image_16 : decode Y_M_image.2.1 16 = .ok (.if_icmp .ge 26, 3) := by decide +kernel
theorem d_M_image_19 : decode Y_M_image.2.1 19 = .ok (.aload_n 0, 1) := by decide +kernel
theorem d_M_image_20 : decode Y_M_image.2.1 20 = .ok (.getfield 130, 3) := by decide +kernel
theorem d_M_image_23 : decode Y_M_image.2.1 23 = .ok (.bipush 8, 2) := by decide +kernel
theorem d_M_image_25 : decode Y_M_image.2.1 25 = .ok (.iload_n 1, 1) := by decide +kernel
theorem d_M_image_26 : decode Y_M_image.2.1 26 = .ok (.imul, 1) := by decide +kernel
theorem d_M_image_27 : decode Y_M_image.2.1 27 = .ok (.iload_n 2, 1) := by decide +kernel
theorem d_M_image_28 : decode Y_M_image.2.1 28 = .ok (.iadd, 1) := by decide +kernel
theorem d_M_image_29 : decode Y_M_image.2.1 29 = .ok (.aload_n 0, 1) := by decide +kernel
theorem d_M_image_30 : decode Y_M_image.2.1 30 = .ok (.getfield 73, 3) := by decide +kernel
theorem d_M_image_33 : decode Y_M_image.2.1 33 = .ok (.iload_n 2, 1) := by decide +kernel
theorem d_M_image_34 : decode Y_M_image.2.1 34 = .ok (.iaload, 1) := by decide +kernel
theorem d_M_image_35 : decode Y_M_image.2.1 35 = .ok (.iastore, 1) := by decide +kernel
theorem d_M_image_36 : decode Y_M_image.2.1 36 = .ok (.iinc 2 1, 3) := by decide +kernel
theorem d_M_image_39 : decode Y_M_image.2.1 39 = .ok (.goto (-26), 3) := by decide +kernel
theorem d_M_image_42 : decode Y_M_image.2.1 42 = .ok (.aload_n 0, 1) := by decide +kernel
theorem d_M_image_43 : decode Y_M_image.2.1 43 = .ok (.getfield 133, 3) := by decide +kernel
theorem d_M_image_46 : decode Y_M_image.2.1 46 = .ok (.iload_n 1, 1) := by decide +kernel
theorem d_M_image_47 : decode Y_M_image.2.1 47 = .ok (.iconst 1, 1) := by decide +kernel
theorem d_M_image_48 : decode Y_M_image.2.1 48 = .ok (.bastore, 1) := by decide +kernel
theorem d_M_image_49 : decode Y_M_image.2.1 49 = .ok (.aload_n 0, 1) := by decide +kernel
theorem d_M_image_50 : decode Y_M_image.2.1 50 = .ok (.invokevirtual 511, 3) := by decide +kernel
theorem d_M_image_53 : decode Y_M_image.2.1 53 = .ok (.ireturn, 1) := by decide +kernel
theorem e_M_image {l : Launch} {G : GT} {d : Nat} {P : Int → MM → Prop} {m : MM} (x1 : Int)  (H : wfM m → inR x1 → ∃ (e1 : Nat) (P2 : Int → MM → Prop), e1 < d ∧ CI l G Y_M_isIn e1 [.inl x1, .inl 0, .inl 2] m P2 ∧ (∀ z7 m8, P2 z7 m8 → inR z7 → wfM m8 → ((z7 ≠ 0 → (Wq l G false Y_M_image d (QI P) 13 [(0, .inr (.inr 70)), (1, .inl x1), (2, .inl 0)] [] m8)) ∧ (¬ (z7 ≠ 0) → (P (-1) m8))))) : CI l G Y_M_image d [.inr (.inr 70), .inl x1] m P := by
  refine CI.of [(0, .inr (.inr 70)), (1, .inl x1)] k_M_image.1 (Nat.le_of_ble_eq_true rfl) rfl (Wp.wf (fun hw _ hl hs => ?_))
  have H0 := H hw (hl _ (List.mem_of_getElem? (i := 1) rfl))
  refine Wp.iload_n 1 1 d_M_image_0 rfl rfl ?_
  refine Wp.iconst d_M_image_1 (by decide) ?_
  refine Wp.iconst d_M_image_2 (by decide) ?_
  obtain ⟨e1, P2, hd3, ho4, H5⟩ := H0
  refine Wq.SI (st := []) [.inl x1, .inl 0, .inl 2] d_M_image_3 k_M_isIn ml_M_341 rfl  (fun h => by cases h) (Nat.le_of_ble_eq_true rfl) hd3 ho4 (fun z7 m8 hp9 hz10 hw11 => ?_)
  have H6 := H5 z7 m8 hp9 hz10 hw11
  obtain ⟨H13, H14⟩ := H6
  refine Wp.if_ne 11 d_M_image_6 (by decide) (fun c12 => ?_) (fun c12 => ?_)
  · have H15 := H13 c12
    refine Wp.iconst d_M_image_11 (by decide) ?_
    refine Wp.istore_n 2 [(0, .inr (.inr 70)), (1, .inl x1), (2, .inl 0)] d_M_image_12 rfl (by decide) rfl ?_
    exact H15
  · have H16 := H14 c12
    refine Wp.iconst d_M_image_9 (by decide) ?_
    exact Wq.iret d_M_image_10 rfl H16
theorem s_M_image_13 {l : Launch} {G : GT} {d : Nat} {P : Int → MM → Prop} {m : MM} (x1 : Int) (x2 : Int)  (H : wfM m → inR x1 → inR x2 → (x2 ≥ 8 → ((0 ≤ x1 ∧ x1 < (3 : Int)) ∧ (∀ m6, m6 = up m 110 x1 1 → (∃ (e11 : Nat) (P12 : Int → MM → Prop), e11 < d ∧ CI l G Y_M_levelNow e11 [.inr (.inr 70)] m6 P12 ∧ (∀ z17 m18, P12 z17 m18 → inR z17 → wfM m18 → (P z17 m18)))))) ∧ (¬ (x2 ≥ 8) → ((inR (8 * x1)) ∧ ((inR ((8 * x1) + x2)) ∧ ((0 ≤ x2 ∧ x2 < (8 : Int)) ∧ ((0 ≤ ((8 * x1) + x2) ∧ ((8 * x1) + x2) < (24 : Int)) ∧ (∀ m30, m30 = up m 109 ((8 * x1) + x2) (m 90 x2) → ((inR (x2 + 1)) ∧ (Wq l G false Y_M_image d (QI P) 13 [(0, .inr (.inr 70)), (1, .inl x1), (2, .inl (x2 + 1))] [] m30))))))))) : Wq l G false Y_M_image d (QI P) 13 [(0, .inr (.inr 70)), (1, .inl x1), (2, .inl x2)] [] m := by
  refine Wp.wf (fun hw _ hl hs => ?_)
  have H0 := H hw (hl _ (List.mem_of_getElem? (i := 1) rfl)) (hl _ (List.mem_of_getElem? (i := 2) rfl))
  refine Wp.iload_n 2 2 d_M_image_13 rfl rfl ?_
  refine Wp.bipush d_M_image_14 (by decide) (by decide) ?_
  obtain ⟨H2, H3⟩ := H0
  refine Wp.icmp_ge 42 d_M_image_16 (by decide) (fun c1 => ?_) (fun c1 => ?_)
  · have H4 := H2 c1
    refine Wp.aload_n 0 0 d_M_image_42 rfl rfl ?_
    refine Wp.getP 110 d_M_image_43 fl_M_133 rfl rfl rfl ?_
    refine Wp.iload_n 1 1 d_M_image_46 rfl rfl ?_
    refine Wp.iconst d_M_image_47 (by decide) ?_
    obtain ⟨s22, H23⟩ := H4
    refine Wq.zast d_M_image_48 rfl s22.1 s22.2 (by decide) (fun m6 hm7 => ?_)
    have H8 := H23 m6 hm7
    refine Wp.aload_n 0 0 d_M_image_49 rfl rfl ?_
    obtain ⟨e11, P12, hd13, ho14, H15⟩ := H8
    refine Wq.VI (st := []) [] d_M_image_50 k_M_levelNow ml_M_511 rfl rfl rfl (fun h => by cases h) (Nat.le_of_ble_eq_true rfl) hd13 ho14 (fun z17 m18 hp19 hz20 hw21 => ?_)
    have H16 := H15 z17 m18 hp19 hz20 hw21
    exact Wq.iret d_M_image_53 rfl H16
  · have H5 := H3 c1
    refine Wp.aload_n 0 0 d_M_image_19 rfl rfl ?_
    refine Wp.getP 109 d_M_image_20 fl_M_130 rfl rfl rfl ?_
    refine Wp.bipush d_M_image_23 (by decide) (by decide) ?_
    refine Wp.iload_n 1 1 d_M_image_25 rfl rfl ?_
    obtain ⟨s24, H25⟩ := H5
    refine Wp.imul d_M_image_26 s24 ?_
    refine Wp.iload_n 2 2 d_M_image_27 rfl rfl ?_
    obtain ⟨s26, H27⟩ := H25
    refine Wp.iadd d_M_image_28 s26 ?_
    refine Wp.aload_n 0 0 d_M_image_29 rfl rfl ?_
    refine Wp.getP 90 d_M_image_30 fl_M_73 rfl rfl rfl ?_
    refine Wp.iload_n 2 2 d_M_image_33 rfl rfl ?_
    obtain ⟨s28, H29⟩ := H27
    refine Wp.iald d_M_image_34 rfl (Or.inl rfl) s28.1 s28.2 ?_
    obtain ⟨s37, H38⟩ := H29
    refine Wq.iast d_M_image_35 rfl s37.1 s37.2 (fun m30 hm31 => ?_)
    have H32 := H38 m30 hm31
    obtain ⟨s35, H36⟩ := H32
    refine Wp.iinc 2 2 [(0, .inr (.inr 70)), (1, .inl x1), (2, .inl (x2 + 1))] d_M_image_36 rfl s35 (by decide) rfl ?_
    refine Wp.goto 13 d_M_image_39 (by decide) ?_
    exact H36
theorem d_M_levelNow_0 : decode Y_M_levelNow.2.1 0 = .ok (.aload_n 0, 1) := by decide +kernel
theorem d_M_levelNow_1 : decode Y_M_levelNow.2.1 1 = .ok (.invokevirtual 378, 3) := by decide +kernel
theorem d_M_levelNow_4 : decode Y_M_levelNow.2.1 4 = .ok (.aload_n 0, 1) := by decide +kernel
theorem d_M_levelNow_5 : decode Y_M_levelNow.2.1 5 = .ok (.invokevirtual 446, 3) := by decide +kernel
theorem d_M_levelNow_8 : decode Y_M_levelNow.2.1 8 = .ok (.ireturn, 1) := by decide +kernel
theorem e_M_levelNow {l : Launch} {G : GT} {d : Nat} {P : Int → MM → Prop} {m : MM}   (H : wfM m → ∃ (e1 : Nat) (P2 : MM → Prop), e1 < d ∧ CV l G Y_M_layNow e1 [.inr (.inr 70)] m P2 ∧ (∀ m8, P2 m8 → wfM m8 → (∃ (e12 : Nat) (P13 : Int → MM → Prop), e12 < d ∧ CI l G Y_M_levelOf e12 [.inr (.inr 70)] m8 P13 ∧ (∀ z18 m19, P13 z18 m19 → inR z18 → wfM m19 → (P z18 m19))))) : CI l G Y_M_levelNow d [.inr (.inr 70)] m P := by
  refine CI.of [(0, .inr (.inr 70))] k_M_levelNow.1 (Nat.le_of_ble_eq_true rfl) rfl (Wp.wf (fun hw _ hl hs => ?_))
  have H0 := H hw
  refine Wp.aload_n 0 0 d_M_levelNow_0 rfl rfl ?_
  obtain ⟨e1, P2, hd3, ho4, H5⟩ := H0
  refine Wq.VV (st := []) [] d_M_levelNow_1 k_M_layNow ml_M_378 rfl rfl rfl (fun h => by cases h) (Nat.le_of_ble_eq_true rfl) hd3 ho4 (fun m8 hp9 hw11 => ?_)
  have H6 := H5 m8 hp9 hw11
  refine Wp.aload_n 0 0 d_M_levelNow_4 rfl rfl ?_
  obtain ⟨e12, P13, hd14, ho15, H16⟩ := H6
  refine Wq.VI (st := []) [] d_M_levelNow_5 k_M_levelOf ml_M_446 rfl rfl rfl (fun h => by cases h) (Nat.le_of_ble_eq_true rfl) hd14 ho15 (fun z18 m19 hp20 hz21 hw22 => ?_)
  have H17 := H16 z18 m19 hp20 hz21 hw22
  exact Wq.iret d_M_levelNow_8 rfl H17
theorem d_M_back_0 : decode Y_M_back.2.1 0 = .ok (.aload_n 0, 1) := by decide +kernel
theorem d_M_back_1 : decode Y_M_back.2.1 1 = .ok (.iload_n 1, 1) := by decide +kernel
theorem d_M_back_2 : decode Y_M_back.2.1 2 = .ok (.invokevirtual 456, 3) := by decide +kernel
theorem d_M_back_5 : decode Y_M_back.2.1 5 = .ok (.ifCond .ne 5, 3) := by decide +kernel
theorem d_M_back_8 : decode Y_M_back.2.1 8 = .ok (.iconst (-1), 1) := by decide +kernel
theorem d_M_back_9 : decode Y_M_back.2.1 9 = .ok (.ireturn, 1) := by decide +kernel
theorem d_M_back_10 : decode Y_M_back.2.1 10 = .ok (.iconst 0, 1) := by decide +kernel
theorem d_M_back_11 : decode Y_M_back.2.1 11 = .ok (.istore_n 2, 1) := by decide +kernel
theorem d_M_back_12 : decode Y_M_back.2.1 12 = .ok (.iload_n 2, 1) := by decide +kernel
theorem d_M_back_13 : decode Y_M_back.2.1 13 = .ok (.bipush 8, 2) := by decide +kernel
theorem d_M_back_15 : decode Y_M_back.2.1 15 = .ok (.if_icmp .ge 26, 3) := by decide +kernel
theorem d_M_back_18 : decode Y_M_back.2.1 18 = .ok (.aload_n 0, 1) := by decide +kernel
theorem d_M_back_19 : decode Y_M_back.2.1 19 = .ok (.getfield 73, 3) := by decide +kernel
theorem d_M_back_22 : decode Y_M_back.2.1 22 = .ok (.iload_n 2, 1) := by decide +kernel
theorem d_M_back_23 : decode Y_M_back.2.1 23 = .ok (.aload_n 0, 1) := by decide +kernel
theorem d_M_back_24 : decode Y_M_back.2.1 24 = .ok (.getfield 130, 3) := by decide +kernel
theorem d_M_back_27 : decode Y_M_back.2.1 27 = .ok (.bipush 8, 2) := by decide +kernel
theorem d_M_back_29 : decode Y_M_back.2.1 29 = .ok (.iload_n 1, 1) := by decide +kernel
theorem d_M_back_30 : decode Y_M_back.2.1 30 = .ok (.imul, 1) := by decide +kernel
theorem d_M_back_31 : decode Y_M_back.2.1 31 = .ok (.iload_n 2, 1) := by decide +kernel
theorem d_M_back_32 : decode Y_M_back.2.1 32 = .ok (.iadd, 1) := by decide +kernel
theorem d_M_back_33 : decode Y_M_back.2.1 33 = .ok (.iaload, 1) := by decide +kernel
theorem d_M_back_34 : decode Y_M_back.2.1 34 = .ok (.iastore, 1) := by decide +kernel
theorem d_M_back_35 : decode Y_M_back.2.1 35 = .ok (.iinc 2 1, 3) := by decide +kernel
theorem d_M_back_38 : decode Y_M_back.2.1 38 = .ok (.goto (-26), 3) := by decide +kernel
theorem d_M_back_41 : decode Y_M_back.2.1 41 = .ok (.aload_n 0, 1) := by decide +kernel
theorem d_M_back_42 : decode Y_M_back.2.1 42 = .ok (.iconst 0, 1) := by decide +kernel
theorem d_M_back_43 : decode Y_M_back.2.1 43 = .ok (.putfield 360, 3) := by decide +kernel
theorem d_M_back_46 : decode Y_M_back.2.1 46 = .ok (.aload_n 0, 1) := by decide +kernel
theorem d_M_back_47 : decode Y_M_back.2.1 47 = .ok (.iconst 0, 1) := by decide +kernel
theorem d_M_back_48 : decode Y_M_back.2.1 48 = .ok (.putfield 363, 3) := by decide +kernel
theorem d_M_back_51 : decode Y_M_back.2.1 51 = .ok (.aload_n 0, 1) := by decide +kernel
theorem d_M_back_52 : decode Y_M_back.2.1 52 = .ok (.invokevirtual 511, 3) := by decide +kernel
theorem d_M_back_55 : decode Y_M_back.2.1 55 = .ok (.ireturn, 1) := by decide +kernel
theorem e_M_back {l : Launch} {G : GT} {d : Nat} {P : Int → MM → Prop} {m : MM} (x1 : Int)  (H : wfM m → inR x1 → ∃ (e1 : Nat) (P2 : Int → MM → Prop), e1 < d ∧ CI l G Y_M_isBox e1 [.inr (.inr 70), .inl x1] m P2 ∧ (∀ z7 m8, P2 z7 m8 → inR z7 → wfM m8 → ((z7 ≠ 0 → (Wq l G false Y_M_back d (QI P) 12 [(0, .inr (.inr 70)), (1, .inl x1), (2, .inl 0)] [] m8)) ∧ (¬ (z7 ≠ 0) → (P (-1) m8))))) : CI l G Y_M_back d [.inr (.inr 70), .inl x1] m P := by
  refine CI.of [(0, .inr (.inr 70)), (1, .inl x1)] k_M_back.1 (Nat.le_of_ble_eq_true rfl) rfl (Wp.wf (fun hw _ hl hs => ?_))
  have H0 := H hw (hl _ (List.mem_of_getElem? (i := 1) rfl))
  refine Wp.aload_n 0 0 d_M_back_0 rfl rfl ?_
  refine Wp.iload_n 1 1 d_M_back_1 rfl rfl ?_
  obtain ⟨e1, P2, hd3, ho4, H5⟩ := H0
  refine Wq.VI (st := []) [.inl x1] d_M_back_2 k_M_isBox ml_M_456 rfl rfl rfl (fun h => by cases h) (Nat.le_of_ble_eq_true rfl) hd3 ho4 (fun z7 m8 hp9 hz10 hw11 => ?_)
  have H6 := H5 z7 m8 hp9 hz10 hw11
  obtain ⟨H13, H14⟩ := H6
  refine Wp.if_ne 10 d_M_back_5 (by decide) (fun c12 => ?_) (fun c12 => ?_)
  · have H15 := H13 c12
    refine Wp.iconst d_M_back_10 (by decide) ?_
    refine Wp.istore_n 2 [(0, .inr (.inr 70)), (1, .inl x1), (2, .inl 0)] d_M_back_11 rfl (by decide) rfl ?_
    exact H15
  · have H16 := H14 c12
    refine Wp.iconst d_M_back_8 (by decide) ?_
    exact Wq.iret d_M_back_9 rfl H16
theorem s_M_back_12 {l : Launch} {G : GT} {d : Nat} {P : Int → MM → Prop} {m : MM} (x1 : Int) (x2 : Int)  (H : wfM m → inR x1 → inR x2 → (x2 ≥ 8 → (∀ m6, m6 = up m 70 45 0 → (∀ m9, m9 = up m6 70 46 0 → (∃ (e12 : Nat) (P13 : Int → MM → Prop), e12 < d ∧ CI l G Y_M_levelNow e12 [.inr (.inr 70)] m9 P13 ∧ (∀ z18 m19, P13 z18 m19 → inR z18 → wfM m19 → (P z18 m19)))))) ∧ (¬ (x2 ≥ 8) → ((inR (8 * x1)) ∧ ((inR ((8 * x1) + x2)) ∧ ((0 ≤ ((8 * x1) + x2) ∧ ((8 * x1) + x2) < (24 : Int)) ∧ ((0 ≤ x2 ∧ x2 < (8 : Int)) ∧ (∀ m29, m29 = up m 90 x2 (m 109 ((8 * x1) + x2)) → ((inR (x2 + 1)) ∧ (Wq l G false Y_M_back d (QI P) 12 [(0, .inr (.inr 70)), (1, .inl x1), (2, .inl (x2 + 1))] [] m29))))))))) : Wq l G false Y_M_back d (QI P) 12 [(0, .inr (.inr 70)), (1, .inl x1), (2, .inl x2)] [] m := by
  refine Wp.wf (fun hw _ hl hs => ?_)
  have H0 := H hw (hl _ (List.mem_of_getElem? (i := 1) rfl)) (hl _ (List.mem_of_getElem? (i := 2) rfl))
  refine Wp.iload_n 2 2 d_M_back_12 rfl rfl ?_
  refine Wp.bipush d_M_back_13 (by decide) (by decide) ?_
  obtain ⟨H2, H3⟩ := H0
  refine Wp.icmp_ge 41 d_M_back_15 (by decide) (fun c1 => ?_) (fun c1 => ?_)
  · have H4 := H2 c1
    refine Wp.aload_n 0 0 d_M_back_41 rfl rfl ?_
    refine Wp.iconst d_M_back_42 (by decide) ?_
    refine Wq.putI 45 rfl d_M_back_43 fl_M_360 (fun _ _ _ h => by cases h; rfl) rfl rfl rfl (fun m6 hm7 => ?_)
    have H8 := H4 m6 hm7
    refine Wp.aload_n 0 0 d_M_back_46 rfl rfl ?_
    refine Wp.iconst d_M_back_47 (by decide) ?_
    refine Wq.putI 46 rfl d_M_back_48 fl_M_363 (fun _ _ _ h => by cases h; rfl) rfl rfl rfl (fun m9 hm10 => ?_)
    have H11 := H8 m9 hm10
    refine Wp.aload_n 0 0 d_M_back_51 rfl rfl ?_
    obtain ⟨e12, P13, hd14, ho15, H16⟩ := H11
    refine Wq.VI (st := []) [] d_M_back_52 k_M_levelNow ml_M_511 rfl rfl rfl (fun h => by cases h) (Nat.le_of_ble_eq_true rfl) hd14 ho15 (fun z18 m19 hp20 hz21 hw22 => ?_)
    have H17 := H16 z18 m19 hp20 hz21 hw22
    exact Wq.iret d_M_back_55 rfl H17
  · have H5 := H3 c1
    refine Wp.aload_n 0 0 d_M_back_18 rfl rfl ?_
    refine Wp.getP 90 d_M_back_19 fl_M_73 rfl rfl rfl ?_
    refine Wp.iload_n 2 2 d_M_back_22 rfl rfl ?_
    refine Wp.aload_n 0 0 d_M_back_23 rfl rfl ?_
    refine Wp.getP 109 d_M_back_24 fl_M_130 rfl rfl rfl ?_
    refine Wp.bipush d_M_back_27 (by decide) (by decide) ?_
    refine Wp.iload_n 1 1 d_M_back_29 rfl rfl ?_
    obtain ⟨s23, H24⟩ := H5
    refine Wp.imul d_M_back_30 s23 ?_
    refine Wp.iload_n 2 2 d_M_back_31 rfl rfl ?_
    obtain ⟨s25, H26⟩ := H24
    refine Wp.iadd d_M_back_32 s25 ?_
    obtain ⟨s27, H28⟩ := H26
    refine Wp.iald d_M_back_33 rfl (Or.inl rfl) s27.1 s27.2 ?_
    obtain ⟨s36, H37⟩ := H28
    refine Wq.iast d_M_back_34 rfl s36.1 s36.2 (fun m29 hm30 => ?_)
    have H31 := H37 m29 hm30
    obtain ⟨s34, H35⟩ := H31
    refine Wp.iinc 2 2 [(0, .inr (.inr 70)), (1, .inl x1), (2, .inl (x2 + 1))] d_M_back_35 rfl s34 (by decide) rfl ?_
    refine Wp.goto 12 d_M_back_38 (by decide) ?_
    exact H35
theorem d_M_about_0 : decode Y_M_about.2.1 0 = .ok (.iload_n 1, 1) := by decide +kernel
theorem d_M_about_1 : decode Y_M_about.2.1 1 = .ok (.tableswitch 181 0 14 #[75, 80, 90, 95, 102, 110, 118, 123, 128, 133, 138, 143, 153, 158, 168], 75) := by decide +kernel
theorem d_M_about_76 : decode Y_M_about.2.1 76 = .ok (.aload_n 0, 1) := by decide +kernel
theorem d_M_about_77 : decode Y_M_about.2.1 77 = .ok (.invokevirtual 338, 3) := by decide +kernel
theorem d_M_about_80 : decode Y_M_about.2.1 80 = .ok (.ireturn, 1) := by decide +kernel
theorem d_M_about_81 : decode Y_M_about.2.1 81 = .ok (.aload_n 0, 1) := by decide +kernel
theorem d_M_about_82 : decode Y_M_about.2.1 82 = .ok (.getfield 24, 3) := by decide +kernel
theorem d_M_about_85 : decode Y_M_about.2.1 85 = .ok (.aload_n 0, 1) := by decide +kernel
theorem d_M_about_86 : decode Y_M_about.2.1 86 = .ok (.getfield 243, 3) := by decide +kernel
theorem d_M_about_89 : decode Y_M_about.2.1 89 = .ok (.iaload, 1) := by decide +kernel
theorem d_M_about_90 : decode Y_M_about.2.1 90 = .ok (.ireturn, 1) := by decide +kernel
theorem d_M_about_91 : decode Y_M_about.2.1 91 = .ok (.aload_n 0, 1) := by decide +kernel
theorem d_M_about_92 : decode Y_M_about.2.1 92 = .ok (.invokevirtual 511, 3) := by decide +kernel
theorem d_M_about_95 : decode Y_M_about.2.1 95 = .ok (.ireturn, 1) := by decide +kernel
theorem d_M_about_96 : decode Y_M_about.2.1 96 = .ok (.aload_n 0, 1) := by decide +kernel
theorem d_M_about_97 : decode Y_M_about.2.1 97 = .ok (.getfield 73, 3) := by decide +kernel
theorem d_M_about_100 : decode Y_M_about.2.1 100 = .ok (.iconst 5, 1) := by decide +kernel
theorem d_M_about_101 : decode Y_M_about.2.1 101 = .ok (.iaload, 1) := by decide +kernel
theorem d_M_about_102 : decode Y_M_about.2.1 102 = .ok (.ireturn, 1) := by decide +kernel
theorem d_M_about_103 : decode Y_M_about.2.1 103 = .ok (.aload_n 0, 1) := by decide +kernel
theorem d_M_about_104 : decode Y_M_about.2.1 104 = .ok (.getfield 73, 3) := by decide +kernel
theorem d_M_about_107 : decode Y_M_about.2.1 107 = .ok (.bipush 6, 2) := by decide +kernel
theorem d_M_about_109 : decode Y_M_about.2.1 109 = .ok (.iaload, 1) := by decide +kernel
theorem d_M_about_110 : decode Y_M_about.2.1 110 = .ok (.ireturn, 1) := by decide +kernel
theorem d_M_about_111 : decode Y_M_about.2.1 111 = .ok (.aload_n 0, 1) := by decide +kernel
theorem d_M_about_112 : decode Y_M_about.2.1 112 = .ok (.getfield 73, 3) := by decide +kernel
theorem d_M_about_115 : decode Y_M_about.2.1 115 = .ok (.bipush 7, 2) := by decide +kernel
theorem d_M_about_117 : decode Y_M_about.2.1 117 = .ok (.iaload, 1) := by decide +kernel
theorem d_M_about_118 : decode Y_M_about.2.1 118 = .ok (.ireturn, 1) := by decide +kernel
theorem d_M_about_119 : decode Y_M_about.2.1 119 = .ok (.aload_n 0, 1) := by decide +kernel
theorem d_M_about_120 : decode Y_M_about.2.1 120 = .ok (.getfield 360, 3) := by decide +kernel
theorem d_M_about_123 : decode Y_M_about.2.1 123 = .ok (.ireturn, 1) := by decide +kernel
theorem d_M_about_124 : decode Y_M_about.2.1 124 = .ok (.aload_n 0, 1) := by decide +kernel
theorem d_M_about_125 : decode Y_M_about.2.1 125 = .ok (.getfield 363, 3) := by decide +kernel
theorem d_M_about_128 : decode Y_M_about.2.1 128 = .ok (.ireturn, 1) := by decide +kernel
theorem d_M_about_129 : decode Y_M_about.2.1 129 = .ok (.aload_n 0, 1) := by decide +kernel
theorem d_M_about_130 : decode Y_M_about.2.1 130 = .ok (.getfield 366, 3) := by decide +kernel
theorem d_M_about_133 : decode Y_M_about.2.1 133 = .ok (.ireturn, 1) := by decide +kernel
theorem d_M_about_134 : decode Y_M_about.2.1 134 = .ok (.aload_n 0, 1) := by decide +kernel
theorem d_M_about_135 : decode Y_M_about.2.1 135 = .ok (.getfield 495, 3) := by decide +kernel
theorem d_M_about_138 : decode Y_M_about.2.1 138 = .ok (.ireturn, 1) := by decide +kernel
theorem d_M_about_139 : decode Y_M_about.2.1 139 = .ok (.aload_n 0, 1) := by decide +kernel
theorem d_M_about_140 : decode Y_M_about.2.1 140 = .ok (.getfield 240, 3) := by decide +kernel
theorem d_M_about_143 : decode Y_M_about.2.1 143 = .ok (.ireturn, 1) := by decide +kernel
theorem d_M_about_144 : decode Y_M_about.2.1 144 = .ok (.aload_n 0, 1) := by decide +kernel
theorem d_M_about_145 : decode Y_M_about.2.1 145 = .ok (.getfield 27, 3) := by decide +kernel
theorem d_M_about_148 : decode Y_M_about.2.1 148 = .ok (.aload_n 0, 1) := by decide +kernel
theorem d_M_about_149 : decode Y_M_about.2.1 149 = .ok (.getfield 243, 3) := by decide +kernel
theorem d_M_about_152 : decode Y_M_about.2.1 152 = .ok (.iaload, 1) := by decide +kernel
theorem d_M_about_153 : decode Y_M_about.2.1 153 = .ok (.ireturn, 1) := by decide +kernel
theorem d_M_about_154 : decode Y_M_about.2.1 154 = .ok (.aload_n 0, 1) := by decide +kernel
theorem d_M_about_155 : decode Y_M_about.2.1 155 = .ok (.getfield 369, 3) := by decide +kernel
theorem d_M_about_158 : decode Y_M_about.2.1 158 = .ok (.ireturn, 1) := by decide +kernel
theorem d_M_about_159 : decode Y_M_about.2.1 159 = .ok (.aload_n 0, 1) := by decide +kernel
theorem d_M_about_160 : decode Y_M_about.2.1 160 = .ok (.getfield 30, 3) := by decide +kernel
theorem d_M_about_163 : decode Y_M_about.2.1 163 = .ok (.aload_n 0, 1) := by decide +kernel
theorem d_M_about_164 : decode Y_M_about.2.1 164 = .ok (.getfield 243, 3) := by decide +kernel
theorem d_M_about_167 : decode Y_M_about.2.1 167 = .ok (.iaload, 1) := by decide +kernel
theorem d_M_about_168 : decode Y_M_about.2.1 168 = .ok (.ireturn, 1) := by decide +kernel
theorem d_M_about_169 : decode Y_M_about.2.1 169 = .ok (.aload_n 0, 1) := by decide +kernel
theorem d_M_about_170 : decode Y_M_about.2.1 170 = .ok (.invokevirtual 421, 3) := by decide +kernel
theorem d_M_about_173 : decode Y_M_about.2.1 173 = .ok (.ifCond .ne 7, 3) := by decide +kernel
theorem d_M_about_176 : decode Y_M_about.2.1 176 = .ok (.iconst 1, 1) := by decide +kernel
theorem d_M_about_177 : decode Y_M_about.2.1 177 = .ok (.goto 4, 3) := by decide +kernel
theorem d_M_about_180 : decode Y_M_about.2.1 180 = .ok (.iconst 0, 1) := by decide +kernel
theorem d_M_about_181 : decode Y_M_about.2.1 181 = .ok (.ireturn, 1) := by decide +kernel
theorem d_M_about_182 : decode Y_M_about.2.1 182 = .ok (.iconst (-1), 1) := by decide +kernel
theorem d_M_about_183 : decode Y_M_about.2.1 183 = .ok (.ireturn, 1) := by decide +kernel
theorem e_M_about {l : Launch} {G : GT} {d : Nat} {P : Int → MM → Prop} {m : MM} (x1 : Int)  (H : wfM m → inR x1 → (x1 = 0 → (∃ (e5 : Nat) (P6 : Int → MM → Prop), e5 < d ∧ CI l G Y_M_lots e5 [.inr (.inr 70)] m P6 ∧ (∀ z11 m12, P6 z11 m12 → inR z11 → wfM m12 → (P z11 m12)))) ∧ (x1 = 1 → ((0 ≤ (m 70 28) ∧ (m 70 28) < (2 : Int)) ∧ (P (m 74 (m 70 28)) m))) ∧ (x1 = 2 → (∃ (e26 : Nat) (P27 : Int → MM → Prop), e26 < d ∧ CI l G Y_M_levelNow e26 [.inr (.inr 70)] m P27 ∧ (∀ z32 m33, P27 z32 m33 → inR z32 → wfM m33 → (P z32 m33)))) ∧ (x1 = 3 → (P (m 90 5) m)) ∧ (x1 = 4 → (P (m 90 6) m)) ∧ (x1 = 5 → (P (m 90 7) m)) ∧ (x1 = 6 → (P (m 70 45) m)) ∧ (x1 = 7 → (P (m 70 46) m)) ∧ (x1 = 8 → (P (m 70 60) m)) ∧ (x1 = 9 → (P (m 70 61) m)) ∧ (x1 = 10 → (P (m 70 2) m)) ∧ (x1 = 11 → ((0 ≤ (m 70 28) ∧ (m 70 28) < (2 : Int)) ∧ (P (m 75 (m 70 28)) m))) ∧ (x1 = 12 → (P (m 70 48) m)) ∧ (x1 = 13 → ((0 ≤ (m 70 28) ∧ (m 70 28) < (2 : Int)) ∧ (P (m 76 (m 70 28)) m))) ∧ (x1 = 14 → (∃ (e89 : Nat) (P90 : Int → MM → Prop), e89 < d ∧ CI l G Y_M_over e89 [.inr (.inr 70)] m P90 ∧ (∀ z95 m96, P90 z95 m96 → inR z95 → wfM m96 → ((z95 ≠ 0 → (P 0 m96)) ∧ (¬ (z95 ≠ 0) → (P 1 m96)))))) ∧ (¬ (x1 = 0) → ¬ (x1 = 1) → ¬ (x1 = 2) → ¬ (x1 = 3) → ¬ (x1 = 4) → ¬ (x1 = 5) → ¬ (x1 = 6) → ¬ (x1 = 7) → ¬ (x1 = 8) → ¬ (x1 = 9) → ¬ (x1 = 10) → ¬ (x1 = 11) → ¬ (x1 = 12) → ¬ (x1 = 13) → ¬ (x1 = 14) → (P (-1) m))) : CI l G Y_M_about d [.inr (.inr 70), .inl x1] m P := by
  refine CI.of [(0, .inr (.inr 70)), (1, .inl x1)] k_M_about.1 (Nat.le_of_ble_eq_true rfl) rfl (Wp.wf (fun hw _ hl hs => ?_))
  have H0 := H hw (hl _ (List.mem_of_getElem? (i := 1) rfl))
  refine Wp.iload_n 1 1 d_M_about_0 rfl rfl ?_
  obtain ⟨H1, H2⟩ := H0
  by_cases c3 : x1 = 0
  · have H4 := H1 c3
    refine Wp.tin (off := 75) 0 76 d_M_about_1 c3 (by decide +kernel) (by decide +kernel) (by decide +kernel) (by decide +kernel) ?_
    refine Wp.aload_n 0 0 d_M_about_76 rfl rfl ?_
    obtain ⟨e5, P6, hd7, ho8, H9⟩ := H4
    refine Wq.VI (st := []) [] d_M_about_77 k_M_lots ml_M_338 rfl rfl rfl (fun h => by cases h) (Nat.le_of_ble_eq_true rfl) hd7 ho8 (fun z11 m12 hp13 hz14 hw15 => ?_)
    have H10 := H9 z11 m12 hp13 hz14 hw15
    exact Wq.iret d_M_about_80 rfl H10
  obtain ⟨H16, H17⟩ := H2
  by_cases c18 : x1 = 1
  · have H19 := H16 c18
    refine Wp.tin (off := 80) 1 81 d_M_about_1 c18 (by decide +kernel) (by decide +kernel) (by decide +kernel) (by decide +kernel) ?_
    refine Wp.aload_n 0 0 d_M_about_81 rfl rfl ?_
    refine Wp.getP 74 d_M_about_82 fl_M_24 rfl rfl rfl ?_
    refine Wp.aload_n 0 0 d_M_about_85 rfl rfl ?_
    refine Wq.getI 28 rfl d_M_about_86 fl_M_243 rfl (Or.inl rfl) ?_
    obtain ⟨s20, H21⟩ := H19
    refine Wp.iald d_M_about_89 rfl (Or.inl rfl) s20.1 s20.2 ?_
    exact Wq.iret d_M_about_90 rfl H21
  obtain ⟨H22, H23⟩ := H17
  by_cases c24 : x1 = 2
  · have H25 := H22 c24
    refine Wp.tin (off := 90) 2 91 d_M_about_1 c24 (by decide +kernel) (by decide +kernel) (by decide +kernel) (by decide +kernel) ?_
    refine Wp.aload_n 0 0 d_M_about_91 rfl rfl ?_
    obtain ⟨e26, P27, hd28, ho29, H30⟩ := H25
    refine Wq.VI (st := []) [] d_M_about_92 k_M_levelNow ml_M_511 rfl rfl rfl (fun h => by cases h) (Nat.le_of_ble_eq_true rfl) hd28 ho29 (fun z32 m33 hp34 hz35 hw36 => ?_)
    have H31 := H30 z32 m33 hp34 hz35 hw36
    exact Wq.iret d_M_about_95 rfl H31
  obtain ⟨H37, H38⟩ := H23
  by_cases c39 : x1 = 3
  · have H40 := H37 c39
    refine Wp.tin (off := 95) 3 96 d_M_about_1 c39 (by decide +kernel) (by decide +kernel) (by decide +kernel) (by decide +kernel) ?_
    refine Wp.aload_n 0 0 d_M_about_96 rfl rfl ?_
    refine Wp.getP 90 d_M_about_97 fl_M_73 rfl rfl rfl ?_
    refine Wp.iconst d_M_about_100 (by decide) ?_
    refine Wp.iald d_M_about_101 rfl (Or.inl rfl) (by decide) (by decide) ?_
    exact Wq.iret d_M_about_102 rfl H40
  obtain ⟨H41, H42⟩ := H38
  by_cases c43 : x1 = 4
  · have H44 := H41 c43
    refine Wp.tin (off := 102) 4 103 d_M_about_1 c43 (by decide +kernel) (by decide +kernel) (by decide +kernel) (by decide +kernel) ?_
    refine Wp.aload_n 0 0 d_M_about_103 rfl rfl ?_
    refine Wp.getP 90 d_M_about_104 fl_M_73 rfl rfl rfl ?_
    refine Wp.bipush d_M_about_107 (by decide) (by decide) ?_
    refine Wp.iald d_M_about_109 rfl (Or.inl rfl) (by decide) (by decide) ?_
    exact Wq.iret d_M_about_110 rfl H44
  obtain ⟨H45, H46⟩ := H42
  by_cases c47 : x1 = 5
  · have H48 := H45 c47
    refine Wp.tin (off := 110) 5 111 d_M_about_1 c47 (by decide +kernel) (by decide +kernel) (by decide +kernel) (by decide +kernel) ?_
    refine Wp.aload_n 0 0 d_M_about_111 rfl rfl ?_
    refine Wp.getP 90 d_M_about_112 fl_M_73 rfl rfl rfl ?_
    refine Wp.bipush d_M_about_115 (by decide) (by decide) ?_
    refine Wp.iald d_M_about_117 rfl (Or.inl rfl) (by decide) (by decide) ?_
    exact Wq.iret d_M_about_118 rfl H48
  obtain ⟨H49, H50⟩ := H46
  by_cases c51 : x1 = 6
  · have H52 := H49 c51
    refine Wp.tin (off := 118) 6 119 d_M_about_1 c51 (by decide +kernel) (by decide +kernel) (by decide +kernel) (by decide +kernel) ?_
    refine Wp.aload_n 0 0 d_M_about_119 rfl rfl ?_
    refine Wq.getI 45 rfl d_M_about_120 fl_M_360 rfl (Or.inl rfl) ?_
    exact Wq.iret d_M_about_123 rfl H52
  obtain ⟨H53, H54⟩ := H50
  by_cases c55 : x1 = 7
  · have H56 := H53 c55
    refine Wp.tin (off := 123) 7 124 d_M_about_1 c55 (by decide +kernel) (by decide +kernel) (by decide +kernel) (by decide +kernel) ?_
    refine Wp.aload_n 0 0 d_M_about_124 rfl rfl ?_
    refine Wq.getI 46 rfl d_M_about_125 fl_M_363 rfl (Or.inl rfl) ?_
    exact Wq.iret d_M_about_128 rfl H56
  obtain ⟨H57, H58⟩ := H54
  by_cases c59 : x1 = 8
  · have H60 := H57 c59
    refine Wp.tin (off := 128) 8 129 d_M_about_1 c59 (by decide +kernel) (by decide +kernel) (by decide +kernel) (by decide +kernel) ?_
    refine Wp.aload_n 0 0 d_M_about_129 rfl rfl ?_
    refine Wq.getI 60 rfl d_M_about_130 fl_M_366 rfl (Or.inl rfl) ?_
    exact Wq.iret d_M_about_133 rfl H60
  obtain ⟨H61, H62⟩ := H58
  by_cases c63 : x1 = 9
  · have H64 := H61 c63
    refine Wp.tin (off := 133) 9 134 d_M_about_1 c63 (by decide +kernel) (by decide +kernel) (by decide +kernel) (by decide +kernel) ?_
    refine Wp.aload_n 0 0 d_M_about_134 rfl rfl ?_
    refine Wq.getI 61 rfl d_M_about_135 fl_M_495 rfl (Or.inl rfl) ?_
    exact Wq.iret d_M_about_138 rfl H64
  obtain ⟨H65, H66⟩ := H62
  by_cases c67 : x1 = 10
  · have H68 := H65 c67
    refine Wp.tin (off := 138) 10 139 d_M_about_1 c67 (by decide +kernel) (by decide +kernel) (by decide +kernel) (by decide +kernel) ?_
    refine Wp.aload_n 0 0 d_M_about_139 rfl rfl ?_
    refine Wq.getI 2 rfl d_M_about_140 fl_M_240 rfl (Or.inl rfl) ?_
    exact Wq.iret d_M_about_143 rfl H68
  obtain ⟨H69, H70⟩ := H66
  by_cases c71 : x1 = 11
  · have H72 := H69 c71
    refine Wp.tin (off := 143) 11 144 d_M_about_1 c71 (by decide +kernel) (by decide +kernel) (by decide +kernel) (by decide +kernel) ?_
    refine Wp.aload_n 0 0 d_M_about_144 rfl rfl ?_
    refine Wp.getP 75 d_M_about_145 fl_M_27 rfl rfl rfl ?_
    refine Wp.aload_n 0 0 d_M_about_148 rfl rfl ?_
    refine Wq.getI 28 rfl d_M_about_149 fl_M_243 rfl (Or.inl rfl) ?_
    obtain ⟨s73, H74⟩ := H72
    refine Wp.iald d_M_about_152 rfl (Or.inl rfl) s73.1 s73.2 ?_
    exact Wq.iret d_M_about_153 rfl H74
  obtain ⟨H75, H76⟩ := H70
  by_cases c77 : x1 = 12
  · have H78 := H75 c77
    refine Wp.tin (off := 153) 12 154 d_M_about_1 c77 (by decide +kernel) (by decide +kernel) (by decide +kernel) (by decide +kernel) ?_
    refine Wp.aload_n 0 0 d_M_about_154 rfl rfl ?_
    refine Wq.getI 48 rfl d_M_about_155 fl_M_369 rfl (Or.inl rfl) ?_
    exact Wq.iret d_M_about_158 rfl H78
  obtain ⟨H79, H80⟩ := H76
  by_cases c81 : x1 = 13
  · have H82 := H79 c81
    refine Wp.tin (off := 158) 13 159 d_M_about_1 c81 (by decide +kernel) (by decide +kernel) (by decide +kernel) (by decide +kernel) ?_
    refine Wp.aload_n 0 0 d_M_about_159 rfl rfl ?_
    refine Wp.getP 76 d_M_about_160 fl_M_30 rfl rfl rfl ?_
    refine Wp.aload_n 0 0 d_M_about_163 rfl rfl ?_
    refine Wq.getI 28 rfl d_M_about_164 fl_M_243 rfl (Or.inl rfl) ?_
    obtain ⟨s83, H84⟩ := H82
    refine Wp.iald d_M_about_167 rfl (Or.inl rfl) s83.1 s83.2 ?_
    exact Wq.iret d_M_about_168 rfl H84
  obtain ⟨H85, H86⟩ := H80
  by_cases c87 : x1 = 14
  · have H88 := H85 c87
    refine Wp.tin (off := 168) 14 169 d_M_about_1 c87 (by decide +kernel) (by decide +kernel) (by decide +kernel) (by decide +kernel) ?_
    refine Wp.aload_n 0 0 d_M_about_169 rfl rfl ?_
    obtain ⟨e89, P90, hd91, ho92, H93⟩ := H88
    refine Wq.VI (st := []) [] d_M_about_170 k_M_over ml_M_421 rfl rfl rfl (fun h => by cases h) (Nat.le_of_ble_eq_true rfl) hd91 ho92 (fun z95 m96 hp97 hz98 hw99 => ?_)
    have H94 := H93 z95 m96 hp97 hz98 hw99
    obtain ⟨H101, H102⟩ := H94
    refine Wp.if_ne 180 d_M_about_173 (by decide) (fun c100 => ?_) (fun c100 => ?_)
    · have H103 := H101 c100
      refine Wp.iconst d_M_about_180 (by decide) ?_
      exact Wq.iret d_M_about_181 rfl H103
    · have H104 := H102 c100
      refine Wp.iconst d_M_about_176 (by decide) ?_
      refine Wp.goto 181 d_M_about_177 (by decide) ?_
      exact Wq.iret d_M_about_181 rfl H104
  have H105 := H86 c3 c18 c24 c39 c43 c47 c51 c55 c59 c63 c67 c71 c77 c81 c87
  have ho1 : x1 < 0 ∨ 14 < x1 := (lt_or_geI x1 0).elim Or.inl (fun h9 => Or.inr (Int.lt_of_lt_of_le (by decide +kernel) (ne_step (ne_step (ne_step (ne_step (ne_step (ne_step (ne_step (ne_step (ne_step (ne_step (ne_step (ne_step (ne_step (ne_step (ne_step h9 c3) c18) c24) c39) c43) c47) c51) c55) c59) c63) c67) c71) c77) c81) c87)))
  refine Wp.tout 182 d_M_about_1 ho1 (by decide +kernel) ?_
  refine Wp.iconst d_M_about_182 (by decide) ?_
  exact Wq.iret d_M_about_183 rfl H105
theorem d_M_feed_0 : decode Y_M_feed.2.1 0 = .ok (.aload_n 0, 1) := by decide +kernel
theorem d_M_feed_1 : decode Y_M_feed.2.1 1 = .ok (.getfield 240, 3) := by decide +kernel
theorem d_M_feed_4 : decode Y_M_feed.2.1 4 = .ok (.bipush 20, 2) := by decide +kernel
theorem d_M_feed_6 : decode Y_M_feed.2.1 6 = .ok (.iadd, 1) := by decide +kernel
theorem d_M_feed_7 : decode Y_M_feed.2.1 7 = .ok (.sipush 1600, 3) := by decide +kernel
theorem d_M_feed_10 : decode Y_M_feed.2.1 10 = .ok (.if_icmp .le 5, 3) := by decide +kernel
theorem d_M_feed_13 : decode Y_M_feed.2.1 13 = .ok (.iconst (-1), 1) := by decide +kernel
theorem d_M_feed_14 : decode Y_M_feed.2.1 14 = .ok (.ireturn, 1) := by decide +kernel
theorem d_M_feed_15 : decode Y_M_feed.2.1 15 = .ok (.iconst 0, 1) := by decide +kernel
theorem d_M_feed_16 : decode Y_M_feed.2.1 16 = .ok (.istore 6, 2) := by decide +kernel
theorem d_M_feed_18 : decode Y_M_feed.2.1 18 = .ok (.iload 6, 2) := by decide +kernel
theorem d_M_feed_20 : decode Y_M_feed.2.1 20 = .ok (.bipush 20, 2) := by decide +kernel
theorem d_M_feed_22 : decode Y_M_feed.2.1 22 = .ok (.if_icmp .ge 83, 3) := by decide +kernel
theorem d_M_feed_25 : decode Y_M_feed.2.1 25 = .ok (.iload 6, 2) := by decide +kernel
theorem d_M_feed_27 : decode Y_M_feed.2.1 27 = .ok (.iconst 4, 1) := by decide +kernel
theorem d_M_feed_28 : decode Y_M_feed.2.1 28 = .ok (.if_icmp .ge 7, 3) := by decide +kernel
theorem d_M_feed_31 : decode Y_M_feed.2.1 31 = .ok (.iload_n 1, 1) := by decide +kernel
theorem d_M_feed_32 : decode Y_M_feed.2.1 32 = .ok (.goto 39, 3) := by decide +kernel
theorem d_M_feed_35 : decode Y_M_feed.2.1 35 = .ok (.iload 6, 2) := by decide +kernel
theorem d_M_feed_37 : decode Y_M_feed.2.1 37 = .ok (.bipush 8, 2) := by decide +kernel
theorem d_M_feed_39 : decode Y_M_feed.2.1 39 = .ok (.if_icmp .ge 7, 3) := by decide +kernel
theorem d_M_feed_42 : decode Y_M_feed.2.1 42 = .ok (.iload_n 2, 1) := by decide +kernel
theorem d_M_feed_43 : decode Y_M_feed.2.1 43 = .ok (.goto 28, 3) := by decide +kernel
theorem d_M_feed_46 : decode Y_M_feed.2.1 46 = .ok (.iload 6, 2) := by decide +kernel
theorem d_M_feed_48 : decode Y_M_feed.2.1 48 = .ok (.bipush 12, 2) := by decide +kernel
theorem d_M_feed_50 : decode Y_M_feed.2.1 50 = .ok (.if_icmp .ge 7, 3) := by decide +kernel
theorem d_M_feed_53 : decode Y_M_feed.2.1 53 = .ok (.iload_n 3, 1) := by decide +kernel
theorem d_M_feed_54 : decode Y_M_feed.2.1 54 = .ok (.goto 17, 3) := by decide +kernel
theorem d_M_feed_57 : decode Y_M_feed.2.1 57 = .ok (.iload 6, 2) := by decide +kernel
theorem d_M_feed_59 : decode Y_M_feed.2.1 59 = .ok (.bipush 16, 2) := by decide +kernel
theorem d_M_feed_61 : decode Y_M_feed.2.1 61 = .ok (.if_icmp .ge 8, 3) := by decide +kernel
theorem d_M_feed_64 : decode Y_M_feed.2.1 64 = .ok (.iload 4, 2) := by decide +kernel
theorem d_M_feed_66 : decode Y_M_feed.2.1 66 = .ok (.goto 5, 3) := by decide +kernel
theorem d_M_feed_69 : decode Y_M_feed.2.1 69 = .ok (.iload 5, 2) := by decide +kernel
theorem d_M_feed_71 : decode Y_M_feed.2.1 71 = .ok (.istore 7, 2) := by decide +kernel
theorem d_M_feed_73 : decode Y_M_feed.2.1 73 = .ok (.aload_n 0, 1) := by decide +kernel
theorem d_M_feed_74 : decode Y_M_feed.2.1 74 = .ok (.getfield 7, 3) := by decide +kernel
theorem d_M_feed_77 : decode Y_M_feed.2.1 77 = .ok (.aload_n 0, 1) := by decide +kernel
theorem d_M_feed_78 : decode Y_M_feed.2.1 78 = .ok (.getfield 240, 3) := by decide +kernel
theorem d_M_feed_81 : decode Y_M_feed.2.1 81 = .ok (.iload 6, 2) := by decide +kernel
theorem d_M_feed_83 : decode Y_M_feed.2.1 83 = .ok (.iadd, 1) := by decide +kernel
theorem d_M_feed_84 : decode Y_M_feed.2.1 84 = .ok (.iload 7, 2) := by decide +kernel
theorem d_M_feed_86 : decode Y_M_feed.2.1 86 = .ok (.bipush 24, 2) := by decide +kernel
theorem d_M_feed_88 : decode Y_M_feed.2.1 88 = .ok (.bipush 8, 2) := by decide +kernel
theorem d_M_feed_90 : decode Y_M_feed.2.1 90 = .ok (.iload 6, 2) := by decide +kernel
theorem d_M_feed_92 : decode Y_M_feed.2.1 92 = .ok (.iconst 3, 1) := by decide +kernel
theorem d_M_feed_93 : decode Y_M_feed.2.1 93 = .ok (.iand, 1) := by decide +kernel
theorem d_M_feed_94 : decode Y_M_feed.2.1 94 = .ok (.imul, 1) := by decide +kernel
theorem d_M_feed_95 : decode Y_M_feed.2.1 95 = .ok (.isub, 1) := by decide +kernel
theorem d_M_feed_96 : decode Y_M_feed.2.1 96 = .ok (.ishr, 1) := by decide +kernel
theorem d_M_feed_97 : decode Y_M_feed.2.1 97 = .ok (.i2b, 1) := by decide +kernel
theorem d_M_feed_98 : decode Y_M_feed.2.1 98 = .ok (.bastore, 1) := by decide +kernel
theorem d_M_feed_99 : decode Y_M_feed.2.1 99 = .ok (.iinc 6 1, 3) := by decide +kernel
theorem d_M_feed_102 : decode Y_M_feed.2.1 102 = .ok (.goto (-84), 3) := by decide +kernel
theorem d_M_feed_105 : decode Y_M_feed.2.1 105 = .ok (.aload_n 0, 1) := by decide +kernel
theorem d_M_feed_106 : decode Y_M_feed.2.1 106 = .ok (.dup, 1) := by decide +kernel
theorem d_M_feed_107 : decode Y_M_feed.2.1 107 = .ok (.getfield 240, 3) := by decide +kernel
theorem d_M_feed_110 : decode Y_M_feed.2.1 110 = .ok (.bipush 20, 2) := by decide +kernel
theorem d_M_feed_112 : decode Y_M_feed.2.1 112 = .ok (.iadd, 1) := by decide +kernel
theorem d_M_feed_113 : decode Y_M_feed.2.1 113 = .ok (.putfield 240, 3) := by decide +kernel
theorem d_M_feed_116 : decode Y_M_feed.2.1 116 = .ok (.aload_n 0, 1) := by decide +kernel
theorem d_M_feed_117 : decode Y_M_feed.2.1 117 = .ok (.getfield 240, 3) := by decide +kernel
theorem d_M_feed_120 : decode Y_M_feed.2.1 120 = .ok (.ireturn, 1) := by decide +kernel
theorem e_M_feed {l : Launch} {G : GT} {d : Nat} {P : Int → MM → Prop} {m : MM} (x1 : Int) (x2 : Int) (x3 : Int) (x4 : Int) (x5 : Int)  (H : wfM m → inR x1 → inR x2 → inR x3 → inR x4 → inR x5 → (inR ((m 70 2) + 20)) ∧ ((((m 70 2) + 20) ≤ 1600 → (Wq l G false Y_M_feed d (QI P) 18 [(0, .inr (.inr 70)), (1, .inl x1), (2, .inl x2), (3, .inl x3), (4, .inl x4), (5, .inl x5), (6, .inl 0)] [] m)) ∧ (¬ (((m 70 2) + 20) ≤ 1600) → (P (-1) m)))) : CI l G Y_M_feed d [.inr (.inr 70), .inl x1, .inl x2, .inl x3, .inl x4, .inl x5] m P := by
  refine CI.of [(0, .inr (.inr 70)), (1, .inl x1), (2, .inl x2), (3, .inl x3), (4, .inl x4), (5, .inl x5)] k_M_feed.1 (Nat.le_of_ble_eq_true rfl) rfl (Wp.wf (fun hw _ hl hs => ?_))
  have H0 := H hw (hl _ (List.mem_of_getElem? (i := 1) rfl)) (hl _ (List.mem_of_getElem? (i := 2) rfl)) (hl _ (List.mem_of_getElem? (i := 3) rfl)) (hl _ (List.mem_of_getElem? (i := 4) rfl)) (hl _ (List.mem_of_getElem? (i := 5) rfl))
  refine Wp.aload_n 0 0 d_M_feed_0 rfl rfl ?_
  refine Wq.getI 2 rfl d_M_feed_1 fl_M_240 rfl (Or.inl rfl) ?_
  refine Wp.bipush d_M_feed_4 (by decide) (by decide) ?_
  obtain ⟨s1, H2⟩ := H0
  refine Wp.iadd d_M_feed_6 s1 ?_
  refine Wp.sipush d_M_feed_7 (by decide) (by decide) ?_
  obtain ⟨H4, H5⟩ := H2
  refine Wp.icmp_le 15 d_M_feed_10 (by decide) (fun c3 => ?_) (fun c3 => ?_)
  · have H6 := H4 c3
    refine Wp.iconst d_M_feed_15 (by decide) ?_
    refine Wp.istore 6 [(0, .inr (.inr 70)), (1, .inl x1), (2, .inl x2), (3, .inl x3), (4, .inl x4), (5, .inl x5), (6, .inl 0)] d_M_feed_16 (by decide) rfl ?_
    exact H6
  · have H7 := H5 c3
    refine Wp.iconst d_M_feed_13 (by decide) ?_
    exact Wq.iret d_M_feed_14 rfl H7
theorem s_M_feed_18 {l : Launch} {G : GT} {d : Nat} {P : Int → MM → Prop} {m : MM} (x1 : Int) (x2 : Int) (x3 : Int) (x4 : Int) (x5 : Int) (x6 : Int)  (H : wfM m → inR x1 → inR x2 → inR x3 → inR x4 → inR x5 → inR x6 → (x6 ≥ 20 → ((inR ((m 70 2) + 20)) ∧ (∀ m8, m8 = up m 70 2 ((m 70 2) + 20) → (P (m8 70 2) m8)))) ∧ (¬ (x6 ≥ 20) → ((x6 ≥ 4 → ((x6 ≥ 8 → ((x6 ≥ 12 → ((x6 ≥ 16 → ((inR ((m 70 2) + x6)) ∧ ((inR (8 * (bAnd x6 3))) ∧ ((inR (24 - (8 * (bAnd x6 3)))) ∧ ((0 ≤ ((m 70 2) + x6) ∧ ((m 70 2) + x6) < (1620 : Int)) ∧ ((-128 ≤ (bI2b (bShr x5 (24 - (8 * (bAnd x6 3))))) ∧ (bI2b (bShr x5 (24 - (8 * (bAnd x6 3))))) < 128) ∧ (∀ m37, m37 = up m 71 ((m 70 2) + x6) (bI2b (bShr x5 (24 - (8 * (bAnd x6 3))))) → ((inR (x6 + 1)) ∧ (Wq l G false Y_M_feed d (QI P) 18 [(0, .inr (.inr 70)), (1, .inl x1), (2, .inl x2), (3, .inl x3), (4, .inl x4), (5, .inl x5), (6, .inl (x6 + 1))] [] m37))))))))) ∧ (¬ (x6 ≥ 16) → ((inR ((m 70 2) + x6)) ∧ ((inR (8 * (bAnd x6 3))) ∧ ((inR (24 - (8 * (bAnd x6 3)))) ∧ ((0 ≤ ((m 70 2) + x6) ∧ ((m 70 2) + x6) < (1620 : Int)) ∧ ((-128 ≤ (bI2b (bShr x4 (24 - (8 * (bAnd x6 3))))) ∧ (bI2b (bShr x4 (24 - (8 * (bAnd x6 3))))) < 128) ∧ (∀ m54, m54 = up m 71 ((m 70 2) + x6) (bI2b (bShr x4 (24 - (8 * (bAnd x6 3))))) → ((inR (x6 + 1)) ∧ (Wq l G false Y_M_feed d (QI P) 18 [(0, .inr (.inr 70)), (1, .inl x1), (2, .inl x2), (3, .inl x3), (4, .inl x4), (5, .inl x5), (6, .inl (x6 + 1))] [] m54))))))))))) ∧ (¬ (x6 ≥ 12) → ((inR ((m 70 2) + x6)) ∧ ((inR (8 * (bAnd x6 3))) ∧ ((inR (24 - (8 * (bAnd x6 3)))) ∧ ((0 ≤ ((m 70 2) + x6) ∧ ((m 70 2) + x6) < (1620 : Int)) ∧ ((-128 ≤ (bI2b (bShr x3 (24 - (8 * (bAnd x6 3))))) ∧ (bI2b (bShr x3 (24 - (8 * (bAnd x6 3))))) < 128) ∧ (∀ m71, m71 = up m 71 ((m 70 2) + x6) (bI2b (bShr x3 (24 - (8 * (bAnd x6 3))))) → ((inR (x6 + 1)) ∧ (Wq l G false Y_M_feed d (QI P) 18 [(0, .inr (.inr 70)), (1, .inl x1), (2, .inl x2), (3, .inl x3), (4, .inl x4), (5, .inl x5), (6, .inl (x6 + 1))] [] m71))))))))))) ∧ (¬ (x6 ≥ 8) → ((inR ((m 70 2) + x6)) ∧ ((inR (8 * (bAnd x6 3))) ∧ ((inR (24 - (8 * (bAnd x6 3)))) ∧ ((0 ≤ ((m 70 2) + x6) ∧ ((m 70 2) + x6) < (1620 : Int)) ∧ ((-128 ≤ (bI2b (bShr x2 (24 - (8 * (bAnd x6 3))))) ∧ (bI2b (bShr x2 (24 - (8 * (bAnd x6 3))))) < 128) ∧ (∀ m88, m88 = up m 71 ((m 70 2) + x6) (bI2b (bShr x2 (24 - (8 * (bAnd x6 3))))) → ((inR (x6 + 1)) ∧ (Wq l G false Y_M_feed d (QI P) 18 [(0, .inr (.inr 70)), (1, .inl x1), (2, .inl x2), (3, .inl x3), (4, .inl x4), (5, .inl x5), (6, .inl (x6 + 1))] [] m88))))))))))) ∧ (¬ (x6 ≥ 4) → ((inR ((m 70 2) + x6)) ∧ ((inR (8 * (bAnd x6 3))) ∧ ((inR (24 - (8 * (bAnd x6 3)))) ∧ ((0 ≤ ((m 70 2) + x6) ∧ ((m 70 2) + x6) < (1620 : Int)) ∧ ((-128 ≤ (bI2b (bShr x1 (24 - (8 * (bAnd x6 3))))) ∧ (bI2b (bShr x1 (24 - (8 * (bAnd x6 3))))) < 128) ∧ (∀ m105, m105 = up m 71 ((m 70 2) + x6) (bI2b (bShr x1 (24 - (8 * (bAnd x6 3))))) → ((inR (x6 + 1)) ∧ (Wq l G false Y_M_feed d (QI P) 18 [(0, .inr (.inr 70)), (1, .inl x1), (2, .inl x2), (3, .inl x3), (4, .inl x4), (5, .inl x5), (6, .inl (x6 + 1))] [] m105)))))))))))) : Wq l G false Y_M_feed d (QI P) 18 [(0, .inr (.inr 70)), (1, .inl x1), (2, .inl x2), (3, .inl x3), (4, .inl x4), (5, .inl x5), (6, .inl x6)] [] m := by
  refine Wp.wf (fun hw _ hl hs => ?_)
  have H0 := H hw (hl _ (List.mem_of_getElem? (i := 1) rfl)) (hl _ (List.mem_of_getElem? (i := 2) rfl)) (hl _ (List.mem_of_getElem? (i := 3) rfl)) (hl _ (List.mem_of_getElem? (i := 4) rfl)) (hl _ (List.mem_of_getElem? (i := 5) rfl)) (hl _ (List.mem_of_getElem? (i := 6) rfl))
  refine Wp.iload 6 6 d_M_feed_18 rfl ?_
  refine Wp.bipush d_M_feed_20 (by decide) (by decide) ?_
  obtain ⟨H2, H3⟩ := H0
  refine Wp.icmp_ge 105 d_M_feed_22 (by decide) (fun c1 => ?_) (fun c1 => ?_)
  · have H4 := H2 c1
    refine Wp.aload_n 0 0 d_M_feed_105 rfl rfl ?_
    refine Wp.dup d_M_feed_106 rfl ?_
    refine Wq.getI 2 rfl d_M_feed_107 fl_M_240 rfl (Or.inl rfl) ?_
    refine Wp.bipush d_M_feed_110 (by decide) (by decide) ?_
    obtain ⟨s6, H7⟩ := H4
    refine Wp.iadd d_M_feed_112 s6 ?_
    refine Wq.putI 2 rfl d_M_feed_113 fl_M_240 (fun _ _ _ h => by cases h; rfl) rfl rfl rfl (fun m8 hm9 => ?_)
    have H10 := H7 m8 hm9
    refine Wp.aload_n 0 0 d_M_feed_116 rfl rfl ?_
    refine Wq.getI 2 rfl d_M_feed_117 fl_M_240 rfl (Or.inl rfl) ?_
    exact Wq.iret d_M_feed_120 rfl H10
  · have H5 := H3 c1
    refine Wp.iload 6 6 d_M_feed_25 rfl ?_
    refine Wp.iconst d_M_feed_27 (by decide) ?_
    obtain ⟨H12, H13⟩ := H5
    refine Wp.icmp_ge 35 d_M_feed_28 (by decide) (fun c11 => ?_) (fun c11 => ?_)
    · have H14 := H12 c11
      refine Wp.iload 6 6 d_M_feed_35 rfl ?_
      refine Wp.bipush d_M_feed_37 (by decide) (by decide) ?_
      obtain ⟨H17, H18⟩ := H14
      refine Wp.icmp_ge 46 d_M_feed_39 (by decide) (fun c16 => ?_) (fun c16 => ?_)
      · have H19 := H17 c16
        refine Wp.iload 6 6 d_M_feed_46 rfl ?_
        refine Wp.bipush d_M_feed_48 (by decide) (by decide) ?_
        obtain ⟨H22, H23⟩ := H19
        refine Wp.icmp_ge 57 d_M_feed_50 (by decide) (fun c21 => ?_) (fun c21 => ?_)
        · have H24 := H22 c21
          refine Wp.iload 6 6 d_M_feed_57 rfl ?_
          refine Wp.bipush d_M_feed_59 (by decide) (by decide) ?_
          obtain ⟨H27, H28⟩ := H24
          refine Wp.icmp_ge 69 d_M_feed_61 (by decide) (fun c26 => ?_) (fun c26 => ?_)
          · have H29 := H27 c26
            refine Wp.iload 5 5 d_M_feed_69 rfl ?_
            refine Wp.istore 7 [(0, .inr (.inr 70)), (1, .inl x1), (2, .inl x2), (3, .inl x3), (4, .inl x4), (5, .inl x5), (6, .inl x6), (7, .inl x5)] d_M_feed_71 (by decide) rfl ?_
            refine Wp.aload_n 0 0 d_M_feed_73 rfl rfl ?_
            refine Wp.getP 71 d_M_feed_74 fl_M_7 rfl rfl rfl ?_
            refine Wp.aload_n 0 0 d_M_feed_77 rfl rfl ?_
            refine Wq.getI 2 rfl d_M_feed_78 fl_M_240 rfl (Or.inl rfl) ?_
            refine Wp.iload 6 6 d_M_feed_81 rfl ?_
            obtain ⟨s31, H32⟩ := H29
            refine Wp.iadd d_M_feed_83 s31 ?_
            refine Wp.iload 7 7 d_M_feed_84 rfl ?_
            refine Wp.bipush d_M_feed_86 (by decide) (by decide) ?_
            refine Wp.bipush d_M_feed_88 (by decide) (by decide) ?_
            refine Wp.iload 6 6 d_M_feed_90 rfl ?_
            refine Wp.iconst d_M_feed_92 (by decide) ?_
            refine Wp.iand d_M_feed_93 ?_
            obtain ⟨s33, H34⟩ := H32
            refine Wp.imul d_M_feed_94 s33 ?_
            obtain ⟨s35, H36⟩ := H34
            refine Wp.isub d_M_feed_95 s35 ?_
            refine Wp.ishr d_M_feed_96 ?_
            refine Wp.i2b d_M_feed_97 ?_
            obtain ⟨s44, H45⟩ := H36
            obtain ⟨s46, H47⟩ := H45
            refine Wq.bast d_M_feed_98 rfl s44.1 s44.2 s46 (fun m37 hm38 => ?_)
            have H39 := H47 m37 hm38
            obtain ⟨s42, H43⟩ := H39
            refine Wp.iinc 6 6 [(0, .inr (.inr 70)), (1, .inl x1), (2, .inl x2), (3, .inl x3), (4, .inl x4), (5, .inl x5), (6, .inl (x6 + 1)), (7, .inl x5)] d_M_feed_99 rfl s42 (by decide) rfl ?_
            refine Wp.goto 18 d_M_feed_102 (by decide) ?_
            refine Wp.pick [0, 1, 2, 3, 4, 5, 6] [(0, .inr (.inr 70)), (1, .inl x1), (2, .inl x2), (3, .inl x3), (4, .inl x4), (5, .inl x5), (6, .inl (x6 + 1))] rfl ?_
            exact H43
          · have H30 := H28 c26
            refine Wp.iload 4 4 d_M_feed_64 rfl ?_
            refine Wp.goto 71 d_M_feed_66 (by decide) ?_
            refine Wp.istore 7 [(0, .inr (.inr 70)), (1, .inl x1), (2, .inl x2), (3, .inl x3), (4, .inl x4), (5, .inl x5), (6, .inl x6), (7, .inl x4)] d_M_feed_71 (by decide) rfl ?_
            refine Wp.aload_n 0 0 d_M_feed_73 rfl rfl ?_
            refine Wp.getP 71 d_M_feed_74 fl_M_7 rfl rfl rfl ?_
            refine Wp.aload_n 0 0 d_M_feed_77 rfl rfl ?_
            refine Wq.getI 2 rfl d_M_feed_78 fl_M_240 rfl (Or.inl rfl) ?_
            refine Wp.iload 6 6 d_M_feed_81 rfl ?_
            obtain ⟨s48, H49⟩ := H30
            refine Wp.iadd d_M_feed_83 s48 ?_
            refine Wp.iload 7 7 d_M_feed_84 rfl ?_
            refine Wp.bipush d_M_feed_86 (by decide) (by decide) ?_
            refine Wp.bipush d_M_feed_88 (by decide) (by decide) ?_
            refine Wp.iload 6 6 d_M_feed_90 rfl ?_
            refine Wp.iconst d_M_feed_92 (by decide) ?_
            refine Wp.iand d_M_feed_93 ?_
            obtain ⟨s50, H51⟩ := H49
            refine Wp.imul d_M_feed_94 s50 ?_
            obtain ⟨s52, H53⟩ := H51
            refine Wp.isub d_M_feed_95 s52 ?_
            refine Wp.ishr d_M_feed_96 ?_
            refine Wp.i2b d_M_feed_97 ?_
            obtain ⟨s61, H62⟩ := H53
            obtain ⟨s63, H64⟩ := H62
            refine Wq.bast d_M_feed_98 rfl s61.1 s61.2 s63 (fun m54 hm55 => ?_)
            have H56 := H64 m54 hm55
            obtain ⟨s59, H60⟩ := H56
            refine Wp.iinc 6 6 [(0, .inr (.inr 70)), (1, .inl x1), (2, .inl x2), (3, .inl x3), (4, .inl x4), (5, .inl x5), (6, .inl (x6 + 1)), (7, .inl x4)] d_M_feed_99 rfl s59 (by decide) rfl ?_
            refine Wp.goto 18 d_M_feed_102 (by decide) ?_
            refine Wp.pick [0, 1, 2, 3, 4, 5, 6] [(0, .inr (.inr 70)), (1, .inl x1), (2, .inl x2), (3, .inl x3), (4, .inl x4), (5, .inl x5), (6, .inl (x6 + 1))] rfl ?_
            exact H60
        · have H25 := H23 c21
          refine Wp.iload_n 3 3 d_M_feed_53 rfl rfl ?_
          refine Wp.goto 71 d_M_feed_54 (by decide) ?_
          refine Wp.istore 7 [(0, .inr (.inr 70)), (1, .inl x1), (2, .inl x2), (3, .inl x3), (4, .inl x4), (5, .inl x5), (6, .inl x6), (7, .inl x3)] d_M_feed_71 (by decide) rfl ?_
          refine Wp.aload_n 0 0 d_M_feed_73 rfl rfl ?_
          refine Wp.getP 71 d_M_feed_74 fl_M_7 rfl rfl rfl ?_
          refine Wp.aload_n 0 0 d_M_feed_77 rfl rfl ?_
          refine Wq.getI 2 rfl d_M_feed_78 fl_M_240 rfl (Or.inl rfl) ?_
          refine Wp.iload 6 6 d_M_feed_81 rfl ?_
          obtain ⟨s65, H66⟩ := H25
          refine Wp.iadd d_M_feed_83 s65 ?_
          refine Wp.iload 7 7 d_M_feed_84 rfl ?_
          refine Wp.bipush d_M_feed_86 (by decide) (by decide) ?_
          refine Wp.bipush d_M_feed_88 (by decide) (by decide) ?_
          refine Wp.iload 6 6 d_M_feed_90 rfl ?_
          refine Wp.iconst d_M_feed_92 (by decide) ?_
          refine Wp.iand d_M_feed_93 ?_
          obtain ⟨s67, H68⟩ := H66
          refine Wp.imul d_M_feed_94 s67 ?_
          obtain ⟨s69, H70⟩ := H68
          refine Wp.isub d_M_feed_95 s69 ?_
          refine Wp.ishr d_M_feed_96 ?_
          refine Wp.i2b d_M_feed_97 ?_
          obtain ⟨s78, H79⟩ := H70
          obtain ⟨s80, H81⟩ := H79
          refine Wq.bast d_M_feed_98 rfl s78.1 s78.2 s80 (fun m71 hm72 => ?_)
          have H73 := H81 m71 hm72
          obtain ⟨s76, H77⟩ := H73
          refine Wp.iinc 6 6 [(0, .inr (.inr 70)), (1, .inl x1), (2, .inl x2), (3, .inl x3), (4, .inl x4), (5, .inl x5), (6, .inl (x6 + 1)), (7, .inl x3)] d_M_feed_99 rfl s76 (by decide) rfl ?_
          refine Wp.goto 18 d_M_feed_102 (by decide) ?_
          refine Wp.pick [0, 1, 2, 3, 4, 5, 6] [(0, .inr (.inr 70)), (1, .inl x1), (2, .inl x2), (3, .inl x3), (4, .inl x4), (5, .inl x5), (6, .inl (x6 + 1))] rfl ?_
          exact H77
      · have H20 := H18 c16
        refine Wp.iload_n 2 2 d_M_feed_42 rfl rfl ?_
        refine Wp.goto 71 d_M_feed_43 (by decide) ?_
        refine Wp.istore 7 [(0, .inr (.inr 70)), (1, .inl x1), (2, .inl x2), (3, .inl x3), (4, .inl x4), (5, .inl x5), (6, .inl x6), (7, .inl x2)] d_M_feed_71 (by decide) rfl ?_
        refine Wp.aload_n 0 0 d_M_feed_73 rfl rfl ?_
        refine Wp.getP 71 d_M_feed_74 fl_M_7 rfl rfl rfl ?_
        refine Wp.aload_n 0 0 d_M_feed_77 rfl rfl ?_
        refine Wq.getI 2 rfl d_M_feed_78 fl_M_240 rfl (Or.inl rfl) ?_
        refine Wp.iload 6 6 d_M_feed_81 rfl ?_
        obtain ⟨s82, H83⟩ := H20
        refine Wp.iadd d_M_feed_83 s82 ?_
        refine Wp.iload 7 7 d_M_feed_84 rfl ?_
        refine Wp.bipush d_M_feed_86 (by decide) (by decide) ?_
        refine Wp.bipush d_M_feed_88 (by decide) (by decide) ?_
        refine Wp.iload 6 6 d_M_feed_90 rfl ?_
        refine Wp.iconst d_M_feed_92 (by decide) ?_
        refine Wp.iand d_M_feed_93 ?_
        obtain ⟨s84, H85⟩ := H83
        refine Wp.imul d_M_feed_94 s84 ?_
        obtain ⟨s86, H87⟩ := H85
        refine Wp.isub d_M_feed_95 s86 ?_
        refine Wp.ishr d_M_feed_96 ?_
        refine Wp.i2b d_M_feed_97 ?_
        obtain ⟨s95, H96⟩ := H87
        obtain ⟨s97, H98⟩ := H96
        refine Wq.bast d_M_feed_98 rfl s95.1 s95.2 s97 (fun m88 hm89 => ?_)
        have H90 := H98 m88 hm89
        obtain ⟨s93, H94⟩ := H90
        refine Wp.iinc 6 6 [(0, .inr (.inr 70)), (1, .inl x1), (2, .inl x2), (3, .inl x3), (4, .inl x4), (5, .inl x5), (6, .inl (x6 + 1)), (7, .inl x2)] d_M_feed_99 rfl s93 (by decide) rfl ?_
        refine Wp.goto 18 d_M_feed_102 (by decide) ?_
        refine Wp.pick [0, 1, 2, 3, 4, 5, 6] [(0, .inr (.inr 70)), (1, .inl x1), (2, .inl x2), (3, .inl x3), (4, .inl x4), (5, .inl x5), (6, .inl (x6 + 1))] rfl ?_
        exact H94
    · have H15 := H13 c11
      refine Wp.iload_n 1 1 d_M_feed_31 rfl rfl ?_
      refine Wp.goto 71 d_M_feed_32 (by decide) ?_
      refine Wp.istore 7 [(0, .inr (.inr 70)), (1, .inl x1), (2, .inl x2), (3, .inl x3), (4, .inl x4), (5, .inl x5), (6, .inl x6), (7, .inl x1)] d_M_feed_71 (by decide) rfl ?_
      refine Wp.aload_n 0 0 d_M_feed_73 rfl rfl ?_
      refine Wp.getP 71 d_M_feed_74 fl_M_7 rfl rfl rfl ?_
      refine Wp.aload_n 0 0 d_M_feed_77 rfl rfl ?_
      refine Wq.getI 2 rfl d_M_feed_78 fl_M_240 rfl (Or.inl rfl) ?_
      refine Wp.iload 6 6 d_M_feed_81 rfl ?_
      obtain ⟨s99, H100⟩ := H15
      refine Wp.iadd d_M_feed_83 s99 ?_
      refine Wp.iload 7 7 d_M_feed_84 rfl ?_
      refine Wp.bipush d_M_feed_86 (by decide) (by decide) ?_
      refine Wp.bipush d_M_feed_88 (by decide) (by decide) ?_
      refine Wp.iload 6 6 d_M_feed_90 rfl ?_
      refine Wp.iconst d_M_feed_92 (by decide) ?_
      refine Wp.iand d_M_feed_93 ?_
      obtain ⟨s101, H102⟩ := H100
      refine Wp.imul d_M_feed_94 s101 ?_
      obtain ⟨s103, H104⟩ := H102
      refine Wp.isub d_M_feed_95 s103 ?_
      refine Wp.ishr d_M_feed_96 ?_
      refine Wp.i2b d_M_feed_97 ?_
      obtain ⟨s112, H113⟩ := H104
      obtain ⟨s114, H115⟩ := H113
      refine Wq.bast d_M_feed_98 rfl s112.1 s112.2 s114 (fun m105 hm106 => ?_)
      have H107 := H115 m105 hm106
      obtain ⟨s110, H111⟩ := H107
      refine Wp.iinc 6 6 [(0, .inr (.inr 70)), (1, .inl x1), (2, .inl x2), (3, .inl x3), (4, .inl x4), (5, .inl x5), (6, .inl (x6 + 1)), (7, .inl x1)] d_M_feed_99 rfl s110 (by decide) rfl ?_
      refine Wp.goto 18 d_M_feed_102 (by decide) ?_
      refine Wp.pick [0, 1, 2, 3, 4, 5, 6] [(0, .inr (.inr 70)), (1, .inl x1), (2, .inl x2), (3, .inl x3), (4, .inl x4), (5, .inl x5), (6, .inl (x6 + 1))] rfl ?_
      exact H111
theorem d_M_end_0 : decode Y_M_end.2.1 0 = .ok (.iload_n 1, 1) := by decide +kernel
theorem d_M_end_1 : decode Y_M_end.2.1 1 = .ok (.ifCond .lt 11, 3) := by decide +kernel
theorem d_M_end_4 : decode Y_M_end.2.1 4 = .ok (.iload_n 1, 1) := by decide +kernel
theorem d_M_end_5 : decode Y_M_end.2.1 5 = .ok (.aload_n 0, 1) := by decide +kernel
theorem d_M_end_6 : decode Y_M_end.2.1 6 = .ok (.getfield 240, 3) := by decide +kernel
theorem d_M_end_9 : decode Y_M_end.2.1 9 = .ok (.if_icmp .le 5, 3) := by decide +kernel
theorem d_M_end_12 : decode Y_M_end.2.1 12 = .ok (.iconst (-1), 1) := by decide +kernel
theorem d_M_end_13 : decode Y_M_end.2.1 13 = .ok (.ireturn, 1) := by decide +kernel
theorem d_M_end_14 : decode Y_M_end.2.1 14 = .ok (.aload_n 0, 1) := by decide +kernel
theorem d_M_end_15 : decode Y_M_end.2.1 15 = .ok (.iload_n 1, 1) := by decide +kernel
theorem d_M_end_16 : decode Y_M_end.2.1 16 = .ok (.putfield 240, 3) := by decide +kernel
theorem d_M_end_19 : decode Y_M_end.2.1 19 = .ok (.iload_n 1, 1) := by decide +kernel
theorem d_M_end_20 : decode Y_M_end.2.1 20 = .ok (.ireturn, 1) := by decide +kernel
theorem e_M_end {l : Launch} {G : GT} {d : Nat} {P : Int → MM → Prop} {m : MM} (x1 : Int)  (H : wfM m → inR x1 → (x1 < 0 → (P (-1) m)) ∧ (¬ (x1 < 0) → ((x1 ≤ (m 70 2) → (∀ m11, m11 = up m 70 2 x1 → (P x1 m11))) ∧ (¬ (x1 ≤ (m 70 2)) → (P (-1) m))))) : CI l G Y_M_end d [.inr (.inr 70), .inl x1] m P := by
  refine CI.of [(0, .inr (.inr 70)), (1, .inl x1)] k_M_end.1 (Nat.le_of_ble_eq_true rfl) rfl (Wp.wf (fun hw _ hl hs => ?_))
  have H0 := H hw (hl _ (List.mem_of_getElem? (i := 1) rfl))
  refine Wp.iload_n 1 1 d_M_end_0 rfl rfl ?_
  obtain ⟨H2, H3⟩ := H0
  refine Wp.if_lt 12 d_M_end_1 (by decide) (fun c1 => ?_) (fun c1 => ?_)
  · have H4 := H2 c1
    refine Wp.iconst d_M_end_12 (by decide) ?_
    exact Wq.iret d_M_end_13 rfl H4
  · have H5 := H3 c1
    refine Wp.iload_n 1 1 d_M_end_4 rfl rfl ?_
    refine Wp.aload_n 0 0 d_M_end_5 rfl rfl ?_
    refine Wq.getI 2 rfl d_M_end_6 fl_M_240 rfl (Or.inl rfl) ?_
    obtain ⟨H7, H8⟩ := H5
    refine Wp.icmp_le 14 d_M_end_9 (by decide) (fun c6 => ?_) (fun c6 => ?_)
    · have H9 := H7 c6
      refine Wp.aload_n 0 0 d_M_end_14 rfl rfl ?_
      refine Wp.iload_n 1 1 d_M_end_15 rfl rfl ?_
      refine Wq.putI 2 rfl d_M_end_16 fl_M_240 (fun _ _ _ h => by cases h; rfl) rfl rfl rfl (fun m11 hm12 => ?_)
      have H13 := H9 m11 hm12
      refine Wp.iload_n 1 1 d_M_end_19 rfl rfl ?_
      exact Wq.iret d_M_end_20 rfl H13
    · have H10 := H8 c6
      refine Wp.iconst d_M_end_12 (by decide) ?_
      exact Wq.iret d_M_end_13 rfl H10
