theorem d_M_clearBank_0 : decode Y_M_clearBank.2.1 0 = .ok (.aload_n 0, 1) := by decide +kernel
theorem d_M_clearBank_1 : decode Y_M_clearBank.2.1 1 = .ok (.getfield 20, 3) := by decide +kernel
theorem d_M_clearBank_4 : decode Y_M_clearBank.2.1 4 = .ok (.aload_n 0, 1) := by decide +kernel
theorem d_M_clearBank_5 : decode Y_M_clearBank.2.1 5 = .ok (.getfield 234, 3) := by decide +kernel
theorem d_M_clearBank_8 : decode Y_M_clearBank.2.1 8 = .ok (.iconst 0, 1) := by decide +kernel
theorem d_M_clearBank_9 : decode Y_M_clearBank.2.1 9 = .ok (.iastore, 1) := by decide +kernel
theorem d_M_clearBank_10 : decode Y_M_clearBank.2.1 10 = .ok (.aload_n 0, 1) := by decide +kernel
theorem d_M_clearBank_11 : decode Y_M_clearBank.2.1 11 = .ok (.getfield 24, 3) := by decide +kernel
theorem d_M_clearBank_14 : decode Y_M_clearBank.2.1 14 = .ok (.aload_n 0, 1) := by decide +kernel
theorem d_M_clearBank_15 : decode Y_M_clearBank.2.1 15 = .ok (.getfield 234, 3) := by decide +kernel
theorem d_M_clearBank_18 : decode Y_M_clearBank.2.1 18 = .ok (.iconst 0, 1) := by decide +kernel
theorem d_M_clearBank_19 : decode Y_M_clearBank.2.1 19 = .ok (.iastore, 1) := by decide +kernel
theorem d_M_clearBank_20 : decode Y_M_clearBank.2.1 20 = .ok (.aload_n 0, 1) := by decide +kernel
theorem d_M_clearBank_21 : decode Y_M_clearBank.2.1 21 = .ok (.getfield 27, 3) := by decide +kernel
theorem d_M_clearBank_24 : decode Y_M_clearBank.2.1 24 = .ok (.aload_n 0, 1) := by decide +kernel
theorem d_M_clearBank_25 : decode Y_M_clearBank.2.1 25 = .ok (.getfield 234, 3) := by decide +kernel
theorem d_M_clearBank_28 : decode Y_M_clearBank.2.1 28 = .ok (.iconst 0, 1) := by decide +kernel
theorem d_M_clearBank_29 : decode Y_M_clearBank.2.1 29 = .ok (.iastore, 1) := by decide +kernel
theorem d_M_clearBank_30 : decode Y_M_clearBank.2.1 30 = .ok (.aload_n 0, 1) := by decide +kernel
theorem d_M_clearBank_31 : decode Y_M_clearBank.2.1 31 = .ok (.getfield 30, 3) := by decide +kernel
theorem d_M_clearBank_34 : decode Y_M_clearBank.2.1 34 = .ok (.aload_n 0, 1) := by decide +kernel
theorem d_M_clearBank_35 : decode Y_M_clearBank.2.1 35 = .ok (.getfield 234, 3) := by decide +kernel
theorem d_M_clearBank_38 : decode Y_M_clearBank.2.1 38 = .ok (.iconst 0, 1) := by decide +kernel
theorem d_M_clearBank_39 : decode Y_M_clearBank.2.1 39 = .ok (.iastore, 1) := by decide +kernel
theorem d_M_clearBank_40 : decode Y_M_clearBank.2.1 40 = .ok (.aload_n 0, 1) := by decide +kernel
theorem d_M_clearBank_41 : decode Y_M_clearBank.2.1 41 = .ok (.getfield 33, 3) := by decide +kernel
theorem d_M_clearBank_44 : decode Y_M_clearBank.2.1 44 = .ok (.aload_n 0, 1) := by decide +kernel
theorem d_M_clearBank_45 : decode Y_M_clearBank.2.1 45 = .ok (.getfield 234, 3) := by decide +kernel
theorem d_M_clearBank_48 : decode Y_M_clearBank.2.1 48 = .ok (.iconst 0, 1) := by decide +kernel
theorem d_M_clearBank_49 : decode Y_M_clearBank.2.1 49 = .ok (.iastore, 1) := by decide +kernel
theorem d_M_clearBank_50 : decode Y_M_clearBank.2.1 50 = .ok (.aload_n 0, 1) := by decide +kernel
theorem d_M_clearBank_51 : decode Y_M_clearBank.2.1 51 = .ok (.getfield 36, 3) := by decide +kernel
theorem d_M_clearBank_54 : decode Y_M_clearBank.2.1 54 = .ok (.aload_n 0, 1) := by decide +kernel
theorem d_M_clearBank_55 : decode Y_M_clearBank.2.1 55 = .ok (.getfield 234, 3) := by decide +kernel
theorem d_M_clearBank_58 : decode Y_M_clearBank.2.1 58 = .ok (.iconst 0, 1) := by decide +kernel
theorem d_M_clearBank_59 : decode Y_M_clearBank.2.1 59 = .ok (.iastore, 1) := by decide +kernel
theorem d_M_clearBank_60 : decode Y_M_clearBank.2.1 60 = .ok (.iconst 0, 1) := by decide +kernel
theorem d_M_clearBank_61 : decode Y_M_clearBank.2.1 61 = .ok (.istore_n 1, 1) := by decide +kernel
theorem d_M_clearBank_62 : decode Y_M_clearBank.2.1 62 = .ok (.iload_n 1, 1) := by decide +kernel
theorem d_M_clearBank_63 : decode Y_M_clearBank.2.1 63 = .ok (.iconst 5, 1) := by decide +kernel
theorem d_M_clearBank_64 : decode Y_M_clearBank.2.1 64 = .ok (.if_icmp .ge 23, 3) := by decide +kernel
theorem d_M_clearBank_67 : decode Y_M_clearBank.2.1 67 = .ok (.aload_n 0, 1) := by decide +kernel
theorem d_M_clearBank_68 : decode Y_M_clearBank.2.1 68 = .ok (.getfield 45, 3) := by decide +kernel
theorem d_M_clearBank_71 : decode Y_M_clearBank.2.1 71 = .ok (.iconst 5, 1) := by decide +kernel
theorem d_M_clearBank_72 : decode Y_M_clearBank.2.1 72 = .ok (.aload_n 0, 1) := by decide +kernel
theorem d_M_clearBank_73 : decode Y_M_clearBank.2.1 73 = .ok (.getfield 234, 3) := by decide +kernel
theorem d_M_clearBank_76 : decode Y_M_clearBank.2.1 76 = .ok (.imul, 1) := by decide +kernel
theorem d_M_clearBank_77 : decode Y_M_clearBank.2.1 77 = .ok (.iload_n 1, 1) := by decide +kernel
theorem d_M_clearBank_78 : decode Y_M_clearBank.2.1 78 = .ok (.iadd, 1) := by decide +kernel
theorem d_M_clearBank_79 : decode Y_M_clearBank.2.1 79 = .ok (.iconst 0, 1) := by decide +kernel
theorem d_M_clearBank_80 : decode Y_M_clearBank.2.1 80 = .ok (.iastore, 1) := by decide +kernel
theorem d_M_clearBank_81 : decode Y_M_clearBank.2.1 81 = .ok (.iinc 1 1, 3) := by decide +kernel
theorem d_M_clearBank_84 : decode Y_M_clearBank.2.1 84 = .ok (.goto (-22), 3) := by decide +kernel
theorem d_M_clearBank_87 : decode Y_M_clearBank.2.1 87 = .ok (.iconst 0, 1) := by decide +kernel
theorem d_M_clearBank_88 : decode Y_M_clearBank.2.1 88 = .ok (.istore_n 1, 1) := by decide +kernel
theorem d_M_clearBank_89 : decode Y_M_clearBank.2.1 89 = .ok (.iload_n 1, 1) := by decide +kernel
theorem d_M_clearBank_90 : decode Y_M_clearBank.2.1 90 = .ok (.bipush 25, 2) := by decide +kernel
theorem d_M_clearBank_92 : decode Y_M_clearBank.2.1 92 = .ok (.if_icmp .ge 24, 3) := by decide +kernel
theorem d_M_clearBank_95 : decode Y_M_clearBank.2.1 95 = .ok (.aload_n 0, 1) := by decide +kernel
theorem d_M_clearBank_96 : decode Y_M_clearBank.2.1 96 = .ok (.getfield 42, 3) := by decide +kernel
theorem d_M_clearBank_99 : decode Y_M_clearBank.2.1 99 = .ok (.bipush 25, 2) := by decide +kernel
theorem d_M_clearBank_101 : decode Y_M_clearBank.2.1 101 = .ok (.aload_n 0, 1) := by decide +kernel
theorem d_M_clearBank_102 : decode Y_M_clearBank.2.1 102 = .ok (.getfield 234, 3) := by decide +kernel
theorem d_M_clearBank_105 : decode Y_M_clearBank.2.1 105 = .ok (.imul, 1) := by decide +kernel
theorem d_M_clearBank_106 : decode Y_M_clearBank.2.1 106 = .ok (.iload_n 1, 1) := by decide +kernel
theorem d_M_clearBank_107 : decode Y_M_clearBank.2.1 107 = .ok (.iadd, 1) := by decide +kernel
theorem d_M_clearBank_108 : decode Y_M_clearBank.2.1 108 = .ok (.iconst 0, 1) := by decide +kernel
theorem d_M_clearBank_109 : decode Y_M_clearBank.2.1 109 = .ok (.iastore, 1) := by decide +kernel
theorem d_M_clearBank_110 : decode Y_M_clearBank.2.1 110 = .ok (.iinc 1 1, 3) := by decide +kernel
theorem d_M_clearBank_113 : decode Y_M_clearBank.2.1 113 = .ok (.goto (-24), 3) := by decide +kernel
theorem d_M_clearBank_116 : decode Y_M_clearBank.2.1 116 = .ok (.aload_n 0, 1) := by decide +kernel
theorem d_M_clearBank_117 : decode Y_M_clearBank.2.1 117 = .ok (.sipush 560, 3) := by decide +kernel
theorem d_M_clearBank_120 : decode Y_M_clearBank.2.1 120 = .ok (.aload_n 0, 1) := by decide +kernel
theorem d_M_clearBank_121 : decode Y_M_clearBank.2.1 121 = .ok (.getfield 234, 3) := by decide +kernel
theorem d_M_clearBank_124 : decode Y_M_clearBank.2.1 124 = .ok (.imul, 1) := by decide +kernel
theorem d_M_clearBank_125 : decode Y_M_clearBank.2.1 125 = .ok (.putfield 237, 3) := by decide +kernel
theorem d_M_clearBank_128 : decode Y_M_clearBank.2.1 128 = .ok (.return_, 1) := by decide +kernel
theorem e_M_clearBank {l : Launch} {G : GT} {d : Nat} {P : MM → Prop} {m : MM}   (H : wfM m → (0 ≤ (m 70 29) ∧ (m 70 29) < (2 : Int)) ∧ (∀ m1, m1 = up m 73 (m 70 29) 0 → ((0 ≤ (m1 70 29) ∧ (m1 70 29) < (2 : Int)) ∧ (∀ m6, m6 = up m1 74 (m1 70 29) 0 → ((0 ≤ (m6 70 29) ∧ (m6 70 29) < (2 : Int)) ∧ (∀ m11, m11 = up m6 75 (m6 70 29) 0 → ((0 ≤ (m11 70 29) ∧ (m11 70 29) < (2 : Int)) ∧ (∀ m16, m16 = up m11 76 (m11 70 29) 0 → ((0 ≤ (m16 70 29) ∧ (m16 70 29) < (2 : Int)) ∧ (∀ m21, m21 = up m16 77 (m16 70 29) 0 → ((0 ≤ (m21 70 29) ∧ (m21 70 29) < (2 : Int)) ∧ (∀ m26, m26 = up m21 78 (m21 70 29) 0 → (Wq l G false Y_M_clearBank d (QV P) 62 [(0, .inr (.inr 70)), (1, .inl 0)] [] m26))))))))))))) : CV l G Y_M_clearBank d [.inr (.inr 70)] m P := by
  refine CV.of [(0, .inr (.inr 70))] k_M_clearBank.1 (Nat.le_of_ble_eq_true rfl) rfl (Wp.wf (fun hw _ hl hs => ?_))
  have H0 := H hw
  refine Wp.aload_n 0 0 d_M_clearBank_0 rfl rfl ?_
  refine Wp.getP 73 d_M_clearBank_1 fl_M_20 rfl rfl rfl ?_
  refine Wp.aload_n 0 0 d_M_clearBank_4 rfl rfl ?_
  refine Wq.getI 29 rfl d_M_clearBank_5 fl_M_234 rfl (Or.inl rfl) ?_
  refine Wp.iconst d_M_clearBank_8 (by decide) ?_
  obtain ⟨s41, H42⟩ := H0
  refine Wq.iast d_M_clearBank_9 rfl s41.1 s41.2 (fun m1 hm2 => ?_)
  have H3 := H42 m1 hm2
  refine Wp.aload_n 0 0 d_M_clearBank_10 rfl rfl ?_
  refine Wp.getP 74 d_M_clearBank_11 fl_M_24 rfl rfl rfl ?_
  refine Wp.aload_n 0 0 d_M_clearBank_14 rfl rfl ?_
  refine Wq.getI 29 rfl d_M_clearBank_15 fl_M_234 rfl (Or.inl rfl) ?_
  refine Wp.iconst d_M_clearBank_18 (by decide) ?_
  obtain ⟨s39, H40⟩ := H3
  refine Wq.iast d_M_clearBank_19 rfl s39.1 s39.2 (fun m6 hm7 => ?_)
  have H8 := H40 m6 hm7
  refine Wp.aload_n 0 0 d_M_clearBank_20 rfl rfl ?_
  refine Wp.getP 75 d_M_clearBank_21 fl_M_27 rfl rfl rfl ?_
  refine Wp.aload_n 0 0 d_M_clearBank_24 rfl rfl ?_
  refine Wq.getI 29 rfl d_M_clearBank_25 fl_M_234 rfl (Or.inl rfl) ?_
  refine Wp.iconst d_M_clearBank_28 (by decide) ?_
  obtain ⟨s37, H38⟩ := H8
  refine Wq.iast d_M_clearBank_29 rfl s37.1 s37.2 (fun m11 hm12 => ?_)
  have H13 := H38 m11 hm12
  refine Wp.aload_n 0 0 d_M_clearBank_30 rfl rfl ?_
  refine Wp.getP 76 d_M_clearBank_31 fl_M_30 rfl rfl rfl ?_
  refine Wp.aload_n 0 0 d_M_clearBank_34 rfl rfl ?_
  refine Wq.getI 29 rfl d_M_clearBank_35 fl_M_234 rfl (Or.inl rfl) ?_
  refine Wp.iconst d_M_clearBank_38 (by decide) ?_
  obtain ⟨s35, H36⟩ := H13
  refine Wq.iast d_M_clearBank_39 rfl s35.1 s35.2 (fun m16 hm17 => ?_)
  have H18 := H36 m16 hm17
  refine Wp.aload_n 0 0 d_M_clearBank_40 rfl rfl ?_
  refine Wp.getP 77 d_M_clearBank_41 fl_M_33 rfl rfl rfl ?_
  refine Wp.aload_n 0 0 d_M_clearBank_44 rfl rfl ?_
  refine Wq.getI 29 rfl d_M_clearBank_45 fl_M_234 rfl (Or.inl rfl) ?_
  refine Wp.iconst d_M_clearBank_48 (by decide) ?_
  obtain ⟨s33, H34⟩ := H18
  refine Wq.iast d_M_clearBank_49 rfl s33.1 s33.2 (fun m21 hm22 => ?_)
  have H23 := H34 m21 hm22
  refine Wp.aload_n 0 0 d_M_clearBank_50 rfl rfl ?_
  refine Wp.getP 78 d_M_clearBank_51 fl_M_36 rfl rfl rfl ?_
  refine Wp.aload_n 0 0 d_M_clearBank_54 rfl rfl ?_
  refine Wq.getI 29 rfl d_M_clearBank_55 fl_M_234 rfl (Or.inl rfl) ?_
  refine Wp.iconst d_M_clearBank_58 (by decide) ?_
  obtain ⟨s31, H32⟩ := H23
  refine Wq.iast d_M_clearBank_59 rfl s31.1 s31.2 (fun m26 hm27 => ?_)
  have H28 := H32 m26 hm27
  refine Wp.iconst d_M_clearBank_60 (by decide) ?_
  refine Wp.istore_n 1 [(0, .inr (.inr 70)), (1, .inl 0)] d_M_clearBank_61 rfl (by decide) rfl ?_
  exact H28
theorem s_M_clearBank_62 {l : Launch} {G : GT} {d : Nat} {P : MM → Prop} {m : MM} (x1 : Int)  (H : wfM m → inR x1 → (x1 ≥ 5 → (Wq l G false Y_M_clearBank d (QV P) 89 [(0, .inr (.inr 70)), (1, .inl 0)] [] m)) ∧ (¬ (x1 ≥ 5) → ((inR (5 * (m 70 29))) ∧ ((inR ((5 * (m 70 29)) + x1)) ∧ ((0 ≤ ((5 * (m 70 29)) + x1) ∧ ((5 * (m 70 29)) + x1) < (10 : Int)) ∧ (∀ m10, m10 = up m 81 ((5 * (m 70 29)) + x1) 0 → ((inR (x1 + 1)) ∧ (Wq l G false Y_M_clearBank d (QV P) 62 [(0, .inr (.inr 70)), (1, .inl (x1 + 1))] [] m10)))))))) : Wq l G false Y_M_clearBank d (QV P) 62 [(0, .inr (.inr 70)), (1, .inl x1)] [] m := by
  refine Wp.wf (fun hw _ hl hs => ?_)
  have H0 := H hw (hl _ (List.mem_of_getElem? (i := 1) rfl))
  refine Wp.iload_n 1 1 d_M_clearBank_62 rfl rfl ?_
  refine Wp.iconst d_M_clearBank_63 (by decide) ?_
  obtain ⟨H2, H3⟩ := H0
  refine Wp.icmp_ge 87 d_M_clearBank_64 (by decide) (fun c1 => ?_) (fun c1 => ?_)
  · have H4 := H2 c1
    refine Wp.iconst d_M_clearBank_87 (by decide) ?_
    refine Wp.istore_n 1 [(0, .inr (.inr 70)), (1, .inl 0)] d_M_clearBank_88 rfl (by decide) rfl ?_
    exact H4
  · have H5 := H3 c1
    refine Wp.aload_n 0 0 d_M_clearBank_67 rfl rfl ?_
    refine Wp.getP 81 d_M_clearBank_68 fl_M_45 rfl rfl rfl ?_
    refine Wp.iconst d_M_clearBank_71 (by decide) ?_
    refine Wp.aload_n 0 0 d_M_clearBank_72 rfl rfl ?_
    refine Wq.getI 29 rfl d_M_clearBank_73 fl_M_234 rfl (Or.inl rfl) ?_
    obtain ⟨s6, H7⟩ := H5
    refine Wp.imul d_M_clearBank_76 s6 ?_
    refine Wp.iload_n 1 1 d_M_clearBank_77 rfl rfl ?_
    obtain ⟨s8, H9⟩ := H7
    refine Wp.iadd d_M_clearBank_78 s8 ?_
    refine Wp.iconst d_M_clearBank_79 (by decide) ?_
    obtain ⟨s17, H18⟩ := H9
    refine Wq.iast d_M_clearBank_80 rfl s17.1 s17.2 (fun m10 hm11 => ?_)
    have H12 := H18 m10 hm11
    obtain ⟨s15, H16⟩ := H12
    refine Wp.iinc 1 1 [(0, .inr (.inr 70)), (1, .inl (x1 + 1))] d_M_clearBank_81 rfl s15 (by decide) rfl ?_
    refine Wp.goto 62 d_M_clearBank_84 (by decide) ?_
    exact H16
theorem s_M_clearBank_89 {l : Launch} {G : GT} {d : Nat} {P : MM → Prop} {m : MM} (x1 : Int)  (H : wfM m → inR x1 → (x1 ≥ 25 → ((inR (560 * (m 70 29))) ∧ (∀ m8, m8 = up m 70 30 (560 * (m 70 29)) → (P m8)))) ∧ (¬ (x1 ≥ 25) → ((inR (25 * (m 70 29))) ∧ ((inR ((25 * (m 70 29)) + x1)) ∧ ((0 ≤ ((25 * (m 70 29)) + x1) ∧ ((25 * (m 70 29)) + x1) < (50 : Int)) ∧ (∀ m15, m15 = up m 80 ((25 * (m 70 29)) + x1) 0 → ((inR (x1 + 1)) ∧ (Wq l G false Y_M_clearBank d (QV P) 89 [(0, .inr (.inr 70)), (1, .inl (x1 + 1))] [] m15)))))))) : Wq l G false Y_M_clearBank d (QV P) 89 [(0, .inr (.inr 70)), (1, .inl x1)] [] m := by
  refine Wp.wf (fun hw _ hl hs => ?_)
  have H0 := H hw (hl _ (List.mem_of_getElem? (i := 1) rfl))
  refine Wp.iload_n 1 1 d_M_clearBank_89 rfl rfl ?_
  refine Wp.bipush d_M_clearBank_90 (by decide) (by decide) ?_
  obtain ⟨H2, H3⟩ := H0
  refine Wp.icmp_ge 116 d_M_clearBank_92 (by decide) (fun c1 => ?_) (fun c1 => ?_)
  · have H4 := H2 c1
    refine Wp.aload_n 0 0 d_M_clearBank_116 rfl rfl ?_
    refine Wp.sipush d_M_clearBank_117 (by decide) (by decide) ?_
    refine Wp.aload_n 0 0 d_M_clearBank_120 rfl rfl ?_
    refine Wq.getI 29 rfl d_M_clearBank_121 fl_M_234 rfl (Or.inl rfl) ?_
    obtain ⟨s6, H7⟩ := H4
    refine Wp.imul d_M_clearBank_124 s6 ?_
    refine Wq.putI 30 rfl d_M_clearBank_125 fl_M_237 (fun _ _ _ h => by cases h; rfl) rfl rfl rfl (fun m8 hm9 => ?_)
    have H10 := H7 m8 hm9
    exact Wq.vret d_M_clearBank_128 rfl H10
  · have H5 := H3 c1
    refine Wp.aload_n 0 0 d_M_clearBank_95 rfl rfl ?_
    refine Wp.getP 80 d_M_clearBank_96 fl_M_42 rfl rfl rfl ?_
    refine Wp.bipush d_M_clearBank_99 (by decide) (by decide) ?_
    refine Wp.aload_n 0 0 d_M_clearBank_101 rfl rfl ?_
    refine Wq.getI 29 rfl d_M_clearBank_102 fl_M_234 rfl (Or.inl rfl) ?_
    obtain ⟨s11, H12⟩ := H5
    refine Wp.imul d_M_clearBank_105 s11 ?_
    refine Wp.iload_n 1 1 d_M_clearBank_106 rfl rfl ?_
    obtain ⟨s13, H14⟩ := H12
    refine Wp.iadd d_M_clearBank_107 s13 ?_
    refine Wp.iconst d_M_clearBank_108 (by decide) ?_
    obtain ⟨s22, H23⟩ := H14
    refine Wq.iast d_M_clearBank_109 rfl s22.1 s22.2 (fun m15 hm16 => ?_)
    have H17 := H23 m15 hm16
    obtain ⟨s20, H21⟩ := H17
    refine Wp.iinc 1 1 [(0, .inr (.inr 70)), (1, .inl (x1 + 1))] d_M_clearBank_110 rfl s20 (by decide) rfl ?_
    refine Wp.goto 89 d_M_clearBank_113 (by decide) ?_
    exact H21
theorem d_M_startAnew_0 : decode Y_M_startAnew.2.1 0 = .ok (.iconst 0, 1) := by decide +kernel
theorem d_M_startAnew_1 : decode Y_M_startAnew.2.1 1 = .ok (.istore_n 1, 1) := by decide +kernel
theorem d_M_startAnew_2 : decode Y_M_startAnew.2.1 2 = .ok (.iload_n 1, 1) := by decide +kernel
theorem d_M_startAnew_3 : decode Y_M_startAnew.2.1 3 = .ok (.bipush 8, 2) := by decide +kernel
theorem d_M_startAnew_5 : decode Y_M_startAnew.2.1 5 = .ok (.if_icmp .ge 16, 3) := by decide +kernel
theorem d_M_startAnew_8 : decode Y_M_startAnew.2.1 8 = .ok (.aload_n 0, 1) := by decide +kernel
theorem d_M_startAnew_9 : decode Y_M_startAnew.2.1 9 = .ok (.getfield 73, 3) := by decide +kernel
theorem d_M_startAnew_12 : decode Y_M_startAnew.2.1 12 = .ok (.iload_n 1, 1) := by decide +kernel
theorem d_M_startAnew_13 : decode Y_M_startAnew.2.1 13 = .ok (.iconst 0, 1) := by decide +kernel
theorem d_M_startAnew_14 : decode Y_M_startAnew.2.1 14 = .ok (.iastore, 1) := by decide +kernel
theorem d_M_startAnew_15 : decode Y_M_startAnew.2.1 15 = .ok (.iinc 1 1, 3) := by decide +kernel
theorem d_M_startAnew_18 : decode Y_M_startAnew.2.1 18 = .ok (.goto (-16), 3) := by decide +kernel
theorem d_M_startAnew_21 : decode Y_M_startAnew.2.1 21 = .ok (.iconst 0, 1) := by decide +kernel
theorem d_M_startAnew_22 : decode Y_M_startAnew.2.1 22 = .ok (.istore_n 1, 1) := by decide +kernel
theorem d_M_startAnew_23 : decode Y_M_startAnew.2.1 23 = .ok (.iload_n 1, 1) := by decide +kernel
theorem d_M_startAnew_24 : decode Y_M_startAnew.2.1 24 = .ok (.aload_n 0, 1) := by decide +kernel
theorem d_M_startAnew_25 : decode Y_M_startAnew.2.1 25 = .ok (.invokevirtual 338, 3) := by decide +kernel
theorem d_M_startAnew_28 : decode Y_M_startAnew.2.1 28 = .ok (.if_icmp .ge 72, 3) := by decide +kernel
theorem d_M_startAnew_31 : decode Y_M_startAnew.2.1 31 = .ok (.aload_n 0, 1) := by decide +kernel
theorem d_M_startAnew_32 : decode Y_M_startAnew.2.1 32 = .ok (.getfield 73, 3) := by decide +kernel
theorem d_M_startAnew_35 : decode Y_M_startAnew.2.1 35 = .ok (.iconst 0, 1) := by decide +kernel
theorem d_M_startAnew_36 : decode Y_M_startAnew.2.1 36 = .ok (.iload_n 1, 1) := by decide +kernel
theorem d_M_startAnew_37 : decode Y_M_startAnew.2.1 37 = .ok (.iadd, 1) := by decide +kernel
theorem d_M_startAnew_38 : decode Y_M_startAnew.2.1 38 = .ok (.aload_n 0, 1) := by decide +kernel
theorem d_M_startAnew_39 : decode Y_M_startAnew.2.1 39 = .ok (.getfield 39, 3) := by decide +kernel
theorem d_M_startAnew_42 : decode Y_M_startAnew.2.1 42 = .ok (.iconst 5, 1) := by decide +kernel
theorem d_M_startAnew_43 : decode Y_M_startAnew.2.1 43 = .ok (.aload_n 0, 1) := by decide +kernel
theorem d_M_startAnew_44 : decode Y_M_startAnew.2.1 44 = .ok (.getfield 243, 3) := by decide +kernel
theorem d_M_startAnew_47 : decode Y_M_startAnew.2.1 47 = .ok (.imul, 1) := by decide +kernel
theorem d_M_startAnew_48 : decode Y_M_startAnew.2.1 48 = .ok (.iload_n 1, 1) := by decide +kernel
theorem d_M_startAnew_49 : decode Y_M_startAnew.2.1 49 = .ok (.iadd, 1) := by decide +kernel
theorem d_M_startAnew_50 : decode Y_M_startAnew.2.1 50 = .ok (.iaload, 1) := by decide +kernel
theorem d_M_startAnew_51 : decode Y_M_startAnew.2.1 51 = .ok (.iastore, 1) := by decide +kernel
theorem d_M_startAnew_52 : decode Y_M_startAnew.2.1 52 = .ok (.aload_n 0, 1) := by decide +kernel
theorem d_M_startAnew_53 : decode Y_M_startAnew.2.1 53 = .ok (.getfield 79, 3) := by decide +kernel
theorem d_M_startAnew_56 : decode Y_M_startAnew.2.1 56 = .ok (.iload_n 1, 1) := by decide +kernel
theorem d_M_startAnew_57 : decode Y_M_startAnew.2.1 57 = .ok (.aload_n 0, 1) := by decide +kernel
theorem d_M_startAnew_58 : decode Y_M_startAnew.2.1 58 = .ok (.iload_n 1, 1) := by decide +kernel
theorem d_M_startAnew_59 : decode Y_M_startAnew.2.1 59 = .ok (.invokevirtual 345, 3) := by decide +kernel
theorem d_M_startAnew_62 : decode Y_M_startAnew.2.1 62 = .ok (.iastore, 1) := by decide +kernel
theorem d_M_startAnew_63 : decode Y_M_startAnew.2.1 63 = .ok (.iconst 0, 1) := by decide +kernel
theorem d_M_startAnew_64 : decode Y_M_startAnew.2.1 64 = .ok (.istore_n 2, 1) := by decide +kernel
theorem d_M_startAnew_65 : decode Y_M_startAnew.2.1 65 = .ok (.iload_n 2, 1) := by decide +kernel
theorem d_M_startAnew_66 : decode Y_M_startAnew.2.1 66 = .ok (.aload_n 0, 1) := by decide +kernel
theorem d_M_startAnew_67 : decode Y_M_startAnew.2.1 67 = .ok (.invokevirtual 338, 3) := by decide +kernel
theorem d_M_startAnew_70 : decode Y_M_startAnew.2.1 70 = .ok (.if_icmp .ge 24, 3) := by decide +kernel
theorem d_M_startAnew_73 : decode Y_M_startAnew.2.1 73 = .ok (.aload_n 0, 1) := by decide +kernel
theorem d_M_startAnew_74 : decode Y_M_startAnew.2.1 74 = .ok (.getfield 79, 3) := by decide +kernel
theorem d_M_startAnew_77 : decode Y_M_startAnew.2.1 77 = .ok (.iload_n 1, 1) := by decide +kernel
theorem d_M_startAnew_78 : decode Y_M_startAnew.2.1 78 = .ok (.dup2, 1) := by decide +kernel
theorem d_M_startAnew_79 : decode Y_M_startAnew.2.1 79 = .ok (.iaload, 1) := by decide +kernel
theorem d_M_startAnew_80 : decode Y_M_startAnew.2.1 80 = .ok (.aload_n 0, 1) := by decide +kernel
theorem d_M_startAnew_81 : decode Y_M_startAnew.2.1 81 = .ok (.iload_n 1, 1) := by decide +kernel
theorem d_M_startAnew_82 : decode Y_M_startAnew.2.1 82 = .ok (.iload_n 2, 1) := by decide +kernel
theorem d_M_startAnew_83 : decode Y_M_startAnew.2.1 83 = .ok (.invokevirtual 348, 3) := by decide +kernel
theorem d_M_startAnew_86 : decode Y_M_startAnew.2.1 86 = .ok (.iadd, 1) := by decide +kernel
theorem d_M_startAnew_87 : decode Y_M_startAnew.2.1 87 = .ok (.iastore, 1) := by decide +kernel
theorem d_M_startAnew_88 : decode Y_M_startAnew.2.1 88 = .ok (.iinc 2 1, 3) := by decide +kernel
theorem d_M_startAnew_91 : decode Y_M_startAnew.2.1 91 = .ok (.goto (-26), 3) := by decide +kernel
theorem d_M_startAnew_94 : decode Y_M_startAnew.2.1 94 = .ok (.iinc 1 1, 3) := by decide +kernel
theorem d_M_startAnew_97 : decode Y_M_startAnew.2.1 97 = .ok (.goto (-74), 3) := by decide +kernel
theorem d_M_startAnew_100 : decode Y_M_startAnew.2.1 100 = .ok (.aload_n 0, 1) := by decide +kernel
theorem d_M_startAnew_101 : decode Y_M_startAnew.2.1 101 = .ok (.getfield 73, 3) := by decide +kernel
theorem d_M_startAnew_104 : decode Y_M_startAnew.2.1 104 = .ok (.bipush 7, 2) := by decide +kernel
theorem d_M_startAnew_106 : decode Y_M_startAnew.2.1 106 = .ok (.aload_n 0, 1) := by decide +kernel
theorem d_M_startAnew_107 : decode Y_M_startAnew.2.1 107 = .ok (.getfield 33, 3) := by decide +kernel
theorem d_M_startAnew_110 : decode Y_M_startAnew.2.1 110 = .ok (.aload_n 0, 1) := by decide +kernel
theorem d_M_startAnew_111 : decode Y_M_startAnew.2.1 111 = .ok (.getfield 243, 3) := by decide +kernel
theorem d_M_startAnew_114 : decode Y_M_startAnew.2.1 114 = .ok (.iaload, 1) := by decide +kernel
theorem d_M_startAnew_115 : decode Y_M_startAnew.2.1 115 = .ok (.iastore, 1) := by decide +kernel
theorem d_M_startAnew_116 : decode Y_M_startAnew.2.1 116 = .ok (.aload_n 0, 1) := by decide +kernel
theorem d_M_startAnew_117 : decode Y_M_startAnew.2.1 117 = .ok (.aload_n 0, 1) := by decide +kernel
theorem d_M_startAnew_118 : decode Y_M_startAnew.2.1 118 = .ok (.iconst 1, 1) := by decide +kernel
theorem d_M_startAnew_119 : decode Y_M_startAnew.2.1 119 = .ok (.aload_n 0, 1) := by decide +kernel
theorem d_M_startAnew_120 : decode Y_M_startAnew.2.1 120 = .ok (.invokevirtual 338, 3) := by decide +kernel
theorem d_M_startAnew_123 : decode Y_M_startAnew.2.1 123 = .ok (.ishl, 1) := by decide +kernel
theorem d_M_startAnew_124 : decode Y_M_startAnew.2.1 124 = .ok (.iconst 1, 1) := by decide +kernel
theorem d_M_startAnew_125 : decode Y_M_startAnew.2.1 125 = .ok (.isub, 1) := by decide +kernel
theorem d_M_startAnew_126 : decode Y_M_startAnew.2.1 126 = .ok (.iconst 1, 1) := by decide +kernel
theorem d_M_startAnew_127 : decode Y_M_startAnew.2.1 127 = .ok (.aload_n 0, 1) := by decide +kernel
theorem d_M_startAnew_128 : decode Y_M_startAnew.2.1 128 = .ok (.invokevirtual 338, 3) := by decide +kernel
theorem d_M_startAnew_131 : decode Y_M_startAnew.2.1 131 = .ok (.ishl, 1) := by decide +kernel
theorem d_M_startAnew_132 : decode Y_M_startAnew.2.1 132 = .ok (.iconst 1, 1) := by decide +kernel
theorem d_M_startAnew_133 : decode Y_M_startAnew.2.1 133 = .ok (.isub, 1) := by decide +kernel
theorem d_M_startAnew_134 : decode Y_M_startAnew.2.1 134 = .ok (.invokevirtual 351, 3) := by decide +kernel
theorem d_M_startAnew_137 : decode Y_M_startAnew.2.1 137 = .ok (.putfield 354, 3) := by decide +kernel
theorem d_M_startAnew_140 : decode Y_M_startAnew.2.1 140 = .ok (.aload_n 0, 1) := by decide +kernel
theorem d_M_startAnew_141 : decode Y_M_startAnew.2.1 141 = .ok (.invokevirtual 357, 3) := by decide +kernel
theorem d_M_startAnew_144 : decode Y_M_startAnew.2.1 144 = .ok (.aload_n 0, 1) := by decide +kernel
theorem d_M_startAnew_145 : decode Y_M_startAnew.2.1 145 = .ok (.iconst 0, 1) := by decide +kernel
theorem d_M_startAnew_146 : decode Y_M_startAnew.2.1 146 = .ok (.putfield 360, 3) := by decide +kernel
theorem d_M_startAnew_149 : decode Y_M_startAnew.2.1 149 = .ok (.aload_n 0, 1) := by decide +kernel
theorem d_M_startAnew_150 : decode Y_M_startAnew.2.1 150 = .ok (.iconst 0, 1) := by decide +kernel
theorem d_M_startAnew_151 : decode Y_M_startAnew.2.1 151 = .ok (.putfield 363, 3) := by decide +kernel
theorem d_M_startAnew_154 : decode Y_M_startAnew.2.1 154 = .ok (.aload_n 0, 1) := by decide +kernel
theorem d_M_startAnew_155 : decode Y_M_startAnew.2.1 155 = .ok (.iconst 0, 1) := by decide +kernel
theorem d_M_startAnew_156 : decode Y_M_startAnew.2.1 156 = .ok (.putfield 366, 3) := by decide +kernel
theorem d_M_startAnew_159 : decode Y_M_startAnew.2.1 159 = .ok (.aload_n 0, 1) := by decide +kernel
theorem d_M_startAnew_160 : decode Y_M_startAnew.2.1 160 = .ok (.iconst 0, 1) := by decide +kernel
theorem d_M_startAnew_161 : decode Y_M_startAnew.2.1 161 = .ok (.putfield 369, 3) := by decide +kernel
theorem d_M_startAnew_164 : decode Y_M_startAnew.2.1 164 = .ok (.iconst 0, 1) := by decide +kernel
theorem d_M_startAnew_165 : decode Y_M_startAnew.2.1 165 = .ok (.istore_n 1, 1) := by decide +kernel
theorem d_M_startAnew_166 : decode Y_M_startAnew.2.1 166 = .ok (.iload_n 1, 1) := by decide +kernel
theorem d_M_startAnew_167 : decode Y_M_startAnew.2.1 167 = .ok (.iconst 3, 1) := by decide +kernel
theorem d_M_startAnew_168 : decode Y_M_startAnew.2.1 168 = .ok (.if_icmp .ge 16, 3) := by decide +kernel
theorem d_M_startAnew_171 : decode Y_M_startAnew.2.1 171 = .ok (.aload_n 0, 1) := by decide +kernel
theorem d_M_startAnew_172 : decode Y_M_startAnew.2.1 172 = .ok (.getfield 133, 3) := by decide +kernel
theorem d_M_startAnew_175 : decode Y_M_startAnew.2.1 175 = .ok (.iload_n 1, 1) := by decide +kernel
theorem d_M_startAnew_176 : decode Y_M_startAnew.2.1 176 = .ok (.iconst 0, 1) := by decide +kernel
theorem d_M_startAnew_177 : decode Y_M_startAnew.2.1 177 = .ok (.bastore, 1) := by decide +kernel
theorem d_M_startAnew_178 : decode Y_M_startAnew.2.1 178 = .ok (.iinc 1 1, 3) := by decide +kernel
theorem d_M_startAnew_181 : decode Y_M_startAnew.2.1 181 = .ok (.goto (-15), 3) := by decide +kernel
theorem d_M_startAnew_184 : decode Y_M_startAnew.2.1 184 = .ok (.return_, 1) := by decide +kernel
theorem e_M_startAnew {l : Launch} {G : GT} {d : Nat} {P : MM → Prop} {m : MM}   (H : wfM m → Wq l G false Y_M_startAnew d (QV P) 2 [(0, .inr (.inr 70)), (1, .inl 0)] [] m) : CV l G Y_M_startAnew d [.inr (.inr 70)] m P := by
  refine CV.of [(0, .inr (.inr 70))] k_M_startAnew.1 (Nat.le_of_ble_eq_true rfl) rfl (Wp.wf (fun hw _ hl hs => ?_))
  have H0 := H hw
  refine Wp.iconst d_M_startAnew_0 (by decide) ?_
  refine Wp.istore_n 1 [(0, .inr (.inr 70)), (1, .inl 0)] d_M_startAnew_1 rfl (by decide) rfl ?_
  exact H0
theorem s_M_startAnew_2 {l : Launch} {G : GT} {d : Nat} {P : MM → Prop} {m : MM} (x1 : Int)  (H : wfM m → inR x1 → (x1 ≥ 8 → (Wq l G false Y_M_startAnew d (QV P) 23 [(0, .inr (.inr 70)), (1, .inl 0)] [] m)) ∧ (¬ (x1 ≥ 8) → ((0 ≤ x1 ∧ x1 < (8 : Int)) ∧ (∀ m6, m6 = up m 90 x1 0 → ((inR (x1 + 1)) ∧ (Wq l G false Y_M_startAnew d (QV P) 2 [(0, .inr (.inr 70)), (1, .inl (x1 + 1))] [] m6)))))) : Wq l G false Y_M_startAnew d (QV P) 2 [(0, .inr (.inr 70)), (1, .inl x1)] [] m := by
  refine Wp.wf (fun hw _ hl hs => ?_)
  have H0 := H hw (hl _ (List.mem_of_getElem? (i := 1) rfl))
  refine Wp.iload_n 1 1 d_M_startAnew_2 rfl rfl ?_
  refine Wp.bipush d_M_startAnew_3 (by decide) (by decide) ?_
  obtain ⟨H2, H3⟩ := H0
  refine Wp.icmp_ge 21 d_M_startAnew_5 (by decide) (fun c1 => ?_) (fun c1 => ?_)
  · have H4 := H2 c1
    refine Wp.iconst d_M_startAnew_21 (by decide) ?_
    refine Wp.istore_n 1 [(0, .inr (.inr 70)), (1, .inl 0)] d_M_startAnew_22 rfl (by decide) rfl ?_
    exact H4
  · have H5 := H3 c1
    refine Wp.aload_n 0 0 d_M_startAnew_8 rfl rfl ?_
    refine Wp.getP 90 d_M_startAnew_9 fl_M_73 rfl rfl rfl ?_
    refine Wp.iload_n 1 1 d_M_startAnew_12 rfl rfl ?_
    refine Wp.iconst d_M_startAnew_13 (by decide) ?_
    obtain ⟨s13, H14⟩ := H5
    refine Wq.iast d_M_startAnew_14 rfl s13.1 s13.2 (fun m6 hm7 => ?_)
    have H8 := H14 m6 hm7
    obtain ⟨s11, H12⟩ := H8
    refine Wp.iinc 1 1 [(0, .inr (.inr 70)), (1, .inl (x1 + 1))] d_M_startAnew_15 rfl s11 (by decide) rfl ?_
    refine Wp.goto 2 d_M_startAnew_18 (by decide) ?_
    exact H12
theorem s_M_startAnew_23 {l : Launch} {G : GT} {d : Nat} {P : MM → Prop} {m : MM} (x1 : Int)  (H : wfM m → inR x1 → ∃ (e1 : Nat) (P2 : Int → MM → Prop), e1 < d ∧ CI l G Y_M_lots e1 [.inr (.inr 70)] m P2 ∧ (∀ z7 m8, P2 z7 m8 → inR z7 → wfM m8 → ((x1 ≥ z7 → ((0 ≤ (m8 70 28) ∧ (m8 70 28) < (2 : Int)) ∧ (∀ m19, m19 = up m8 90 7 (m8 77 (m8 70 28)) → (∃ (e24 : Nat) (P25 : Int → MM → Prop), e24 < d ∧ CI l G Y_M_lots e24 [.inr (.inr 70)] m19 P25 ∧ (∀ z30 m31, P25 z30 m31 → inR z30 → wfM m31 → ((inR ((bShl 1 z30) - 1)) ∧ (∃ (e37 : Nat) (P38 : Int → MM → Prop), e37 < d ∧ CI l G Y_M_lots e37 [.inr (.inr 70)] m31 P38 ∧ (∀ z43 m44, P38 z43 m44 → inR z43 → wfM m44 → ((inR ((bShl 1 z43) - 1)) ∧ (∃ (e50 : Nat) (P51 : Int → MM → Prop), e50 < d ∧ CI l G Y_M_squareOf e50 [.inr (.inr 70), .inl ((bShl 1 z30) - 1), .inl ((bShl 1 z43) - 1)] m44 P51 ∧ (∀ z56 m57, P51 z56 m57 → inR z56 → wfM m57 → (∀ m61, m61 = up m57 70 42 z56 → (∃ (e64 : Nat) (P65 : MM → Prop), e64 < d ∧ CV l G Y_M_layNought e64 [.inr (.inr 70)] m61 P65 ∧ (∀ m71, P65 m71 → wfM m71 → (∀ m75, m75 = up m71 70 45 0 → (∀ m78, m78 = up m75 70 46 0 → (∀ m81, m81 = up m78 70 60 0 → (∀ m84, m84 = up m81 70 48 0 → (Wq l G false Y_M_startAnew d (QV P) 166 [(0, .inr (.inr 70)), (1, .inl 0)] [] m84))))))))))))))))))) ∧ (¬ (x1 ≥ z7) → ((inR (0 + x1)) ∧ ((inR (5 * (m8 70 28))) ∧ ((inR ((5 * (m8 70 28)) + x1)) ∧ ((0 ≤ ((5 * (m8 70 28)) + x1) ∧ ((5 * (m8 70 28)) + x1) < (10 : Int)) ∧ ((0 ≤ (0 + x1) ∧ (0 + x1) < (8 : Int)) ∧ (∀ m95, m95 = up m8 90 (0 + x1) (m8 79 ((5 * (m8 70 28)) + x1)) → (∃ (e100 : Nat) (P101 : Int → MM → Prop), e100 < d ∧ CI l G Y_M_drainOf e100 [.inr (.inr 70), .inl x1] m95 P101 ∧ (∀ z106 m107, P101 z106 m107 → inR z106 → wfM m107 → ((0 ≤ x1 ∧ x1 < (5 : Int)) ∧ (∀ m111, m111 = up m107 92 x1 z106 → (Wq l G false Y_M_startAnew d (QV P) 65 [(0, .inr (.inr 70)), (1, .inl x1), (2, .inl 0)] [] m111))))))))))))))) : Wq l G false Y_M_startAnew d (QV P) 23 [(0, .inr (.inr 70)), (1, .inl x1)] [] m := by
  refine Wp.wf (fun hw _ hl hs => ?_)
  have H0 := H hw (hl _ (List.mem_of_getElem? (i := 1) rfl))
  refine Wp.iload_n 1 1 d_M_startAnew_23 rfl rfl ?_
  refine Wp.aload_n 0 0 d_M_startAnew_24 rfl rfl ?_
  obtain ⟨e1, P2, hd3, ho4, H5⟩ := H0
  refine Wq.VI (st := [.inl x1]) [] d_M_startAnew_25 k_M_lots ml_M_338 rfl rfl rfl (fun h => by cases h) (Nat.le_of_ble_eq_true rfl) hd3 ho4 (fun z7 m8 hp9 hz10 hw11 => ?_)
  have H6 := H5 z7 m8 hp9 hz10 hw11
  obtain ⟨H13, H14⟩ := H6
  refine Wp.icmp_ge 100 d_M_startAnew_28 (by decide) (fun c12 => ?_) (fun c12 => ?_)
  · have H15 := H13 c12
    refine Wp.aload_n 0 0 d_M_startAnew_100 rfl rfl ?_
    refine Wp.getP 90 d_M_startAnew_101 fl_M_73 rfl rfl rfl ?_
    refine Wp.bipush d_M_startAnew_104 (by decide) (by decide) ?_
    refine Wp.aload_n 0 0 d_M_startAnew_106 rfl rfl ?_
    refine Wp.getP 77 d_M_startAnew_107 fl_M_33 rfl rfl rfl ?_
    refine Wp.aload_n 0 0 d_M_startAnew_110 rfl rfl ?_
    refine Wq.getI 28 rfl d_M_startAnew_111 fl_M_243 rfl (Or.inl rfl) ?_
    obtain ⟨s17, H18⟩ := H15
    refine Wp.iald d_M_startAnew_114 rfl (Or.inl rfl) s17.1 s17.2 ?_
    refine Wq.iast d_M_startAnew_115 rfl (by decide) (by decide) (fun m19 hm20 => ?_)
    have H21 := H18 m19 hm20
    refine Wp.aload_n 0 0 d_M_startAnew_116 rfl rfl ?_
    refine Wp.aload_n 0 0 d_M_startAnew_117 rfl rfl ?_
    refine Wp.iconst d_M_startAnew_118 (by decide) ?_
    refine Wp.aload_n 0 0 d_M_startAnew_119 rfl rfl ?_
    obtain ⟨e24, P25, hd26, ho27, H28⟩ := H21
    refine Wq.VI (st := [.inl 1, .inr (.inr 70), .inr (.inr 70)]) [] d_M_startAnew_120 k_M_lots ml_M_338 rfl rfl rfl (fun h => by cases h) (Nat.le_of_ble_eq_true rfl) hd26 ho27 (fun z30 m31 hp32 hz33 hw34 => ?_)
    have H29 := H28 z30 m31 hp32 hz33 hw34
    refine Wp.ishl d_M_startAnew_123 ?_
    refine Wp.iconst d_M_startAnew_124 (by decide) ?_
    obtain ⟨s35, H36⟩ := H29
    refine Wp.isub d_M_startAnew_125 s35 ?_
    refine Wp.iconst d_M_startAnew_126 (by decide) ?_
    refine Wp.aload_n 0 0 d_M_startAnew_127 rfl rfl ?_
    obtain ⟨e37, P38, hd39, ho40, H41⟩ := H36
    refine Wq.VI (st := [.inl 1, .inl ((bShl 1 z30) - 1), .inr (.inr 70), .inr (.inr 70)]) [] d_M_startAnew_128 k_M_lots ml_M_338 rfl rfl rfl (fun h => by cases h) (Nat.le_of_ble_eq_true rfl) hd39 ho40 (fun z43 m44 hp45 hz46 hw47 => ?_)
    have H42 := H41 z43 m44 hp45 hz46 hw47
    refine Wp.ishl d_M_startAnew_131 ?_
    refine Wp.iconst d_M_startAnew_132 (by decide) ?_
    obtain ⟨s48, H49⟩ := H42
    refine Wp.isub d_M_startAnew_133 s48 ?_
    obtain ⟨e50, P51, hd52, ho53, H54⟩ := H49
    refine Wq.VI (st := [.inr (.inr 70)]) [.inl ((bShl 1 z30) - 1), .inl ((bShl 1 z43) - 1)] d_M_startAnew_134 k_M_squareOf ml_M_351 rfl rfl rfl (fun h => by cases h) (Nat.le_of_ble_eq_true rfl) hd52 ho53 (fun z56 m57 hp58 hz59 hw60 => ?_)
    have H55 := H54 z56 m57 hp58 hz59 hw60
    refine Wq.putI 42 rfl d_M_startAnew_137 fl_M_354 (fun _ _ _ h => by cases h; rfl) rfl rfl rfl (fun m61 hm62 => ?_)
    have H63 := H55 m61 hm62
    refine Wp.aload_n 0 0 d_M_startAnew_140 rfl rfl ?_
    obtain ⟨e64, P65, hd66, ho67, H68⟩ := H63
    refine Wq.VV (st := []) [] d_M_startAnew_141 k_M_layNought ml_M_357 rfl rfl rfl (fun h => by cases h) (Nat.le_of_ble_eq_true rfl) hd66 ho67 (fun m71 hp72 hw74 => ?_)
    have H69 := H68 m71 hp72 hw74
    refine Wp.aload_n 0 0 d_M_startAnew_144 rfl rfl ?_
    refine Wp.iconst d_M_startAnew_145 (by decide) ?_
    refine Wq.putI 45 rfl d_M_startAnew_146 fl_M_360 (fun _ _ _ h => by cases h; rfl) rfl rfl rfl (fun m75 hm76 => ?_)
    have H77 := H69 m75 hm76
    refine Wp.aload_n 0 0 d_M_startAnew_149 rfl rfl ?_
    refine Wp.iconst d_M_startAnew_150 (by decide) ?_
    refine Wq.putI 46 rfl d_M_startAnew_151 fl_M_363 (fun _ _ _ h => by cases h; rfl) rfl rfl rfl (fun m78 hm79 => ?_)
    have H80 := H77 m78 hm79
    refine Wp.aload_n 0 0 d_M_startAnew_154 rfl rfl ?_
    refine Wp.iconst d_M_startAnew_155 (by decide) ?_
    refine Wq.putI 60 rfl d_M_startAnew_156 fl_M_366 (fun _ _ _ h => by cases h; rfl) rfl rfl rfl (fun m81 hm82 => ?_)
    have H83 := H80 m81 hm82
    refine Wp.aload_n 0 0 d_M_startAnew_159 rfl rfl ?_
    refine Wp.iconst d_M_startAnew_160 (by decide) ?_
    refine Wq.putI 48 rfl d_M_startAnew_161 fl_M_369 (fun _ _ _ h => by cases h; rfl) rfl rfl rfl (fun m84 hm85 => ?_)
    have H86 := H83 m84 hm85
    refine Wp.iconst d_M_startAnew_164 (by decide) ?_
    refine Wp.istore_n 1 [(0, .inr (.inr 70)), (1, .inl 0)] d_M_startAnew_165 rfl (by decide) rfl ?_
    exact H86
  · have H16 := H14 c12
    refine Wp.aload_n 0 0 d_M_startAnew_31 rfl rfl ?_
    refine Wp.getP 90 d_M_startAnew_32 fl_M_73 rfl rfl rfl ?_
    refine Wp.iconst d_M_startAnew_35 (by decide) ?_
    refine Wp.iload_n 1 1 d_M_startAnew_36 rfl rfl ?_
    obtain ⟨s87, H88⟩ := H16
    refine Wp.iadd d_M_startAnew_37 s87 ?_
    refine Wp.aload_n 0 0 d_M_startAnew_38 rfl rfl ?_
    refine Wp.getP 79 d_M_startAnew_39 fl_M_39 rfl rfl rfl ?_
    refine Wp.iconst d_M_startAnew_42 (by decide) ?_
    refine Wp.aload_n 0 0 d_M_startAnew_43 rfl rfl ?_
    refine Wq.getI 28 rfl d_M_startAnew_44 fl_M_243 rfl (Or.inl rfl) ?_
    obtain ⟨s89, H90⟩ := H88
    refine Wp.imul d_M_startAnew_47 s89 ?_
    refine Wp.iload_n 1 1 d_M_startAnew_48 rfl rfl ?_
    obtain ⟨s91, H92⟩ := H90
    refine Wp.iadd d_M_startAnew_49 s91 ?_
    obtain ⟨s93, H94⟩ := H92
    refine Wp.iald d_M_startAnew_50 rfl (Or.inl rfl) s93.1 s93.2 ?_
    obtain ⟨s118, H119⟩ := H94
    refine Wq.iast d_M_startAnew_51 rfl s118.1 s118.2 (fun m95 hm96 => ?_)
    have H97 := H119 m95 hm96
    refine Wp.aload_n 0 0 d_M_startAnew_52 rfl rfl ?_
    refine Wp.getP 92 d_M_startAnew_53 fl_M_79 rfl rfl rfl ?_
    refine Wp.iload_n 1 1 d_M_startAnew_56 rfl rfl ?_
    refine Wp.aload_n 0 0 d_M_startAnew_57 rfl rfl ?_
    refine Wp.iload_n 1 1 d_M_startAnew_58 rfl rfl ?_
    obtain ⟨e100, P101, hd102, ho103, H104⟩ := H97
    refine Wq.VI (st := [.inl x1, .inr (.inr 92)]) [.inl x1] d_M_startAnew_59 k_M_drainOf ml_M_345 rfl rfl rfl (fun h => by cases h) (Nat.le_of_ble_eq_true rfl) hd102 ho103 (fun z106 m107 hp108 hz109 hw110 => ?_)
    have H105 := H104 z106 m107 hp108 hz109 hw110
    obtain ⟨s116, H117⟩ := H105
    refine Wq.iast d_M_startAnew_62 rfl s116.1 s116.2 (fun m111 hm112 => ?_)
    have H113 := H117 m111 hm112
    refine Wp.iconst d_M_startAnew_63 (by decide) ?_
    refine Wp.istore_n 2 [(0, .inr (.inr 70)), (1, .inl x1), (2, .inl 0)] d_M_startAnew_64 rfl (by decide) rfl ?_
    exact H113
theorem s_M_startAnew_65 {l : Launch} {G : GT} {d : Nat} {P : MM → Prop} {m : MM} (x1 : Int) (x2 : Int)  (H : wfM m → inR x1 → inR x2 → ∃ (e1 : Nat) (P2 : Int → MM → Prop), e1 < d ∧ CI l G Y_M_lots e1 [.inr (.inr 70)] m P2 ∧ (∀ z7 m8, P2 z7 m8 → inR z7 → wfM m8 → ((x2 ≥ z7 → ((inR (x1 + 1)) ∧ (Wq l G false Y_M_startAnew d (QV P) 23 [(0, .inr (.inr 70)), (1, .inl (x1 + 1))] [] m8))) ∧ (¬ (x2 ≥ z7) → ((0 ≤ x1 ∧ x1 < (5 : Int)) ∧ (∃ (e21 : Nat) (P22 : Int → MM → Prop), e21 < d ∧ CI l G Y_M_wideOf e21 [.inr (.inr 70), .inl x1, .inl x2] m8 P22 ∧ (∀ z27 m28, P22 z27 m28 → inR z27 → wfM m28 → ((inR ((m8 92 x1) + z27)) ∧ ((0 ≤ x1 ∧ x1 < (5 : Int)) ∧ (∀ m34, m34 = up m28 92 x1 ((m8 92 x1) + z27) → ((inR (x2 + 1)) ∧ (Wq l G false Y_M_startAnew d (QV P) 65 [(0, .inr (.inr 70)), (1, .inl x1), (2, .inl (x2 + 1))] [] m34)))))))))))) : Wq l G false Y_M_startAnew d (QV P) 65 [(0, .inr (.inr 70)), (1, .inl x1), (2, .inl x2)] [] m := by
  refine Wp.wf (fun hw _ hl hs => ?_)
  have H0 := H hw (hl _ (List.mem_of_getElem? (i := 1) rfl)) (hl _ (List.mem_of_getElem? (i := 2) rfl))
  refine Wp.iload_n 2 2 d_M_startAnew_65 rfl rfl ?_
  refine Wp.aload_n 0 0 d_M_startAnew_66 rfl rfl ?_
  obtain ⟨e1, P2, hd3, ho4, H5⟩ := H0
  refine Wq.VI (st := [.inl x2]) [] d_M_startAnew_67 k_M_lots ml_M_338 rfl rfl rfl (fun h => by cases h) (Nat.le_of_ble_eq_true rfl) hd3 ho4 (fun z7 m8 hp9 hz10 hw11 => ?_)
  have H6 := H5 z7 m8 hp9 hz10 hw11
  obtain ⟨H13, H14⟩ := H6
  refine Wp.icmp_ge 94 d_M_startAnew_70 (by decide) (fun c12 => ?_) (fun c12 => ?_)
  · have H15 := H13 c12
    obtain ⟨s17, H18⟩ := H15
    refine Wp.iinc 1 1 [(0, .inr (.inr 70)), (1, .inl (x1 + 1)), (2, .inl x2)] d_M_startAnew_94 rfl s17 (by decide) rfl ?_
    refine Wp.goto 23 d_M_startAnew_97 (by decide) ?_
    refine Wp.pick [0, 1] [(0, .inr (.inr 70)), (1, .inl (x1 + 1))] rfl ?_
    exact H18
  · have H16 := H14 c12
    refine Wp.aload_n 0 0 d_M_startAnew_73 rfl rfl ?_
    refine Wp.getP 92 d_M_startAnew_74 fl_M_79 rfl rfl rfl ?_
    refine Wp.iload_n 1 1 d_M_startAnew_77 rfl rfl ?_
    refine Wp.dup2 d_M_startAnew_78 rfl rfl ?_
    obtain ⟨s19, H20⟩ := H16
    refine Wp.iald d_M_startAnew_79 rfl (Or.inl rfl) s19.1 s19.2 ?_
    refine Wp.aload_n 0 0 d_M_startAnew_80 rfl rfl ?_
    refine Wp.iload_n 1 1 d_M_startAnew_81 rfl rfl ?_
    refine Wp.iload_n 2 2 d_M_startAnew_82 rfl rfl ?_
    obtain ⟨e21, P22, hd23, ho24, H25⟩ := H20
    refine Wq.VI (st := [.inl (m8 92 x1), .inl x1, .inr (.inr 92)]) [.inl x1, .inl x2] d_M_startAnew_83 k_M_wideOf ml_M_348 rfl rfl rfl (fun h => by cases h) (Nat.le_of_ble_eq_true rfl) hd23 ho24 (fun z27 m28 hp29 hz30 hw31 => ?_)
    have H26 := H25 z27 m28 hp29 hz30 hw31
    obtain ⟨s32, H33⟩ := H26
    refine Wp.iadd d_M_startAnew_86 s32 ?_
    obtain ⟨s41, H42⟩ := H33
    refine Wq.iast d_M_startAnew_87 rfl s41.1 s41.2 (fun m34 hm35 => ?_)
    have H36 := H42 m34 hm35
    obtain ⟨s39, H40⟩ := H36
    refine Wp.iinc 2 2 [(0, .inr (.inr 70)), (1, .inl x1), (2, .inl (x2 + 1))] d_M_startAnew_88 rfl s39 (by decide) rfl ?_
    refine Wp.goto 65 d_M_startAnew_91 (by decide) ?_
    exact H40
theorem s_M_startAnew_166 {l : Launch} {G : GT} {d : Nat} {P : MM → Prop} {m : MM} (x1 : Int)  (H : wfM m → inR x1 → (x1 ≥ 3 → (P m)) ∧ (¬ (x1 ≥ 3) → ((0 ≤ x1 ∧ x1 < (3 : Int)) ∧ (∀ m6, m6 = up m 110 x1 0 → ((inR (x1 + 1)) ∧ (Wq l G false Y_M_startAnew d (QV P) 166 [(0, .inr (.inr 70)), (1, .inl (x1 + 1))] [] m6)))))) : Wq l G false Y_M_startAnew d (QV P) 166 [(0, .inr (.inr 70)), (1, .inl x1)] [] m := by
  refine Wp.wf (fun hw _ hl hs => ?_)
  have H0 := H hw (hl _ (List.mem_of_getElem? (i := 1) rfl))
  refine Wp.iload_n 1 1 d_M_startAnew_166 rfl rfl ?_
  refine Wp.iconst d_M_startAnew_167 (by decide) ?_
  obtain ⟨H2, H3⟩ := H0
  refine Wp.icmp_ge 184 d_M_startAnew_168 (by decide) (fun c1 => ?_) (fun c1 => ?_)
  · have H4 := H2 c1
    exact Wq.vret d_M_startAnew_184 rfl H4
  · have H5 := H3 c1
    refine Wp.aload_n 0 0 d_M_startAnew_171 rfl rfl ?_
    refine Wp.getP 110 d_M_startAnew_172 fl_M_133 rfl rfl rfl ?_
    refine Wp.iload_n 1 1 d_M_startAnew_175 rfl rfl ?_
    refine Wp.iconst d_M_startAnew_176 (by decide) ?_
    obtain ⟨s13, H14⟩ := H5
    refine Wq.zast d_M_startAnew_177 rfl s13.1 s13.2 (by decide) (fun m6 hm7 => ?_)
    have H8 := H14 m6 hm7
    obtain ⟨s11, H12⟩ := H8
    refine Wp.iinc 1 1 [(0, .inr (.inr 70)), (1, .inl (x1 + 1))] d_M_startAnew_178 rfl s11 (by decide) rfl ?_
    refine Wp.goto 166 d_M_startAnew_181 (by decide) ?_
    exact H12
theorem d_M_lots_0 : decode Y_M_lots.2.1 0 = .ok (.aload_n 0, 1) := by decide +kernel
theorem d_M_lots_1 : decode Y_M_lots.2.1 1 = .ok (.getfield 20, 3) := by decide +kernel
theorem d_M_lots_4 : decode Y_M_lots.2.1 4 = .ok (.aload_n 0, 1) := by decide +kernel
theorem d_M_lots_5 : decode Y_M_lots.2.1 5 = .ok (.getfield 243, 3) := by decide +kernel
theorem d_M_lots_8 : decode Y_M_lots.2.1 8 = .ok (.iaload, 1) := by decide +kernel
theorem d_M_lots_9 : decode Y_M_lots.2.1 9 = .ok (.ireturn, 1) := by decide +kernel
theorem e_M_lots {l : Launch} {G : GT} {d : Nat} {P : Int → MM → Prop} {m : MM}   (H : wfM m → (0 ≤ (m 70 28) ∧ (m 70 28) < (2 : Int)) ∧ (P (m 73 (m 70 28)) m)) : CI l G Y_M_lots d [.inr (.inr 70)] m P := by
  refine CI.of [(0, .inr (.inr 70))] k_M_lots.1 (Nat.le_of_ble_eq_true rfl) rfl (Wp.wf (fun hw _ hl hs => ?_))
  have H0 := H hw
  refine Wp.aload_n 0 0 d_M_lots_0 rfl rfl ?_
  refine Wp.getP 73 d_M_lots_1 fl_M_20 rfl rfl rfl ?_
  refine Wp.aload_n 0 0 d_M_lots_4 rfl rfl ?_
  refine Wq.getI 28 rfl d_M_lots_5 fl_M_243 rfl (Or.inl rfl) ?_
  obtain ⟨s1, H2⟩ := H0
  refine Wp.iald d_M_lots_8 rfl (Or.inl rfl) s1.1 s1.2 ?_
  exact Wq.iret d_M_lots_9 rfl H2
theorem d_M_drainOf_0 : decode Y_M_drainOf.2.1 0 = .ok (.aload_n 0, 1) := by decide +kernel
theorem d_M_drainOf_1 : decode Y_M_drainOf.2.1 1 = .ok (.getfield 45, 3) := by decide +kernel
theorem d_M_drainOf_4 : decode Y_M_drainOf.2.1 4 = .ok (.iconst 5, 1) := by decide +kernel
theorem d_M_drainOf_5 : decode Y_M_drainOf.2.1 5 = .ok (.aload_n 0, 1) := by decide +kernel
theorem d_M_drainOf_6 : decode Y_M_drainOf.2.1 6 = .ok (.getfield 243, 3) := by decide +kernel
theorem d_M_drainOf_9 : decode Y_M_drainOf.2.1 9 = .ok (.imul, 1) := by decide +kernel
theorem d_M_drainOf_10 : decode Y_M_drainOf.2.1 10 = .ok (.iload_n 1, 1) := by decide +kernel
theorem d_M_drainOf_11 : decode Y_M_drainOf.2.1 11 = .ok (.iadd, 1) := by decide +kernel
theorem d_M_drainOf_12 : decode Y_M_drainOf.2.1 12 = .ok (.iaload, 1) := by decide +kernel
theorem d_M_drainOf_13 : decode Y_M_drainOf.2.1 13 = .ok (.ireturn, 1) := by decide +kernel
theorem e_M_drainOf {l : Launch} {G : GT} {d : Nat} {P : Int → MM → Prop} {m : MM} (x1 : Int)  (H : wfM m → inR x1 → (inR (5 * (m 70 28))) ∧ ((inR ((5 * (m 70 28)) + x1)) ∧ ((0 ≤ ((5 * (m 70 28)) + x1) ∧ ((5 * (m 70 28)) + x1) < (10 : Int)) ∧ (P (m 81 ((5 * (m 70 28)) + x1)) m)))) : CI l G Y_M_drainOf d [.inr (.inr 70), .inl x1] m P := by
  refine CI.of [(0, .inr (.inr 70)), (1, .inl x1)] k_M_drainOf.1 (Nat.le_of_ble_eq_true rfl) rfl (Wp.wf (fun hw _ hl hs => ?_))
  have H0 := H hw (hl _ (List.mem_of_getElem? (i := 1) rfl))
  refine Wp.aload_n 0 0 d_M_drainOf_0 rfl rfl ?_
  refine Wp.getP 81 d_M_drainOf_1 fl_M_45 rfl rfl rfl ?_
  refine Wp.iconst d_M_drainOf_4 (by decide) ?_
  refine Wp.aload_n 0 0 d_M_drainOf_5 rfl rfl ?_
  refine Wq.getI 28 rfl d_M_drainOf_6 fl_M_243 rfl (Or.inl rfl) ?_
  obtain ⟨s1, H2⟩ := H0
  refine Wp.imul d_M_drainOf_9 s1 ?_
  refine Wp.iload_n 1 1 d_M_drainOf_10 rfl rfl ?_
  obtain ⟨s3, H4⟩ := H2
  refine Wp.iadd d_M_drainOf_11 s3 ?_
  obtain ⟨s5, H6⟩ := H4
  refine Wp.iald d_M_drainOf_12 rfl (Or.inl rfl) s5.1 s5.2 ?_
  exact Wq.iret d_M_drainOf_13 rfl H6
theorem d_M_wideOf_0 : decode Y_M_wideOf.2.1 0 = .ok (.aload_n 0, 1) := by decide +kernel
theorem d_M_wideOf_1 : decode Y_M_wideOf.2.1 1 = .ok (.getfield 42, 3) := by decide +kernel
theorem d_M_wideOf_4 : decode Y_M_wideOf.2.1 4 = .ok (.iconst 5, 1) := by decide +kernel
theorem d_M_wideOf_5 : decode Y_M_wideOf.2.1 5 = .ok (.iconst 5, 1) := by decide +kernel
theorem d_M_wideOf_6 : decode Y_M_wideOf.2.1 6 = .ok (.aload_n 0, 1) := by decide +kernel
theorem d_M_wideOf_7 : decode Y_M_wideOf.2.1 7 = .ok (.getfield 243, 3) := by decide +kernel
theorem d_M_wideOf_10 : decode Y_M_wideOf.2.1 10 = .ok (.imul, 1) := by decide +kernel
theorem d_M_wideOf_11 : decode Y_M_wideOf.2.1 11 = .ok (.iload_n 1, 1) := by decide +kernel
theorem d_M_wideOf_12 : decode Y_M_wideOf.2.1 12 = .ok (.iadd, 1) := by decide +kernel
theorem d_M_wideOf_13 : decode Y_M_wideOf.2.1 13 = .ok (.imul, 1) := by decide +kernel
theorem d_M_wideOf_14 : decode Y_M_wideOf.2.1 14 = .ok (.iload_n 2, 1) := by decide +kernel
theorem d_M_wideOf_15 : decode Y_M_wideOf.2.1 15 = .ok (.iadd, 1) := by decide +kernel
theorem d_M_wideOf_16 : decode Y_M_wideOf.2.1 16 = .ok (.iaload, 1) := by decide +kernel
theorem d_M_wideOf_17 : decode Y_M_wideOf.2.1 17 = .ok (.ireturn, 1) := by decide +kernel
theorem e_M_wideOf {l : Launch} {G : GT} {d : Nat} {P : Int → MM → Prop} {m : MM} (x1 : Int) (x2 : Int)  (H : wfM m → inR x1 → inR x2 → (inR (5 * (m 70 28))) ∧ ((inR ((5 * (m 70 28)) + x1)) ∧ ((inR (5 * ((5 * (m 70 28)) + x1))) ∧ ((inR ((5 * ((5 * (m 70 28)) + x1)) + x2)) ∧ ((0 ≤ ((5 * ((5 * (m 70 28)) + x1)) + x2) ∧ ((5 * ((5 * (m 70 28)) + x1)) + x2) < (50 : Int)) ∧ (P (m 80 ((5 * ((5 * (m 70 28)) + x1)) + x2)) m)))))) : CI l G Y_M_wideOf d [.inr (.inr 70), .inl x1, .inl x2] m P := by
  refine CI.of [(0, .inr (.inr 70)), (1, .inl x1), (2, .inl x2)] k_M_wideOf.1 (Nat.le_of_ble_eq_true rfl) rfl (Wp.wf (fun hw _ hl hs => ?_))
  have H0 := H hw (hl _ (List.mem_of_getElem? (i := 1) rfl)) (hl _ (List.mem_of_getElem? (i := 2) rfl))
  refine Wp.aload_n 0 0 d_M_wideOf_0 rfl rfl ?_
  refine Wp.getP 80 d_M_wideOf_1 fl_M_42 rfl rfl rfl ?_
  refine Wp.iconst d_M_wideOf_4 (by decide) ?_
  refine Wp.iconst d_M_wideOf_5 (by decide) ?_
  refine Wp.aload_n 0 0 d_M_wideOf_6 rfl rfl ?_
  refine Wq.getI 28 rfl d_M_wideOf_7 fl_M_243 rfl (Or.inl rfl) ?_
  obtain ⟨s1, H2⟩ := H0
  refine Wp.imul d_M_wideOf_10 s1 ?_
  refine Wp.iload_n 1 1 d_M_wideOf_11 rfl rfl ?_
  obtain ⟨s3, H4⟩ := H2
  refine Wp.iadd d_M_wideOf_12 s3 ?_
  obtain ⟨s5, H6⟩ := H4
  refine Wp.imul d_M_wideOf_13 s5 ?_
  refine Wp.iload_n 2 2 d_M_wideOf_14 rfl rfl ?_
  obtain ⟨s7, H8⟩ := H6
  refine Wp.iadd d_M_wideOf_15 s7 ?_
  obtain ⟨s9, H10⟩ := H8
  refine Wp.iald d_M_wideOf_16 rfl (Or.inl rfl) s9.1 s9.2 ?_
  exact Wq.iret d_M_wideOf_17 rfl H10
theorem d_M_squareOf_0 : decode Y_M_squareOf.2.1 0 = .ok (.iload_n 1, 1) := by decide +kernel
theorem d_M_squareOf_1 : decode Y_M_squareOf.2.1 1 = .ok (.invokestatic 471, 3) := by decide +kernel
theorem d_M_squareOf_4 : decode Y_M_squareOf.2.1 4 = .ok (.istore_n 3, 1) := by decide +kernel
theorem d_M_squareOf_5 : decode Y_M_squareOf.2.1 5 = .ok (.iconst 0, 1) := by decide +kernel
theorem d_M_squareOf_6 : decode Y_M_squareOf.2.1 6 = .ok (.istore 4, 2) := by decide +kernel
theorem d_M_squareOf_8 : decode Y_M_squareOf.2.1 8 = .ok (.iload 4, 2) := by decide +kernel
theorem d_M_squareOf_10 : decode Y_M_squareOf.2.1 10 = .ok (.iload_n 3, 1) := by decide +kernel
theorem d_M_squareOf_11 : decode Y_M_squareOf.2.1 11 = .ok (.iload_n 3, 1) := by decide +kernel
theorem d_M_squareOf_12 : decode Y_M_squareOf.2.1 12 = .ok (.imul, 1) := by decide +kernel
theorem d_M_squareOf_13 : decode Y_M_squareOf.2.1 13 = .ok (.if_icmp .ge 36, 3) := by decide +kernel
theorem d_M_squareOf_16 : decode Y_M_squareOf.2.1 16 = .ok (.aload_n 0, 1) := by decide +kernel
theorem d_M_squareOf_17 : decode Y_M_squareOf.2.1 17 = .ok (.getfield 100, 3) := by decide +kernel
theorem d_M_squareOf_20 : decode Y_M_squareOf.2.1 20 = .ok (.iload 4, 2) := by decide +kernel
theorem d_M_squareOf_22 : decode Y_M_squareOf.2.1 22 = .ok (.aload_n 0, 1) := by decide +kernel
theorem d_M_squareOf_23 : decode Y_M_squareOf.2.1 23 = .ok (.iload_n 1, 1) := by decide +kernel
theorem d_M_squareOf_24 : decode Y_M_squareOf.2.1 24 = .ok (.iload 4, 2) := by decide +kernel
theorem d_M_squareOf_26 : decode Y_M_squareOf.2.1 26 = .ok (.iload_n 3, 1) := by decide +kernel
theorem d_M_squareOf_27 : decode Y_M_squareOf.2.1 27 = .ok (.idiv, 1) := by decide +kernel
theorem d_M_squareOf_28 : decode Y_M_squareOf.2.1 28 = .ok (.invokestatic 474, 3) := by decide +kernel
theorem d_M_squareOf_31 : decode Y_M_squareOf.2.1 31 = .ok (.iload_n 2, 1) := by decide +kernel
theorem d_M_squareOf_32 : decode Y_M_squareOf.2.1 32 = .ok (.iload 4, 2) := by decide +kernel
theorem d_M_squareOf_34 : decode Y_M_squareOf.2.1 34 = .ok (.iload_n 3, 1) := by decide +kernel
theorem d_M_squareOf_35 : decode Y_M_squareOf.2.1 35 = .ok (.irem, 1) := by decide +kernel
theorem d_M_squareOf_36 : decode Y_M_squareOf.2.1 36 = .ok (.invokestatic 474, 3) := by decide +kernel
theorem d_M_squareOf_39 : decode Y_M_squareOf.2.1 39 = .ok (.invokevirtual 477, 3) := by decide +kernel
theorem d_M_squareOf_42 : decode Y_M_squareOf.2.1 42 = .ok (.lastore, 1) := by decide +kernel
theorem d_M_squareOf_43 : decode Y_M_squareOf.2.1 43 = .ok (.iinc 4 1, 3) := by decide +kernel
theorem d_M_squareOf_46 : decode Y_M_squareOf.2.1 46 = .ok (.goto (-38), 3) := by decide +kernel
theorem d_M_squareOf_49 : decode Y_M_squareOf.2.1 49 = .ok (.lconst 1, 1) := by decide +kernel
theorem d_M_squareOf_50 : decode Y_M_squareOf.2.1 50 = .ok (.lstore 4, 2) := by decide +kernel
theorem d_M_squareOf_52 : decode Y_M_squareOf.2.1 52 = .ok (.iconst 1, 1) := by decide +kernel
theorem d_M_squareOf_53 : decode Y_M_squareOf.2.1 53 = .ok (.istore 6, 2) := by decide +kernel
theorem d_M_squareOf_55 : decode Y_M_squareOf.2.1 55 = .ok (.iconst 0, 1) := by decide +kernel
theorem d_M_squareOf_56 : decode Y_M_squareOf.2.1 56 = .ok (.istore 7, 2) := by decide +kernel
theorem d_M_squareOf_58 : decode Y_M_squareOf.2.1 58 = .ok (.iload 7, 2) := by decide +kernel
theorem d_M_squareOf_60 : decode Y_M_squareOf.2.1 60 = .ok (.iload_n 3, 1) := by decide +kernel
theorem d_M_squareOf_61 : decode Y_M_squareOf.2.1 61 = .ok (.if_icmp .ge 114, 3) := by decide +kernel
theorem d_M_squareOf_64 : decode Y_M_squareOf.2.1 64 = .ok (.iload 7, 2) := by decide +kernel
theorem d_M_squareOf_66 : decode Y_M_squareOf.2.1 66 = .ok (.istore 8, 2) := by decide +kernel
theorem d_M_squareOf_68 : decode Y_M_squareOf.2.1 68 = .ok (.iload 8, 2) := by decide +kernel
theorem d_M_squareOf_70 : decode Y_M_squareOf.2.1 70 = .ok (.iload_n 3, 1) := by decide +kernel
theorem d_M_squareOf_71 : decode Y_M_squareOf.2.1 71 = .ok (.if_icmp .ge 26, 3) := by decide +kernel
theorem d_M_squareOf_74 : decode Y_M_squareOf.2.1 74 = .ok (.aload_n 0, 1) := by decide +kernel
theorem d_M_squareOf_75 : decode Y_M_squareOf.2.1 75 = .ok (.getfield 100, 3) := by decide +kernel
theorem d_M_squareOf_78 : decode Y_M_squareOf.2.1 78 = .ok (.iload 8, 2) := by decide +kernel
theorem d_M_squareOf_80 : decode Y_M_squareOf.2.1 80 = .ok (.iload_n 3, 1) := by decide +kernel
theorem d_M_squareOf_81 : decode Y_M_squareOf.2.1 81 = .ok (.imul, 1) := by decide +kernel
theorem d_M_squareOf_82 : decode Y_M_squareOf.2.1 82 = .ok (.iload 7, 2) := by decide +kernel
theorem d_M_squareOf_84 : decode Y_M_squareOf.2.1 84 = .ok (.iadd, 1) := by decide +kernel
theorem d_M_squareOf_85 : decode Y_M_squareOf.2.1 85 = .ok (.laload, 1) := by decide +kernel
theorem d_M_squareOf_86 : decode Y_M_squareOf.2.1 86 = .ok (.lconst 0, 1) := by decide +kernel
theorem d_M_squareOf_87 : decode Y_M_squareOf.2.1 87 = .ok (.lcmp, 1) := by decide +kernel
theorem d_M_squareOf_88 : decode Y_M_squareOf.2.1 88 = .ok (.ifCond .ne 9, 3) := by decide +kernel
theorem d_M_squareOf_91 : decode Y_M_squareOf.2.1 91 = .ok (.iinc 8 1, 3) := by decide +kernel
theorem d_M_squareOf_94 : decode Y_M_squareOf.2.1 94 = .ok (.goto (-26), 3) := by decide +kernel
theorem d_M_squareOf_97 : decode Y_M_squareOf.2.1 97 = .ok (.iload 8, 2) := by decide +kernel
theorem d_M_squareOf_99 : decode Y_M_squareOf.2.1 99 = .ok (.iload_n 3, 1) := by decide +kernel
theorem d_M_squareOf_100 : decode Y_M_squareOf.2.1 100 = .ok (.if_icmp .ne 5, 3) := by decide +kernel
theorem d_M_squareOf_103 : decode Y_M_squareOf.2.1 103 = .ok (.iconst 0, 1) := by decide +kernel
theorem d_M_squareOf_104 : decode Y_M_squareOf.2.1 104 = .ok (.ireturn, 1) := by decide +kernel
theorem d_M_squareOf_105 : decode Y_M_squareOf.2.1 105 = .ok (.iload 8, 2) := by decide +kernel
theorem d_M_squareOf_107 : decode Y_M_squareOf.2.1 107 = .ok (.iload 7, 2) := by decide +kernel
theorem d_M_squareOf_109 : decode Y_M_squareOf.2.1 109 = .ok (.if_icmp .eq 17, 3) := by decide +kernel
theorem d_M_squareOf_112 : decode Y_M_squareOf.2.1 112 = .ok (.iload 6, 2) := by decide +kernel
theorem d_M_squareOf_114 : decode Y_M_squareOf.2.1 114 = .ok (.ineg, 1) := by decide +kernel
theorem d_M_squareOf_115 : decode Y_M_squareOf.2.1 115 = .ok (.istore 6, 2) := by decide +kernel
theorem d_M_squareOf_117 : decode Y_M_squareOf.2.1 117 = .ok (.aload_n 0, 1) := by decide +kernel
theorem d_M_squareOf_118 : decode Y_M_squareOf.2.1 118 = .ok (.iload_n 3, 1) := by decide +kernel
theorem d_M_squareOf_119 : decode Y_M_squareOf.2.1 119 = .ok (.iload 7, 2) := by decide +kernel
theorem d_M_squareOf_121 : decode Y_M_squareOf.2.1 121 = .ok (.iload 8, 2) := by decide +kernel
theorem d_M_squareOf_123 : decode Y_M_squareOf.2.1 123 = .ok (.invokevirtual 481, 3) := by decide +kernel
theorem d_M_squareOf_126 : decode Y_M_squareOf.2.1 126 = .ok (.iload 7, 2) := by decide +kernel
theorem d_M_squareOf_128 : decode Y_M_squareOf.2.1 128 = .ok (.iconst 1, 1) := by decide +kernel
theorem d_M_squareOf_129 : decode Y_M_squareOf.2.1 129 = .ok (.iadd, 1) := by decide +kernel
theorem d_M_squareOf_130 : decode Y_M_squareOf.2.1 130 = .ok (.istore 9, 2) := by decide +kernel
theorem d_M_squareOf_132 : decode Y_M_squareOf.2.1 132 = .ok (.iload 9, 2) := by decide +kernel
theorem d_M_squareOf_134 : decode Y_M_squareOf.2.1 134 = .ok (.iload_n 3, 1) := by decide +kernel
theorem d_M_squareOf_135 : decode Y_M_squareOf.2.1 135 = .ok (.if_icmp .ge 20, 3) := by decide +kernel
theorem d_M_squareOf_138 : decode Y_M_squareOf.2.1 138 = .ok (.aload_n 0, 1) := by decide +kernel
theorem d_M_squareOf_139 : decode Y_M_squareOf.2.1 139 = .ok (.iload_n 3, 1) := by decide +kernel
theorem d_M_squareOf_140 : decode Y_M_squareOf.2.1 140 = .ok (.iload 7, 2) := by decide +kernel
theorem d_M_squareOf_142 : decode Y_M_squareOf.2.1 142 = .ok (.iload 9, 2) := by decide +kernel
theorem d_M_squareOf_144 : decode Y_M_squareOf.2.1 144 = .ok (.lload 4, 2) := by decide +kernel
theorem d_M_squareOf_146 : decode Y_M_squareOf.2.1 146 = .ok (.invokevirtual 485, 3) := by decide +kernel
theorem d_M_squareOf_149 : decode Y_M_squareOf.2.1 149 = .ok (.iinc 9 1, 3) := by decide +kernel
theorem d_M_squareOf_152 : decode Y_M_squareOf.2.1 152 = .ok (.goto (-20), 3) := by decide +kernel
theorem d_M_squareOf_155 : decode Y_M_squareOf.2.1 155 = .ok (.aload_n 0, 1) := by decide +kernel
theorem d_M_squareOf_156 : decode Y_M_squareOf.2.1 156 = .ok (.getfield 100, 3) := by decide +kernel
theorem d_M_squareOf_159 : decode Y_M_squareOf.2.1 159 = .ok (.iload 7, 2) := by decide +kernel
theorem d_M_squareOf_161 : decode Y_M_squareOf.2.1 161 = .ok (.iload_n 3, 1) := by decide +kernel
theorem d_M_squareOf_162 : decode Y_M_squareOf.2.1 162 = .ok (.imul, 1) := by decide +kernel
theorem d_M_squareOf_163 : decode Y_M_squareOf.2.1 163 = .ok (.iload 7, 2) := by decide +kernel
theorem d_M_squareOf_165 : decode Y_M_squareOf.2.1 165 = .ok (.iadd, 1) := by decide +kernel
theorem d_M_squareOf_166 : decode Y_M_squareOf.2.1 166 = .ok (.laload, 1) := by decide +kernel
theorem d_M_squareOf_167 : decode Y_M_squareOf.2.1 167 = .ok (.lstore 4, 2) := by decide +kernel
theorem d_M_squareOf_169 : decode Y_M_squareOf.2.1 169 = .ok (.iinc 7 1, 3) := by decide +kernel
theorem d_M_squareOf_172 : decode Y_M_squareOf.2.1 172 = .ok (.goto (-114), 3) := by decide +kernel
theorem d_M_squareOf_175 : decode Y_M_squareOf.2.1 175 = .ok (.iload 6, 2) := by decide +kernel
theorem d_M_squareOf_177 : decode Y_M_squareOf.2.1 177 = .ok (.i2l, 1) := by decide +kernel
theorem d_M_squareOf_178 : decode Y_M_squareOf.2.1 178 = .ok (.lload 4, 2) := by decide +kernel
theorem d_M_squareOf_180 : decode Y_M_squareOf.2.1 180 = .ok (.lmul, 1) := by decide +kernel
theorem d_M_squareOf_181 : decode Y_M_squareOf.2.1 181 = .ok (.l2i, 1) := by decide +kernel
theorem d_M_squareOf_182 : decode Y_M_squareOf.2.1 182 = .ok (.ireturn, 1) := by decide +kernel
theorem e_M_squareOf {l : Launch} {G : GT} {d : Nat} {P : Int → MM → Prop} {m : MM} (x1 : Int) (x2 : Int)  (H : wfM m → inR x1 → inR x2 → ∃ (e1 : Nat) (P2 : Int → MM → Prop), e1 < d ∧ CI l G Y_M_bitsOf e1 [.inl x1] m P2 ∧ (∀ z7 m8, P2 z7 m8 → inR z7 → wfM m8 → (Wq l G false Y_M_squareOf d (QI P) 8 [(0, .inr (.inr 70)), (1, .inl x1), (2, .inl x2), (3, .inl z7), (4, .inl 0)] [] m8))) : CI l G Y_M_squareOf d [.inr (.inr 70), .inl x1, .inl x2] m P := by
  refine CI.of [(0, .inr (.inr 70)), (1, .inl x1), (2, .inl x2)] k_M_squareOf.1 (Nat.le_of_ble_eq_true rfl) rfl (Wp.wf (fun hw _ hl hs => ?_))
  have H0 := H hw (hl _ (List.mem_of_getElem? (i := 1) rfl)) (hl _ (List.mem_of_getElem? (i := 2) rfl))
  refine Wp.iload_n 1 1 d_M_squareOf_0 rfl rfl ?_
  obtain ⟨e1, P2, hd3, ho4, H5⟩ := H0
  refine Wq.SI (st := []) [.inl x1] d_M_squareOf_1 k_M_bitsOf ml_M_471 rfl  (fun h => by cases h) (Nat.le_of_ble_eq_true rfl) hd3 ho4 (fun z7 m8 hp9 hz10 hw11 => ?_)
  have H6 := H5 z7 m8 hp9 hz10 hw11
  refine Wp.istore_n 3 [(0, .inr (.inr 70)), (1, .inl x1), (2, .inl x2), (3, .inl z7)] d_M_squareOf_4 rfl (by decide) rfl ?_
  refine Wp.iconst d_M_squareOf_5 (by decide) ?_
  refine Wp.istore 4 [(0, .inr (.inr 70)), (1, .inl x1), (2, .inl x2), (3, .inl z7), (4, .inl 0)] d_M_squareOf_6 (by decide) rfl ?_
  exact H6
theorem s_M_squareOf_8 {l : Launch} {G : GT} {d : Nat} {P : Int → MM → Prop} {m : MM} (x1 : Int) (x2 : Int) (x3 : Int) (x4 : Int)  (H : wfM m → inR x1 → inR x2 → inR x3 → inR x4 → (inR (x3 * x3)) ∧ ((x4 ≥ (x3 * x3) → (Wq l G false Y_M_squareOf d (QI P) 58 [(0, .inr (.inr 70)), (3, .inl x3), (4, .inr (.inl 1)), (6, .inl 1), (7, .inl 0)] [] m)) ∧ (¬ (x4 ≥ (x3 * x3)) → ((0 < x3) ∧ (∃ (e10 : Nat) (P11 : Int → MM → Prop), e10 < d ∧ CI l G Y_M_nthOf e10 [.inl x1, .inl (Int.tdiv x4 x3)] m P11 ∧ (∀ z16 m17, P11 z16 m17 → inR z16 → wfM m17 → ((x3 ≠ 0) ∧ (∃ (e23 : Nat) (P24 : Int → MM → Prop), e23 < d ∧ CI l G Y_M_nthOf e23 [.inl x2, .inl (Int.tmod x4 x3)] m17 P24 ∧ (∀ z29 m30, P24 z29 m30 → inR z29 → wfM m30 → (∃ (e34 : Nat) (P35 : Int → MM → Prop), e34 < d ∧ CJ l G Y_M_entry e34 [.inr (.inr 70), .inl z16, .inl z29] m30 P35 ∧ (∀ z40 m41, P35 z40 m41 → inL z40 → wfM m41 → ((0 ≤ x4 ∧ x4 < (25 : Int)) ∧ (∀ m45, m45 = up m41 99 x4 z40 → ((inR (x4 + 1)) ∧ (Wq l G false Y_M_squareOf d (QI P) 8 [(0, .inr (.inr 70)), (1, .inl x1), (2, .inl x2), (3, .inl x3), (4, .inl (x4 + 1))] [] m45))))))))))))))) : Wq l G false Y_M_squareOf d (QI P) 8 [(0, .inr (.inr 70)), (1, .inl x1), (2, .inl x2), (3, .inl x3), (4, .inl x4)] [] m := by
  refine Wp.wf (fun hw _ hl hs => ?_)
  have H0 := H hw (hl _ (List.mem_of_getElem? (i := 1) rfl)) (hl _ (List.mem_of_getElem? (i := 2) rfl)) (hl _ (List.mem_of_getElem? (i := 3) rfl)) (hl _ (List.mem_of_getElem? (i := 4) rfl))
  refine Wp.iload 4 4 d_M_squareOf_8 rfl ?_
  refine Wp.iload_n 3 3 d_M_squareOf_10 rfl rfl ?_
  refine Wp.iload_n 3 3 d_M_squareOf_11 rfl rfl ?_
  obtain ⟨s1, H2⟩ := H0
  refine Wp.imul d_M_squareOf_12 s1 ?_
  obtain ⟨H4, H5⟩ := H2
  refine Wp.icmp_ge 49 d_M_squareOf_13 (by decide) (fun c3 => ?_) (fun c3 => ?_)
  · have H6 := H4 c3
    refine Wp.lconst (x := 1) d_M_squareOf_49 (by decide) (by decide) ?_
    refine Wp.lstore 4 [(0, .inr (.inr 70)), (1, .inl x1), (2, .inl x2), (3, .inl x3), (4, .inr (.inl 1))] d_M_squareOf_50 (by decide) rfl ?_
    refine Wp.iconst d_M_squareOf_52 (by decide) ?_
    refine Wp.istore 6 [(0, .inr (.inr 70)), (1, .inl x1), (2, .inl x2), (3, .inl x3), (4, .inr (.inl 1)), (6, .inl 1)] d_M_squareOf_53 (by decide) rfl ?_
    refine Wp.iconst d_M_squareOf_55 (by decide) ?_
    refine Wp.istore 7 [(0, .inr (.inr 70)), (1, .inl x1), (2, .inl x2), (3, .inl x3), (4, .inr (.inl 1)), (6, .inl 1), (7, .inl 0)] d_M_squareOf_56 (by decide) rfl ?_
    refine Wp.pick [0, 3, 4, 5, 6] [(0, .inr (.inr 70)), (3, .inl x3), (4, .inr (.inl 1)), (6, .inl 1), (7, .inl 0)] rfl ?_
    exact H6
  · have H7 := H5 c3
    refine Wp.aload_n 0 0 d_M_squareOf_16 rfl rfl ?_
    refine Wp.getP 99 d_M_squareOf_17 fl_M_100 rfl rfl rfl ?_
    refine Wp.iload 4 4 d_M_squareOf_20 rfl ?_
    refine Wp.aload_n 0 0 d_M_squareOf_22 rfl rfl ?_
    refine Wp.iload_n 1 1 d_M_squareOf_23 rfl rfl ?_
    refine Wp.iload 4 4 d_M_squareOf_24 rfl ?_
    refine Wp.iload_n 3 3 d_M_squareOf_26 rfl rfl ?_
    obtain ⟨s8, H9⟩ := H7
    refine Wq.idiv d_M_squareOf_27 s8 ?_
    obtain ⟨e10, P11, hd12, ho13, H14⟩ := H9
    refine Wq.SI (st := [.inr (.inr 70), .inl x4, .inr (.inr 99)]) [.inl x1, .inl (Int.tdiv x4 x3)] d_M_squareOf_28 k_M_nthOf ml_M_474 rfl  (fun h => by cases h) (Nat.le_of_ble_eq_true rfl) hd12 ho13 (fun z16 m17 hp18 hz19 hw20 => ?_)
    have H15 := H14 z16 m17 hp18 hz19 hw20
    refine Wp.iload_n 2 2 d_M_squareOf_31 rfl rfl ?_
    refine Wp.iload 4 4 d_M_squareOf_32 rfl ?_
    refine Wp.iload_n 3 3 d_M_squareOf_34 rfl rfl ?_
    obtain ⟨s21, H22⟩ := H15
    refine Wq.irem d_M_squareOf_35 s21 ?_
    obtain ⟨e23, P24, hd25, ho26, H27⟩ := H22
    refine Wq.SI (st := [.inl z16, .inr (.inr 70), .inl x4, .inr (.inr 99)]) [.inl x2, .inl (Int.tmod x4 x3)] d_M_squareOf_36 k_M_nthOf ml_M_474 rfl  (fun h => by cases h) (Nat.le_of_ble_eq_true rfl) hd25 ho26 (fun z29 m30 hp31 hz32 hw33 => ?_)
    have H28 := H27 z29 m30 hp31 hz32 hw33
    obtain ⟨e34, P35, hd36, ho37, H38⟩ := H28
    refine Wq.VJ (st := [.inl x4, .inr (.inr 99)]) [.inl z16, .inl z29] d_M_squareOf_39 k_M_entry ml_M_477 rfl rfl rfl (fun h => by cases h) (Nat.le_of_ble_eq_true rfl) hd36 ho37 (fun z40 m41 hp42 hz43 hw44 => ?_)
    have H39 := H38 z40 m41 hp42 hz43 hw44
    obtain ⟨s52, H53⟩ := H39
    refine Wq.last d_M_squareOf_42 rfl s52.1 s52.2 (fun m45 hm46 => ?_)
    have H47 := H53 m45 hm46
    obtain ⟨s50, H51⟩ := H47
    refine Wp.iinc 4 4 [(0, .inr (.inr 70)), (1, .inl x1), (2, .inl x2), (3, .inl x3), (4, .inl (x4 + 1))] d_M_squareOf_43 rfl s50 (by decide) rfl ?_
    refine Wp.goto 8 d_M_squareOf_46 (by decide) ?_
    exact H51
theorem s_M_squareOf_58 {l : Launch} {G : GT} {d : Nat} {P : Int → MM → Prop} {m : MM} (x3 : Int) (x4 : Int) (x6 : Int) (x7 : Int)  (H : wfM m → inR x3 → inL x4 → inR x6 → inR x7 → (x7 ≥ x3 → ((inL (x6 * x4)) ∧ ((inR (x6 * x4)) ∧ (P (x6 * x4) m)))) ∧ (¬ (x7 ≥ x3) → (Wq l G false Y_M_squareOf d (QI P) 68 [(0, .inr (.inr 70)), (3, .inl x3), (4, .inr (.inl x4)), (6, .inl x6), (7, .inl x7), (8, .inl x7)] [] m))) : Wq l G false Y_M_squareOf d (QI P) 58 [(0, .inr (.inr 70)), (3, .inl x3), (4, .inr (.inl x4)), (6, .inl x6), (7, .inl x7)] [] m := by
  refine Wp.wf (fun hw _ hl hs => ?_)
  have H0 := H hw (hl _ (List.mem_of_getElem? (i := 1) rfl)) (hl _ (List.mem_of_getElem? (i := 2) rfl)) (hl _ (List.mem_of_getElem? (i := 3) rfl)) (hl _ (List.mem_of_getElem? (i := 4) rfl))
  refine Wp.iload 4 7 d_M_squareOf_58 rfl ?_
  refine Wp.iload_n 1 3 d_M_squareOf_60 rfl rfl ?_
  obtain ⟨H2, H3⟩ := H0
  refine Wp.icmp_ge 175 d_M_squareOf_61 (by decide) (fun c1 => ?_) (fun c1 => ?_)
  · have H4 := H2 c1
    refine Wp.iload 3 6 d_M_squareOf_175 rfl ?_
    refine Wp.i2l d_M_squareOf_177 ?_
    refine Wp.lload 2 4 d_M_squareOf_178 rfl ?_
    obtain ⟨s6, H7⟩ := H4
    refine Wq.lmul d_M_squareOf_180 s6 ?_
    obtain ⟨s8, H9⟩ := H7
    refine Wq.l2i d_M_squareOf_181 s8 ?_
    exact Wq.iret d_M_squareOf_182 rfl H9
  · have H5 := H3 c1
    refine Wp.iload 4 7 d_M_squareOf_64 rfl ?_
    refine Wp.istore 8 [(0, .inr (.inr 70)), (3, .inl x3), (4, .inr (.inl x4)), (6, .inl x6), (7, .inl x7), (8, .inl x7)] d_M_squareOf_66 (by decide) rfl ?_
    exact H5
theorem s_M_squareOf_68 {l : Launch} {G : GT} {d : Nat} {P : Int → MM → Prop} {m : MM} (x3 : Int) (x4 : Int) (x6 : Int) (x7 : Int) (x8 : Int)  (H : wfM m → inR x3 → inL x4 → inR x6 → inR x7 → inR x8 → (x8 ≥ x3 → ((x8 ≠ x3 → ((x8 = x7 → ((inR (x7 + 1)) ∧ (Wq l G false Y_M_squareOf d (QI P) 132 [(0, .inr (.inr 70)), (3, .inl x3), (4, .inr (.inl x4)), (6, .inl x6), (7, .inl x7), (9, .inl (x7 + 1))] [] m))) ∧ (¬ (x8 = x7) → ((inR (-x6)) ∧ (∃ (e20 : Nat) (P21 : MM → Prop), e20 < d ∧ CV l G Y_M_swapRows e20 [.inr (.inr 70), .inl x3, .inl x7, .inl x8] m P21 ∧ (∀ m27, P21 m27 → wfM m27 → ((inR (x7 + 1)) ∧ (Wq l G false Y_M_squareOf d (QI P) 132 [(0, .inr (.inr 70)), (3, .inl x3), (4, .inr (.inl x4)), (6, .inl (-x6)), (7, .inl x7), (9, .inl (x7 + 1))] [] m27)))))))) ∧ (¬ (x8 ≠ x3) → (P 0 m)))) ∧ (¬ (x8 ≥ x3) → ((inR (x8 * x3)) ∧ ((inR ((x8 * x3) + x7)) ∧ ((0 ≤ ((x8 * x3) + x7) ∧ ((x8 * x3) + x7) < (25 : Int)) ∧ (((m 99 ((x8 * x3) + x7)) ≠ 0 → ((x8 ≠ x3 → ((x8 = x7 → ((inR (x7 + 1)) ∧ (Wq l G false Y_M_squareOf d (QI P) 132 [(0, .inr (.inr 70)), (3, .inl x3), (4, .inr (.inl x4)), (6, .inl x6), (7, .inl x7), (9, .inl (x7 + 1))] [] m))) ∧ (¬ (x8 = x7) → ((inR (-x6)) ∧ (∃ (e58 : Nat) (P59 : MM → Prop), e58 < d ∧ CV l G Y_M_swapRows e58 [.inr (.inr 70), .inl x3, .inl x7, .inl x8] m P59 ∧ (∀ m65, P59 m65 → wfM m65 → ((inR (x7 + 1)) ∧ (Wq l G false Y_M_squareOf d (QI P) 132 [(0, .inr (.inr 70)), (3, .inl x3), (4, .inr (.inl x4)), (6, .inl (-x6)), (7, .inl x7), (9, .inl (x7 + 1))] [] m65)))))))) ∧ (¬ (x8 ≠ x3) → (P 0 m)))) ∧ (¬ ((m 99 ((x8 * x3) + x7)) ≠ 0) → ((inR (x8 + 1)) ∧ (Wq l G false Y_M_squareOf d (QI P) 68 [(0, .inr (.inr 70)), (3, .inl x3), (4, .inr (.inl x4)), (6, .inl x6), (7, .inl x7), (8, .inl (x8 + 1))] [] m))))))))) : Wq l G false Y_M_squareOf d (QI P) 68 [(0, .inr (.inr 70)), (3, .inl x3), (4, .inr (.inl x4)), (6, .inl x6), (7, .inl x7), (8, .inl x8)] [] m := by
  refine Wp.wf (fun hw _ hl hs => ?_)
  have H0 := H hw (hl _ (List.mem_of_getElem? (i := 1) rfl)) (hl _ (List.mem_of_getElem? (i := 2) rfl)) (hl _ (List.mem_of_getElem? (i := 3) rfl)) (hl _ (List.mem_of_getElem? (i := 4) rfl)) (hl _ (List.mem_of_getElem? (i := 5) rfl))
  refine Wp.iload 5 8 d_M_squareOf_68 rfl ?_
  refine Wp.iload_n 1 3 d_M_squareOf_70 rfl rfl ?_
  obtain ⟨H2, H3⟩ := H0
  refine Wp.icmp_ge 97 d_M_squareOf_71 (by decide) (fun c1 => ?_) (fun c1 => ?_)
  · have H4 := H2 c1
    refine Wp.iload 5 8 d_M_squareOf_97 rfl ?_
    refine Wp.iload_n 1 3 d_M_squareOf_99 rfl rfl ?_
    obtain ⟨H7, H8⟩ := H4
    refine Wp.icmp_ne 105 d_M_squareOf_100 (by decide) (fun c6 => ?_) (fun c6 => ?_)
    · have H9 := H7 c6
      refine Wp.iload 5 8 d_M_squareOf_105 rfl ?_
      refine Wp.iload 4 7 d_M_squareOf_107 rfl ?_
      obtain ⟨H12, H13⟩ := H9
      refine Wp.icmp_eq 126 d_M_squareOf_109 (by decide) (fun c11 => ?_) (fun c11 => ?_)
      · have H14 := H12 c11
        refine Wp.iload 4 7 d_M_squareOf_126 rfl ?_
        refine Wp.iconst d_M_squareOf_128 (by decide) ?_
        obtain ⟨s16, H17⟩ := H14
        refine Wp.iadd d_M_squareOf_129 s16 ?_
        refine Wp.istore 9 [(0, .inr (.inr 70)), (3, .inl x3), (4, .inr (.inl x4)), (6, .inl x6), (7, .inl x7), (8, .inl x8), (9, .inl (x7 + 1))] d_M_squareOf_130 (by decide) rfl ?_
        refine Wp.pick [0, 1, 2, 3, 4, 6] [(0, .inr (.inr 70)), (3, .inl x3), (4, .inr (.inl x4)), (6, .inl x6), (7, .inl x7), (9, .inl (x7 + 1))] rfl ?_
        exact H17
      · have H15 := H13 c11
        refine Wp.iload 3 6 d_M_squareOf_112 rfl ?_
        obtain ⟨s18, H19⟩ := H15
        refine Wp.ineg d_M_squareOf_114 s18 ?_
        refine Wp.istore 6 [(0, .inr (.inr 70)), (3, .inl x3), (4, .inr (.inl x4)), (6, .inl (-x6)), (7, .inl x7), (8, .inl x8)] d_M_squareOf_115 (by decide) rfl ?_
        refine Wp.aload_n 0 0 d_M_squareOf_117 rfl rfl ?_
        refine Wp.iload_n 1 3 d_M_squareOf_118 rfl rfl ?_
        refine Wp.iload 4 7 d_M_squareOf_119 rfl ?_
        refine Wp.iload 5 8 d_M_squareOf_121 rfl ?_
        obtain ⟨e20, P21, hd22, ho23, H24⟩ := H19
        refine Wq.VV (st := []) [.inl x3, .inl x7, .inl x8] d_M_squareOf_123 k_M_swapRows ml_M_481 rfl rfl rfl (fun h => by cases h) (Nat.le_of_ble_eq_true rfl) hd22 ho23 (fun m27 hp28 hw30 => ?_)
        have H25 := H24 m27 hp28 hw30
        refine Wp.iload 4 7 d_M_squareOf_126 rfl ?_
        refine Wp.iconst d_M_squareOf_128 (by decide) ?_
        obtain ⟨s31, H32⟩ := H25
        refine Wp.iadd d_M_squareOf_129 s31 ?_
        refine Wp.istore 9 [(0, .inr (.inr 70)), (3, .inl x3), (4, .inr (.inl x4)), (6, .inl (-x6)), (7, .inl x7), (8, .inl x8), (9, .inl (x7 + 1))] d_M_squareOf_130 (by decide) rfl ?_
        refine Wp.pick [0, 1, 2, 3, 4, 6] [(0, .inr (.inr 70)), (3, .inl x3), (4, .inr (.inl x4)), (6, .inl (-x6)), (7, .inl x7), (9, .inl (x7 + 1))] rfl ?_
        exact H32
    · have H10 := H8 c6
      refine Wp.iconst d_M_squareOf_103 (by decide) ?_
      exact Wq.iret d_M_squareOf_104 rfl H10
  · have H5 := H3 c1
    refine Wp.aload_n 0 0 d_M_squareOf_74 rfl rfl ?_
    refine Wp.getP 99 d_M_squareOf_75 fl_M_100 rfl rfl rfl ?_
    refine Wp.iload 5 8 d_M_squareOf_78 rfl ?_
    refine Wp.iload_n 1 3 d_M_squareOf_80 rfl rfl ?_
    obtain ⟨s33, H34⟩ := H5
    refine Wp.imul d_M_squareOf_81 s33 ?_
    refine Wp.iload 4 7 d_M_squareOf_82 rfl ?_
    obtain ⟨s35, H36⟩ := H34
    refine Wp.iadd d_M_squareOf_84 s35 ?_
    obtain ⟨s37, H38⟩ := H36
    refine Wp.lald d_M_squareOf_85 rfl (Or.inl rfl) s37.1 s37.2 ?_
    refine Wp.lconst (x := 0) d_M_squareOf_86 (by decide) (by decide) ?_
    obtain ⟨H40, H41⟩ := H38
    refine Wq.lif_ne 97 d_M_squareOf_87 d_M_squareOf_88 (by decide) (fun c39 => ?_) (fun c39 => ?_)
    · have H42 := H40 c39
      refine Wp.iload 5 8 d_M_squareOf_97 rfl ?_
      refine Wp.iload_n 1 3 d_M_squareOf_99 rfl rfl ?_
      obtain ⟨H45, H46⟩ := H42
      refine Wp.icmp_ne 105 d_M_squareOf_100 (by decide) (fun c44 => ?_) (fun c44 => ?_)
      · have H47 := H45 c44
        refine Wp.iload 5 8 d_M_squareOf_105 rfl ?_
        refine Wp.iload 4 7 d_M_squareOf_107 rfl ?_
        obtain ⟨H50, H51⟩ := H47
        refine Wp.icmp_eq 126 d_M_squareOf_109 (by decide) (fun c49 => ?_) (fun c49 => ?_)
        · have H52 := H50 c49
          refine Wp.iload 4 7 d_M_squareOf_126 rfl ?_
          refine Wp.iconst d_M_squareOf_128 (by decide) ?_
          obtain ⟨s54, H55⟩ := H52
          refine Wp.iadd d_M_squareOf_129 s54 ?_
          refine Wp.istore 9 [(0, .inr (.inr 70)), (3, .inl x3), (4, .inr (.inl x4)), (6, .inl x6), (7, .inl x7), (8, .inl x8), (9, .inl (x7 + 1))] d_M_squareOf_130 (by decide) rfl ?_
          refine Wp.pick [0, 1, 2, 3, 4, 6] [(0, .inr (.inr 70)), (3, .inl x3), (4, .inr (.inl x4)), (6, .inl x6), (7, .inl x7), (9, .inl (x7 + 1))] rfl ?_
          exact H55
        · have H53 := H51 c49
          refine Wp.iload 3 6 d_M_squareOf_112 rfl ?_
          obtain ⟨s56, H57⟩ := H53
          refine Wp.ineg d_M_squareOf_114 s56 ?_
          refine Wp.istore 6 [(0, .inr (.inr 70)), (3, .inl x3), (4, .inr (.inl x4)), (6, .inl (-x6)), (7, .inl x7), (8, .inl x8)] d_M_squareOf_115 (by decide) rfl ?_
          refine Wp.aload_n 0 0 d_M_squareOf_117 rfl rfl ?_
          refine Wp.iload_n 1 3 d_M_squareOf_118 rfl rfl ?_
          refine Wp.iload 4 7 d_M_squareOf_119 rfl ?_
          refine Wp.iload 5 8 d_M_squareOf_121 rfl ?_
          obtain ⟨e58, P59, hd60, ho61, H62⟩ := H57
          refine Wq.VV (st := []) [.inl x3, .inl x7, .inl x8] d_M_squareOf_123 k_M_swapRows ml_M_481 rfl rfl rfl (fun h => by cases h) (Nat.le_of_ble_eq_true rfl) hd60 ho61 (fun m65 hp66 hw68 => ?_)
          have H63 := H62 m65 hp66 hw68
          refine Wp.iload 4 7 d_M_squareOf_126 rfl ?_
          refine Wp.iconst d_M_squareOf_128 (by decide) ?_
          obtain ⟨s69, H70⟩ := H63
          refine Wp.iadd d_M_squareOf_129 s69 ?_
          refine Wp.istore 9 [(0, .inr (.inr 70)), (3, .inl x3), (4, .inr (.inl x4)), (6, .inl (-x6)), (7, .inl x7), (8, .inl x8), (9, .inl (x7 + 1))] d_M_squareOf_130 (by decide) rfl ?_
          refine Wp.pick [0, 1, 2, 3, 4, 6] [(0, .inr (.inr 70)), (3, .inl x3), (4, .inr (.inl x4)), (6, .inl (-x6)), (7, .inl x7), (9, .inl (x7 + 1))] rfl ?_
          exact H70
      · have H48 := H46 c44
        refine Wp.iconst d_M_squareOf_103 (by decide) ?_
        exact Wq.iret d_M_squareOf_104 rfl H48
    · have H43 := H41 c39
      obtain ⟨s71, H72⟩ := H43
      refine Wp.iinc 5 8 [(0, .inr (.inr 70)), (3, .inl x3), (4, .inr (.inl x4)), (6, .inl x6), (7, .inl x7), (8, .inl (x8 + 1))] d_M_squareOf_91 rfl s71 (by decide) rfl ?_
      refine Wp.goto 68 d_M_squareOf_94 (by decide) ?_
      exact H72
theorem s_M_squareOf_132 {l : Launch} {G : GT} {d : Nat} {P : Int → MM → Prop} {m : MM} (x3 : Int) (x4 : Int) (x6 : Int) (x7 : Int) (x9 : Int)  (H : wfM m → inR x3 → inL x4 → inR x6 → inR x7 → inR x9 → (x9 ≥ x3 → ((inR (x7 * x3)) ∧ ((inR ((x7 * x3) + x7)) ∧ ((0 ≤ ((x7 * x3) + x7) ∧ ((x7 * x3) + x7) < (25 : Int)) ∧ ((inR (x7 + 1)) ∧ (Wq l G false Y_M_squareOf d (QI P) 58 [(0, .inr (.inr 70)), (3, .inl x3), (4, .inr (.inl (m 99 ((x7 * x3) + x7)))), (6, .inl x6), (7, .inl (x7 + 1))] [] m)))))) ∧ (¬ (x9 ≥ x3) → (∃ (e14 : Nat) (P15 : MM → Prop), e14 < d ∧ CV l G Y_M_clear e14 [.inr (.inr 70), .inl x3, .inl x7, .inl x9, .inr (.inl x4)] m P15 ∧ (∀ m21, P15 m21 → wfM m21 → ((inR (x9 + 1)) ∧ (Wq l G false Y_M_squareOf d (QI P) 132 [(0, .inr (.inr 70)), (3, .inl x3), (4, .inr (.inl x4)), (6, .inl x6), (7, .inl x7), (9, .inl (x9 + 1))] [] m21)))))) : Wq l G false Y_M_squareOf d (QI P) 132 [(0, .inr (.inr 70)), (3, .inl x3), (4, .inr (.inl x4)), (6, .inl x6), (7, .inl x7), (9, .inl x9)] [] m := by
  refine Wp.wf (fun hw _ hl hs => ?_)
  have H0 := H hw (hl _ (List.mem_of_getElem? (i := 1) rfl)) (hl _ (List.mem_of_getElem? (i := 2) rfl)) (hl _ (List.mem_of_getElem? (i := 3) rfl)) (hl _ (List.mem_of_getElem? (i := 4) rfl)) (hl _ (List.mem_of_getElem? (i := 5) rfl))
  refine Wp.iload 5 9 d_M_squareOf_132 rfl ?_
  refine Wp.iload_n 1 3 d_M_squareOf_134 rfl rfl ?_
  obtain ⟨H2, H3⟩ := H0
  refine Wp.icmp_ge 155 d_M_squareOf_135 (by decide) (fun c1 => ?_) (fun c1 => ?_)
  · have H4 := H2 c1
    refine Wp.aload_n 0 0 d_M_squareOf_155 rfl rfl ?_
    refine Wp.getP 99 d_M_squareOf_156 fl_M_100 rfl rfl rfl ?_
    refine Wp.iload 4 7 d_M_squareOf_159 rfl ?_
    refine Wp.iload_n 1 3 d_M_squareOf_161 rfl rfl ?_
    obtain ⟨s6, H7⟩ := H4
    refine Wp.imul d_M_squareOf_162 s6 ?_
    refine Wp.iload 4 7 d_M_squareOf_163 rfl ?_
    obtain ⟨s8, H9⟩ := H7
    refine Wp.iadd d_M_squareOf_165 s8 ?_
    obtain ⟨s10, H11⟩ := H9
    refine Wp.lald d_M_squareOf_166 rfl (Or.inl rfl) s10.1 s10.2 ?_
    refine Wp.lstore 4 [(0, .inr (.inr 70)), (3, .inl x3), (4, .inr (.inl (m 99 ((x7 * x3) + x7)))), (6, .inl x6), (7, .inl x7), (9, .inl x9)] d_M_squareOf_167 (by decide) rfl ?_
    obtain ⟨s12, H13⟩ := H11
    refine Wp.iinc 4 7 [(0, .inr (.inr 70)), (3, .inl x3), (4, .inr (.inl (m 99 ((x7 * x3) + x7)))), (6, .inl x6), (7, .inl (x7 + 1)), (9, .inl x9)] d_M_squareOf_169 rfl s12 (by decide) rfl ?_
    refine Wp.goto 58 d_M_squareOf_172 (by decide) ?_
    refine Wp.pick [0, 1, 2, 3, 4] [(0, .inr (.inr 70)), (3, .inl x3), (4, .inr (.inl (m 99 ((x7 * x3) + x7)))), (6, .inl x6), (7, .inl (x7 + 1))] rfl ?_
    exact H13
  · have H5 := H3 c1
    refine Wp.aload_n 0 0 d_M_squareOf_138 rfl rfl ?_
    refine Wp.iload_n 1 3 d_M_squareOf_139 rfl rfl ?_
    refine Wp.iload 4 7 d_M_squareOf_140 rfl ?_
    refine Wp.iload 5 9 d_M_squareOf_142 rfl ?_
    refine Wp.lload 2 4 d_M_squareOf_144 rfl ?_
    obtain ⟨e14, P15, hd16, ho17, H18⟩ := H5
    refine Wq.VV (st := []) [.inl x3, .inl x7, .inl x9, .inr (.inl x4)] d_M_squareOf_146 k_M_clear ml_M_485 rfl rfl rfl (fun h => by cases h) (Nat.le_of_ble_eq_true rfl) hd16 ho17 (fun m21 hp22 hw24 => ?_)
    have H19 := H18 m21 hp22 hw24
    obtain ⟨s25, H26⟩ := H19
    refine Wp.iinc 5 9 [(0, .inr (.inr 70)), (3, .inl x3), (4, .inr (.inl x4)), (6, .inl x6), (7, .inl x7), (9, .inl (x9 + 1))] d_M_squareOf_149 rfl s25 (by decide) rfl ?_
    refine Wp.goto 132 d_M_squareOf_152 (by decide) ?_
    exact H26
theorem d_M_bitsOf_0 : decode Y_M_bitsOf.2.1 0 = .ok (.iconst 0, 1) := by decide +kernel
theorem d_M_bitsOf_1 : decode Y_M_bitsOf.2.1 1 = .ok (.istore_n 1, 1) := by decide +kernel
theorem d_M_bitsOf_2 : decode Y_M_bitsOf.2.1 2 = .ok (.iload_n 0, 1) := by decide +kernel
theorem d_M_bitsOf_3 : decode Y_M_bitsOf.2.1 3 = .ok (.istore_n 2, 1) := by decide +kernel
theorem d_M_bitsOf_4 : decode Y_M_bitsOf.2.1 4 = .ok (.iload_n 2, 1) := by decide +kernel
theorem d_M_bitsOf_5 : decode Y_M_bitsOf.2.1 5 = .ok (.ifCond .eq 15, 3) := by decide +kernel
theorem d_M_bitsOf_8 : decode Y_M_bitsOf.2.1 8 = .ok (.iinc 1 1, 3) := by decide +kernel
theorem d_M_bitsOf_11 : decode Y_M_bitsOf.2.1 11 = .ok (.iload_n 2, 1) := by decide +kernel
theorem d_M_bitsOf_12 : decode Y_M_bitsOf.2.1 12 = .ok (.iload_n 2, 1) := by decide +kernel
theorem d_M_bitsOf_13 : decode Y_M_bitsOf.2.1 13 = .ok (.iconst 1, 1) := by decide +kernel
theorem d_M_bitsOf_14 : decode Y_M_bitsOf.2.1 14 = .ok (.isub, 1) := by decide +kernel
theorem d_M_bitsOf_15 : decode Y_M_bitsOf.2.1 15 = .ok (.iand, 1) := by decide +kernel
theorem d_M_bitsOf_16 : decode Y_M_bitsOf.2.1 16 = .ok (.istore_n 2, 1) := by decide +kernel
theorem d_M_bitsOf_17 : decode Y_M_bitsOf.2.1 17 = .ok (.goto (-13), 3) := by decide +kernel
theorem d_M_bitsOf_20 : decode Y_M_bitsOf.2.1 20 = .ok (.iload_n 1, 1) := by decide +kernel
theorem d_M_bitsOf_21 : decode Y_M_bitsOf.2.1 21 = .ok (.ireturn, 1) := by decide +kernel
theorem e_M_bitsOf {l : Launch} {G : GT} {d : Nat} {P : Int → MM → Prop} {m : MM} (x0 : Int)  (H : wfM m → inR x0 → Wq l G false Y_M_bitsOf d (QI P) 4 [(1, .inl 0), (2, .inl x0)] [] m) : CI l G Y_M_bitsOf d [.inl x0] m P := by
  refine CI.of [(0, .inl x0)] k_M_bitsOf.1 (Nat.le_of_ble_eq_true rfl) rfl (Wp.wf (fun hw _ hl hs => ?_))
  have H0 := H hw (hl _ (List.mem_of_getElem? (i := 0) rfl))
  refine Wp.iconst d_M_bitsOf_0 (by decide) ?_
  refine Wp.istore_n 1 [(0, .inl x0), (1, .inl 0)] d_M_bitsOf_1 rfl (by decide) rfl ?_
  refine Wp.iload_n 0 0 d_M_bitsOf_2 rfl rfl ?_
  refine Wp.istore_n 2 [(0, .inl x0), (1, .inl 0), (2, .inl x0)] d_M_bitsOf_3 rfl (by decide) rfl ?_
  refine Wp.pick [1, 2] [(1, .inl 0), (2, .inl x0)] rfl ?_
  exact H0
theorem s_M_bitsOf_4 {l : Launch} {G : GT} {d : Nat} {P : Int → MM → Prop} {m : MM} (x1 : Int) (x2 : Int)  (H : wfM m → inR x1 → inR x2 → (x2 = 0 → (P x1 m)) ∧ (¬ (x2 = 0) → ((inR (x1 + 1)) ∧ ((inR (x2 - 1)) ∧ (Wq l G false Y_M_bitsOf d (QI P) 4 [(1, .inl (x1 + 1)), (2, .inl (bAnd x2 (x2 - 1)))] [] m))))) : Wq l G false Y_M_bitsOf d (QI P) 4 [(1, .inl x1), (2, .inl x2)] [] m := by
  refine Wp.wf (fun hw _ hl hs => ?_)
  have H0 := H hw (hl _ (List.mem_of_getElem? (i := 0) rfl)) (hl _ (List.mem_of_getElem? (i := 1) rfl))
  refine Wp.iload_n 1 2 d_M_bitsOf_4 rfl rfl ?_
  obtain ⟨H2, H3⟩ := H0
  refine Wp.if_eq 20 d_M_bitsOf_5 (by decide) (fun c1 => ?_) (fun c1 => ?_)
  · have H4 := H2 c1
    refine Wp.iload_n 0 1 d_M_bitsOf_20 rfl rfl ?_
    exact Wq.iret d_M_bitsOf_21 rfl H4
  · have H5 := H3 c1
    obtain ⟨s6, H7⟩ := H5
    refine Wp.iinc 0 1 [(1, .inl (x1 + 1)), (2, .inl x2)] d_M_bitsOf_8 rfl s6 (by decide) rfl ?_
    refine Wp.iload_n 1 2 d_M_bitsOf_11 rfl rfl ?_
    refine Wp.iload_n 1 2 d_M_bitsOf_12 rfl rfl ?_
    refine Wp.iconst d_M_bitsOf_13 (by decide) ?_
    obtain ⟨s8, H9⟩ := H7
    refine Wp.isub d_M_bitsOf_14 s8 ?_
    refine Wp.iand d_M_bitsOf_15 ?_
    refine Wp.istore_n 2 [(1, .inl (x1 + 1)), (2, .inl (bAnd x2 (x2 - 1)))] d_M_bitsOf_16 rfl (by decide) rfl ?_
    refine Wp.goto 4 d_M_bitsOf_17 (by decide) ?_
    exact H9
theorem d_M_nthOf_0 : decode Y_M_nthOf.2.1 0 = .ok (.iload_n 1, 1) := by decide +kernel
theorem d_M_nthOf_1 : decode Y_M_nthOf.2.1 1 = .ok (.istore_n 2, 1) := by decide +kernel
theorem d_M_nthOf_2 : decode Y_M_nthOf.2.1 2 = .ok (.iconst 0, 1) := by decide +kernel
theorem d_M_nthOf_3 : decode Y_M_nthOf.2.1 3 = .ok (.istore_n 3, 1) := by decide +kernel
theorem d_M_nthOf_4 : decode Y_M_nthOf.2.1 4 = .ok (.iload_n 3, 1) := by decide +kernel
theorem d_M_nthOf_5 : decode Y_M_nthOf.2.1 5 = .ok (.iconst 5, 1) := by decide +kernel
theorem d_M_nthOf_6 : decode Y_M_nthOf.2.1 6 = .ok (.if_icmp .ge 29, 3) := by decide +kernel
theorem d_M_nthOf_9 : decode Y_M_nthOf.2.1 9 = .ok (.iload_n 0, 1) := by decide +kernel
theorem d_M_nthOf_10 : decode Y_M_nthOf.2.1 10 = .ok (.iload_n 3, 1) := by decide +kernel
theorem d_M_nthOf_11 : decode Y_M_nthOf.2.1 11 = .ok (.invokestatic 252, 3) := by decide +kernel
theorem d_M_nthOf_14 : decode Y_M_nthOf.2.1 14 = .ok (.ifCond .ne 6, 3) := by decide +kernel
theorem d_M_nthOf_17 : decode Y_M_nthOf.2.1 17 = .ok (.goto 12, 3) := by decide +kernel
theorem d_M_nthOf_20 : decode Y_M_nthOf.2.1 20 = .ok (.iload_n 2, 1) := by decide +kernel
theorem d_M_nthOf_21 : decode Y_M_nthOf.2.1 21 = .ok (.ifCond .ne 5, 3) := by decide +kernel
theorem d_M_nthOf_24 : decode Y_M_nthOf.2.1 24 = .ok (.iload_n 3, 1) := by decide +kernel
theorem d_M_nthOf_25 : decode Y_M_nthOf.2.1 25 = .ok (.ireturn, 1) := by decide +kernel
theorem d_M_nthOf_26 : decode Y_M_nthOf.2.1 26 = .ok (.iinc 2 (-1), 3) := by decide +kernel
theorem d_M_nthOf_29 : decode Y_M_nthOf.2.1 29 = .ok (.iinc 3 1, 3) := by decide +kernel
theorem d_M_nthOf_32 : decode Y_M_nthOf.2.1 32 = .ok (.goto (-28), 3) := by decide +kernel
theorem d_M_nthOf_35 : decode Y_M_nthOf.2.1 35 = .ok (.iconst (-1), 1) := by decide +kernel
theorem d_M_nthOf_36 : decode Y_M_nthOf.2.1 36 = .ok (.ireturn, 1) := by decide +kernel
theorem e_M_nthOf {l : Launch} {G : GT} {d : Nat} {P : Int → MM → Prop} {m : MM} (x0 : Int) (x1 : Int)  (H : wfM m → inR x0 → inR x1 → Wq l G false Y_M_nthOf d (QI P) 4 [(0, .inl x0), (2, .inl x1), (3, .inl 0)] [] m) : CI l G Y_M_nthOf d [.inl x0, .inl x1] m P := by
  refine CI.of [(0, .inl x0), (1, .inl x1)] k_M_nthOf.1 (Nat.le_of_ble_eq_true rfl) rfl (Wp.wf (fun hw _ hl hs => ?_))
  have H0 := H hw (hl _ (List.mem_of_getElem? (i := 0) rfl)) (hl _ (List.mem_of_getElem? (i := 1) rfl))
  refine Wp.iload_n 1 1 d_M_nthOf_0 rfl rfl ?_
  refine Wp.istore_n 2 [(0, .inl x0), (1, .inl x1), (2, .inl x1)] d_M_nthOf_1 rfl (by decide) rfl ?_
  refine Wp.iconst d_M_nthOf_2 (by decide) ?_
  refine Wp.istore_n 3 [(0, .inl x0), (1, .inl x1), (2, .inl x1), (3, .inl 0)] d_M_nthOf_3 rfl (by decide) rfl ?_
  refine Wp.pick [0, 2, 3] [(0, .inl x0), (2, .inl x1), (3, .inl 0)] rfl ?_
  exact H0
theorem s_M_nthOf_4 {l : Launch} {G : GT} {d : Nat} {P : Int → MM → Prop} {m : MM} (x0 : Int) (x2 : Int) (x3 : Int)  (H : wfM m → inR x0 → inR x2 → inR x3 → (x3 ≥ 5 → (P (-1) m)) ∧ (¬ (x3 ≥ 5) → (∃ (e6 : Nat) (P7 : Int → MM → Prop), e6 < d ∧ CI l G Y_M_bit e6 [.inl x0, .inl x3] m P7 ∧ (∀ z12 m13, P7 z12 m13 → inR z12 → wfM m13 → ((z12 ≠ 0 → ((x2 ≠ 0 → ((inR (x2 + (-1))) ∧ ((inR (x3 + 1)) ∧ (Wq l G false Y_M_nthOf d (QI P) 4 [(0, .inl x0), (2, .inl (x2 + (-1))), (3, .inl (x3 + 1))] [] m13)))) ∧ (¬ (x2 ≠ 0) → (P x3 m13)))) ∧ (¬ (z12 ≠ 0) → ((inR (x3 + 1)) ∧ (Wq l G false Y_M_nthOf d (QI P) 4 [(0, .inl x0), (2, .inl x2), (3, .inl (x3 + 1))] [] m13)))))))) : Wq l G false Y_M_nthOf d (QI P) 4 [(0, .inl x0), (2, .inl x2), (3, .inl x3)] [] m := by
  refine Wp.wf (fun hw _ hl hs => ?_)
  have H0 := H hw (hl _ (List.mem_of_getElem? (i := 0) rfl)) (hl _ (List.mem_of_getElem? (i := 1) rfl)) (hl _ (List.mem_of_getElem? (i := 2) rfl))
  refine Wp.iload_n 2 3 d_M_nthOf_4 rfl rfl ?_
  refine Wp.iconst d_M_nthOf_5 (by decide) ?_
  obtain ⟨H2, H3⟩ := H0
  refine Wp.icmp_ge 35 d_M_nthOf_6 (by decide) (fun c1 => ?_) (fun c1 => ?_)
  · have H4 := H2 c1
    refine Wp.iconst d_M_nthOf_35 (by decide) ?_
    exact Wq.iret d_M_nthOf_36 rfl H4
  · have H5 := H3 c1
    refine Wp.iload_n 0 0 d_M_nthOf_9 rfl rfl ?_
    refine Wp.iload_n 2 3 d_M_nthOf_10 rfl rfl ?_
    obtain ⟨e6, P7, hd8, ho9, H10⟩ := H5
    refine Wq.SI (st := []) [.inl x0, .inl x3] d_M_nthOf_11 k_M_bit ml_M_252 rfl  (fun h => by cases h) (Nat.le_of_ble_eq_true rfl) hd8 ho9 (fun z12 m13 hp14 hz15 hw16 => ?_)
    have H11 := H10 z12 m13 hp14 hz15 hw16
    obtain ⟨H18, H19⟩ := H11
    refine Wp.if_ne 20 d_M_nthOf_14 (by decide) (fun c17 => ?_) (fun c17 => ?_)
    · have H20 := H18 c17
      refine Wp.iload_n 1 2 d_M_nthOf_20 rfl rfl ?_
      obtain ⟨H23, H24⟩ := H20
      refine Wp.if_ne 26 d_M_nthOf_21 (by decide) (fun c22 => ?_) (fun c22 => ?_)
      · have H25 := H23 c22
        obtain ⟨s27, H28⟩ := H25
        refine Wp.iinc 1 2 [(0, .inl x0), (2, .inl (x2 + (-1))), (3, .inl x3)] d_M_nthOf_26 rfl s27 (by decide) rfl ?_
        obtain ⟨s29, H30⟩ := H28
        refine Wp.iinc 2 3 [(0, .inl x0), (2, .inl (x2 + (-1))), (3, .inl (x3 + 1))] d_M_nthOf_29 rfl s29 (by decide) rfl ?_
        refine Wp.goto 4 d_M_nthOf_32 (by decide) ?_
        exact H30
      · have H26 := H24 c22
        refine Wp.iload_n 2 3 d_M_nthOf_24 rfl rfl ?_
        exact Wq.iret d_M_nthOf_25 rfl H26
    · have H21 := H19 c17
      refine Wp.goto 29 d_M_nthOf_17 (by decide) ?_
      obtain ⟨s31, H32⟩ := H21
      refine Wp.iinc 2 3 [(0, .inl x0), (2, .inl x2), (3, .inl (x3 + 1))] d_M_nthOf_29 rfl s31 (by decide) rfl ?_
      refine Wp.goto 4 d_M_nthOf_32 (by decide) ?_
      exact H32
theorem d_M_bit_0 : decode Y_M_bit.2.1 0 = .ok (.iload_n 0, 1) := by decide +kernel
theorem d_M_bit_1 : decode Y_M_bit.2.1 1 = .ok (.iload_n 1, 1) := by decide +kernel
theorem d_M_bit_2 : decode Y_M_bit.2.1 2 = .ok (.ishr, 1) := by decide +kernel
theorem d_M_bit_3 : decode Y_M_bit.2.1 3 = .ok (.iconst 1, 1) := by decide +kernel
theorem d_M_bit_4 : decode Y_M_bit.2.1 4 = .ok (.iand, 1) := by decide +kernel
theorem d_M_bit_5 : decode Y_M_bit.2.1 5 = .ok (.iconst 1, 1) := by decide +kernel
theorem d_M_bit_6 : decode Y_M_bit.2.1 6 = .ok (.if_icmp .ne 7, 3) := by decide +kernel
theorem d_M_bit_9 : decode Y_M_bit.2.1 9 = .ok (.iconst 1, 1) := by decide +kernel
theorem d_M_bit_10 : decode Y_M_bit.2.1 10 = .ok (.goto 4, 3) := by decide +kernel
theorem d_M_bit_13 : decode Y_M_bit.2.1 13 = .ok (.iconst 0, 1) := by decide +kernel
theorem d_M_bit_14 : decode Y_M_bit.2.1 14 = .ok (.ireturn, 1) := by decide +kernel
theorem e_M_bit {l : Launch} {G : GT} {d : Nat} {P : Int → MM → Prop} {m : MM} (x0 : Int) (x1 : Int)  (H : wfM m → inR x0 → inR x1 → ((bAnd (bShr x0 x1) 1) ≠ 1 → (P 0 m)) ∧ (¬ ((bAnd (bShr x0 x1) 1) ≠ 1) → (P 1 m))) : CI l G Y_M_bit d [.inl x0, .inl x1] m P := by
  refine CI.of [(0, .inl x0), (1, .inl x1)] k_M_bit.1 (Nat.le_of_ble_eq_true rfl) rfl (Wp.wf (fun hw _ hl hs => ?_))
  have H0 := H hw (hl _ (List.mem_of_getElem? (i := 0) rfl)) (hl _ (List.mem_of_getElem? (i := 1) rfl))
  refine Wp.iload_n 0 0 d_M_bit_0 rfl rfl ?_
  refine Wp.iload_n 1 1 d_M_bit_1 rfl rfl ?_
  refine Wp.ishr d_M_bit_2 ?_
  refine Wp.iconst d_M_bit_3 (by decide) ?_
  refine Wp.iand d_M_bit_4 ?_
  refine Wp.iconst d_M_bit_5 (by decide) ?_
  obtain ⟨H2, H3⟩ := H0
  refine Wp.icmp_ne 13 d_M_bit_6 (by decide) (fun c1 => ?_) (fun c1 => ?_)
  · have H4 := H2 c1
    refine Wp.iconst d_M_bit_13 (by decide) ?_
    exact Wq.zret d_M_bit_14 rfl (by decide) H4
  · have H5 := H3 c1
    refine Wp.iconst d_M_bit_9 (by decide) ?_
    refine Wp.goto 14 d_M_bit_10 (by decide) ?_
    exact Wq.zret d_M_bit_14 rfl (by decide) H5
theorem d_M_entry_0 : decode Y_M_entry.2.1 0 = .ok (.iload_n 1, 1) := by decide +kernel
theorem d_M_entry_1 : decode Y_M_entry.2.1 1 = .ok (.iload_n 2, 1) := by decide +kernel
theorem d_M_entry_2 : decode Y_M_entry.2.1 2 = .ok (.if_icmp .ne 12, 3) := by decide +kernel
theorem d_M_entry_5 : decode Y_M_entry.2.1 5 = .ok (.aload_n 0, 1) := by decide +kernel
theorem d_M_entry_6 : decode Y_M_entry.2.1 6 = .ok (.iload_n 1, 1) := by decide +kernel
theorem d_M_entry_7 : decode Y_M_entry.2.1 7 = .ok (.invokevirtual 328, 3) := by decide +kernel
theorem d_M_entry_10 : decode Y_M_entry.2.1 10 = .ok (.i2l, 1) := by decide +kernel
theorem d_M_entry_11 : decode Y_M_entry.2.1 11 = .ok (.goto 11, 3) := by decide +kernel
theorem d_M_entry_14 : decode Y_M_entry.2.1 14 = .ok (.aload_n 0, 1) := by decide +kernel
theorem d_M_entry_15 : decode Y_M_entry.2.1 15 = .ok (.iload_n 1, 1) := by decide +kernel
theorem d_M_entry_16 : decode Y_M_entry.2.1 16 = .ok (.iload_n 2, 1) := by decide +kernel
theorem d_M_entry_17 : decode Y_M_entry.2.1 17 = .ok (.invokevirtual 348, 3) := by decide +kernel
theorem d_M_entry_20 : decode Y_M_entry.2.1 20 = .ok (.ineg, 1) := by decide +kernel
theorem d_M_entry_21 : decode Y_M_entry.2.1 21 = .ok (.i2l, 1) := by decide +kernel
theorem d_M_entry_22 : decode Y_M_entry.2.1 22 = .ok (.lreturn, 1) := by decide +kernel
theorem e_M_entry {l : Launch} {G : GT} {d : Nat} {P : Int → MM → Prop} {m : MM} (x1 : Int) (x2 : Int)  (H : wfM m → inR x1 → inR x2 → (x1 ≠ x2 → (∃ (e6 : Nat) (P7 : Int → MM → Prop), e6 < d ∧ CI l G Y_M_wideOf e6 [.inr (.inr 70), .inl x1, .inl x2] m P7 ∧ (∀ z12 m13, P7 z12 m13 → inR z12 → wfM m13 → ((inR (-z12)) ∧ (P (-z12) m13))))) ∧ (¬ (x1 ≠ x2) → (∃ (e19 : Nat) (P20 : Int → MM → Prop), e19 < d ∧ CI l G Y_M_brimOf e19 [.inr (.inr 70), .inl x1] m P20 ∧ (∀ z25 m26, P20 z25 m26 → inR z25 → wfM m26 → (P z25 m26))))) : CJ l G Y_M_entry d [.inr (.inr 70), .inl x1, .inl x2] m P := by
  refine CJ.of [(0, .inr (.inr 70)), (1, .inl x1), (2, .inl x2)] k_M_entry.1 (Nat.le_of_ble_eq_true rfl) rfl (Wp.wf (fun hw _ hl hs => ?_))
  have H0 := H hw (hl _ (List.mem_of_getElem? (i := 1) rfl)) (hl _ (List.mem_of_getElem? (i := 2) rfl))
  refine Wp.iload_n 1 1 d_M_entry_0 rfl rfl ?_
  refine Wp.iload_n 2 2 d_M_entry_1 rfl rfl ?_
  obtain ⟨H2, H3⟩ := H0
  refine Wp.icmp_ne 14 d_M_entry_2 (by decide) (fun c1 => ?_) (fun c1 => ?_)
  · have H4 := H2 c1
    refine Wp.aload_n 0 0 d_M_entry_14 rfl rfl ?_
    refine Wp.iload_n 1 1 d_M_entry_15 rfl rfl ?_
    refine Wp.iload_n 2 2 d_M_entry_16 rfl rfl ?_
    obtain ⟨e6, P7, hd8, ho9, H10⟩ := H4
    refine Wq.VI (st := []) [.inl x1, .inl x2] d_M_entry_17 k_M_wideOf ml_M_348 rfl rfl rfl (fun h => by cases h) (Nat.le_of_ble_eq_true rfl) hd8 ho9 (fun z12 m13 hp14 hz15 hw16 => ?_)
    have H11 := H10 z12 m13 hp14 hz15 hw16
    obtain ⟨s17, H18⟩ := H11
    refine Wp.ineg d_M_entry_20 s17 ?_
    refine Wp.i2l d_M_entry_21 ?_
    exact Wq.lret d_M_entry_22 rfl H18
  · have H5 := H3 c1
    refine Wp.aload_n 0 0 d_M_entry_5 rfl rfl ?_
    refine Wp.iload_n 1 1 d_M_entry_6 rfl rfl ?_
    obtain ⟨e19, P20, hd21, ho22, H23⟩ := H5
    refine Wq.VI (st := []) [.inl x1] d_M_entry_7 k_M_brimOf ml_M_328 rfl rfl rfl (fun h => by cases h) (Nat.le_of_ble_eq_true rfl) hd21 ho22 (fun z25 m26 hp27 hz28 hw29 => ?_)
    have H24 := H23 z25 m26 hp27 hz28 hw29
    refine Wp.i2l d_M_entry_10 ?_
    refine Wp.goto 22 d_M_entry_11 (by decide) ?_
    exact Wq.lret d_M_entry_22 rfl H24
theorem d_M_brimOf_0 : decode Y_M_brimOf.2.1 0 = .ok (.aload_n 0, 1) := by decide +kernel
theorem d_M_brimOf_1 : decode Y_M_brimOf.2.1 1 = .ok (.getfield 79, 3) := by decide +kernel
theorem d_M_brimOf_4 : decode Y_M_brimOf.2.1 4 = .ok (.iload_n 1, 1) := by decide +kernel
theorem d_M_brimOf_5 : decode Y_M_brimOf.2.1 5 = .ok (.iaload, 1) := by decide +kernel
theorem d_M_brimOf_6 : decode Y_M_brimOf.2.1 6 = .ok (.ireturn, 1) := by decide +kernel
theorem e_M_brimOf {l : Launch} {G : GT} {d : Nat} {P : Int → MM → Prop} {m : MM} (x1 : Int)  (H : wfM m → inR x1 → (0 ≤ x1 ∧ x1 < (5 : Int)) ∧ (P (m 92 x1) m)) : CI l G Y_M_brimOf d [.inr (.inr 70), .inl x1] m P := by
  refine CI.of [(0, .inr (.inr 70)), (1, .inl x1)] k_M_brimOf.1 (Nat.le_of_ble_eq_true rfl) rfl (Wp.wf (fun hw _ hl hs => ?_))
  have H0 := H hw (hl _ (List.mem_of_getElem? (i := 1) rfl))
  refine Wp.aload_n 0 0 d_M_brimOf_0 rfl rfl ?_
  refine Wp.getP 92 d_M_brimOf_1 fl_M_79 rfl rfl rfl ?_
  refine Wp.iload_n 1 1 d_M_brimOf_4 rfl rfl ?_
  obtain ⟨s1, H2⟩ := H0
  refine Wp.iald d_M_brimOf_5 rfl (Or.inl rfl) s1.1 s1.2 ?_
  exact Wq.iret d_M_brimOf_6 rfl H2
theorem d_M_swapRows_0 : decode Y_M_swapRows.2.1 0 = .ok (.iconst 0, 1) := by decide +kernel
theorem d_M_swapRows_1 : decode Y_M_swapRows.2.1 1 = .ok (.istore 4, 2) := by decide +kernel
theorem d_M_swapRows_3 : decode Y_M_swapRows.2.1 3 = .ok (.iload 4, 2) := by decide +kernel
theorem d_M_swapRows_5 : decode Y_M_swapRows.2.1 5 = .ok (.iload_n 1, 1) := by decide +kernel
theorem d_M_swapRows_6 : decode Y_M_swapRows.2.1 6 = .ok (.if_icmp .ge 57, 3) := by decide +kernel
theorem d_M_swapRows_9 : decode Y_M_swapRows.2.1 9 = .ok (.aload_n 0, 1) := by decide +kernel
theorem d_M_swapRows_10 : decode Y_M_swapRows.2.1 10 = .ok (.getfield 100, 3) := by decide +kernel
theorem d_M_swapRows_13 : decode Y_M_swapRows.2.1 13 = .ok (.iload_n 2, 1) := by decide +kernel
theorem d_M_swapRows_14 : decode Y_M_swapRows.2.1 14 = .ok (.iload_n 1, 1) := by decide +kernel
theorem d_M_swapRows_15 : decode Y_M_swapRows.2.1 15 = .ok (.imul, 1) := by decide +kernel
theorem d_M_swapRows_16 : decode Y_M_swapRows.2.1 16 = .ok (.iload 4, 2) := by decide +kernel
theorem d_M_swapRows_18 : decode Y_M_swapRows.2.1 18 = .ok (.iadd, 1) := by decide +kernel
theorem d_M_swapRows_19 : decode Y_M_swapRows.2.1 19 = .ok (.laload, 1) := by decide +kernel
theorem d_M_swapRows_20 : decode Y_M_swapRows.2.1 20 = .ok (.lstore 5, 2) := by decide +kernel
theorem d_M_swapRows_22 : decode Y_M_swapRows.2.1 22 = .ok (.aload_n 0, 1) := by decide +kernel
theorem d_M_swapRows_23 : decode Y_M_swapRows.2.1 23 = .ok (.getfield 100, 3) := by decide +kernel
theorem d_M_swapRows_26 : decode Y_M_swapRows.2.1 26 = .ok (.iload_n 2, 1) := by decide +kernel
theorem d_M_swapRows_27 : decode Y_M_swapRows.2.1 27 = .ok (.iload_n 1, 1) := by decide +kernel
theorem d_M_swapRows_28 : decode Y_M_swapRows.2.1 28 = .ok (.imul, 1) := by decide +kernel
theorem d_M_swapRows_29 : decode Y_M_swapRows.2.1 29 = .ok (.iload 4, 2) := by decide +kernel
theorem d_M_swapRows_31 : decode Y_M_swapRows.2.1 31 = .ok (.iadd, 1) := by decide +kernel
theorem d_M_swapRows_32 : decode Y_M_swapRows.2.1 32 = .ok (.aload_n 0, 1) := by decide +kernel
theorem d_M_swapRows_33 : decode Y_M_swapRows.2.1 33 = .ok (.getfield 100, 3) := by decide +kernel
theorem d_M_swapRows_36 : decode Y_M_swapRows.2.1 36 = .ok (.iload_n 3, 1) := by decide +kernel
theorem d_M_swapRows_37 : decode Y_M_swapRows.2.1 37 = .ok (.iload_n 1, 1) := by decide +kernel
theorem d_M_swapRows_38 : decode Y_M_swapRows.2.1 38 = .ok (.imul, 1) := by decide +kernel
theorem d_M_swapRows_39 : decode Y_M_swapRows.2.1 39 = .ok (.iload 4, 2) := by decide +kernel
theorem d_M_swapRows_41 : decode Y_M_swapRows.2.1 41 = .ok (.iadd, 1) := by decide +kernel
theorem d_M_swapRows_42 : decode Y_M_swapRows.2.1 42 = .ok (.laload, 1) := by decide +kernel
theorem d_M_swapRows_43 : decode Y_M_swapRows.2.1 43 = .ok (.lastore, 1) := by decide +kernel
theorem d_M_swapRows_44 : decode Y_M_swapRows.2.1 44 = .ok (.aload_n 0, 1) := by decide +kernel
theorem d_M_swapRows_45 : decode Y_M_swapRows.2.1 45 = .ok (.getfield 100, 3) := by decide +kernel
theorem d_M_swapRows_48 : decode Y_M_swapRows.2.1 48 = .ok (.iload_n 3, 1) := by decide +kernel
theorem d_M_swapRows_49 : decode Y_M_swapRows.2.1 49 = .ok (.iload_n 1, 1) := by decide +kernel
theorem d_M_swapRows_50 : decode Y_M_swapRows.2.1 50 = .ok (.imul, 1) := by decide +kernel
theorem d_M_swapRows_51 : decode Y_M_swapRows.2.1 51 = .ok (.iload 4, 2) := by decide +kernel
theorem d_M_swapRows_53 : decode Y_M_swapRows.2.1 53 = .ok (.iadd, 1) := by decide +kernel
theorem d_M_swapRows_54 : decode Y_M_swapRows.2.1 54 = .ok (.lload 5, 2) := by decide +kernel
theorem d_M_swapRows_56 : decode Y_M_swapRows.2.1 56 = .ok (.lastore, 1) := by decide +kernel
theorem d_M_swapRows_57 : decode Y_M_swapRows.2.1 57 = .ok (.iinc 4 1, 3) := by decide +kernel
theorem d_M_swapRows_60 : decode Y_M_swapRows.2.1 60 = .ok (.goto (-57), 3) := by decide +kernel
theorem d_M_swapRows_63 : decode Y_M_swapRows.2.1 63 = .ok (.return_, 1) := by decide +kernel
theorem e_M_swapRows {l : Launch} {G : GT} {d : Nat} {P : MM → Prop} {m : MM} (x1 : Int) (x2 : Int) (x3 : Int)  (H : wfM m → inR x1 → inR x2 → inR x3 → Wq l G false Y_M_swapRows d (QV P) 3 [(0, .inr (.inr 70)), (1, .inl x1), (2, .inl x2), (3, .inl x3), (4, .inl 0)] [] m) : CV l G Y_M_swapRows d [.inr (.inr 70), .inl x1, .inl x2, .inl x3] m P := by
  refine CV.of [(0, .inr (.inr 70)), (1, .inl x1), (2, .inl x2), (3, .inl x3)] k_M_swapRows.1 (Nat.le_of_ble_eq_true rfl) rfl (Wp.wf (fun hw _ hl hs => ?_))
  have H0 := H hw (hl _ (List.mem_of_getElem? (i := 1) rfl)) (hl _ (List.mem_of_getElem? (i := 2) rfl)) (hl _ (List.mem_of_getElem? (i := 3) rfl))
  refine Wp.iconst d_M_swapRows_0 (by decide) ?_
  refine Wp.istore 4 [(0, .inr (.inr 70)), (1, .inl x1), (2, .inl x2), (3, .inl x3), (4, .inl 0)] d_M_swapRows_1 (by decide) rfl ?_
  exact H0
theorem s_M_swapRows_3 {l : Launch} {G : GT} {d : Nat} {P : MM → Prop} {m : MM} (x1 : Int) (x2 : Int) (x3 : Int) (x4 : Int)  (H : wfM m → inR x1 → inR x2 → inR x3 → inR x4 → (x4 ≥ x1 → (P m)) ∧ (¬ (x4 ≥ x1) → ((inR (x2 * x1)) ∧ ((inR ((x2 * x1) + x4)) ∧ ((0 ≤ ((x2 * x1) + x4) ∧ ((x2 * x1) + x4) < (25 : Int)) ∧ ((inR (x2 * x1)) ∧ ((inR ((x2 * x1) + x4)) ∧ ((inR (x3 * x1)) ∧ ((inR ((x3 * x1) + x4)) ∧ ((0 ≤ ((x3 * x1) + x4) ∧ ((x3 * x1) + x4) < (25 : Int)) ∧ ((0 ≤ ((x2 * x1) + x4) ∧ ((x2 * x1) + x4) < (25 : Int)) ∧ (∀ m22, m22 = up m 99 ((x2 * x1) + x4) (m 99 ((x3 * x1) + x4)) → ((inR (x3 * x1)) ∧ ((inR ((x3 * x1) + x4)) ∧ ((0 ≤ ((x3 * x1) + x4) ∧ ((x3 * x1) + x4) < (25 : Int)) ∧ (∀ m31, m31 = up m22 99 ((x3 * x1) + x4) (m 99 ((x2 * x1) + x4)) → ((inR (x4 + 1)) ∧ (Wq l G false Y_M_swapRows d (QV P) 3 [(0, .inr (.inr 70)), (1, .inl x1), (2, .inl x2), (3, .inl x3), (4, .inl (x4 + 1))] [] m31)))))))))))))))))) : Wq l G false Y_M_swapRows d (QV P) 3 [(0, .inr (.inr 70)), (1, .inl x1), (2, .inl x2), (3, .inl x3), (4, .inl x4)] [] m := by
  refine Wp.wf (fun hw _ hl hs => ?_)
  have H0 := H hw (hl _ (List.mem_of_getElem? (i := 1) rfl)) (hl _ (List.mem_of_getElem? (i := 2) rfl)) (hl _ (List.mem_of_getElem? (i := 3) rfl)) (hl _ (List.mem_of_getElem? (i := 4) rfl))
  refine Wp.iload 4 4 d_M_swapRows_3 rfl ?_
  refine Wp.iload_n 1 1 d_M_swapRows_5 rfl rfl ?_
  obtain ⟨H2, H3⟩ := H0
  refine Wp.icmp_ge 63 d_M_swapRows_6 (by decide) (fun c1 => ?_) (fun c1 => ?_)
  · have H4 := H2 c1
    exact Wq.vret d_M_swapRows_63 rfl H4
  · have H5 := H3 c1
    refine Wp.aload_n 0 0 d_M_swapRows_9 rfl rfl ?_
    refine Wp.getP 99 d_M_swapRows_10 fl_M_100 rfl rfl rfl ?_
    refine Wp.iload_n 2 2 d_M_swapRows_13 rfl rfl ?_
    refine Wp.iload_n 1 1 d_M_swapRows_14 rfl rfl ?_
    obtain ⟨s6, H7⟩ := H5
    refine Wp.imul d_M_swapRows_15 s6 ?_
    refine Wp.iload 4 4 d_M_swapRows_16 rfl ?_
    obtain ⟨s8, H9⟩ := H7
    refine Wp.iadd d_M_swapRows_18 s8 ?_
    obtain ⟨s10, H11⟩ := H9
    refine Wp.lald d_M_swapRows_19 rfl (Or.inl rfl) s10.1 s10.2 ?_
    refine Wp.lstore 5 [(0, .inr (.inr 70)), (1, .inl x1), (2, .inl x2), (3, .inl x3), (4, .inl x4), (5, .inr (.inl (m 99 ((x2 * x1) + x4))))] d_M_swapRows_20 (by decide) rfl ?_
    refine Wp.aload_n 0 0 d_M_swapRows_22 rfl rfl ?_
    refine Wp.getP 99 d_M_swapRows_23 fl_M_100 rfl rfl rfl ?_
    refine Wp.iload_n 2 2 d_M_swapRows_26 rfl rfl ?_
    refine Wp.iload_n 1 1 d_M_swapRows_27 rfl rfl ?_
    obtain ⟨s12, H13⟩ := H11
    refine Wp.imul d_M_swapRows_28 s12 ?_
    refine Wp.iload 4 4 d_M_swapRows_29 rfl ?_
    obtain ⟨s14, H15⟩ := H13
    refine Wp.iadd d_M_swapRows_31 s14 ?_
    refine Wp.aload_n 0 0 d_M_swapRows_32 rfl rfl ?_
    refine Wp.getP 99 d_M_swapRows_33 fl_M_100 rfl rfl rfl ?_
    refine Wp.iload_n 3 3 d_M_swapRows_36 rfl rfl ?_
    refine Wp.iload_n 1 1 d_M_swapRows_37 rfl rfl ?_
    obtain ⟨s16, H17⟩ := H15
    refine Wp.imul d_M_swapRows_38 s16 ?_
    refine Wp.iload 4 4 d_M_swapRows_39 rfl ?_
    obtain ⟨s18, H19⟩ := H17
    refine Wp.iadd d_M_swapRows_41 s18 ?_
    obtain ⟨s20, H21⟩ := H19
    refine Wp.lald d_M_swapRows_42 rfl (Or.inl rfl) s20.1 s20.2 ?_
    obtain ⟨s40, H41⟩ := H21
    refine Wq.last d_M_swapRows_43 rfl s40.1 s40.2 (fun m22 hm23 => ?_)
    have H24 := H41 m22 hm23
    refine Wp.aload_n 0 0 d_M_swapRows_44 rfl rfl ?_
    refine Wp.getP 99 d_M_swapRows_45 fl_M_100 rfl rfl rfl ?_
    refine Wp.iload_n 3 3 d_M_swapRows_48 rfl rfl ?_
    refine Wp.iload_n 1 1 d_M_swapRows_49 rfl rfl ?_
    obtain ⟨s27, H28⟩ := H24
    refine Wp.imul d_M_swapRows_50 s27 ?_
    refine Wp.iload 4 4 d_M_swapRows_51 rfl ?_
    obtain ⟨s29, H30⟩ := H28
    refine Wp.iadd d_M_swapRows_53 s29 ?_
    refine Wp.lload 5 5 d_M_swapRows_54 rfl ?_
    obtain ⟨s38, H39⟩ := H30
    refine Wq.last d_M_swapRows_56 rfl s38.1 s38.2 (fun m31 hm32 => ?_)
    have H33 := H39 m31 hm32
    obtain ⟨s36, H37⟩ := H33
    refine Wp.iinc 4 4 [(0, .inr (.inr 70)), (1, .inl x1), (2, .inl x2), (3, .inl x3), (4, .inl (x4 + 1)), (5, .inr (.inl (m 99 ((x2 * x1) + x4))))] d_M_swapRows_57 rfl s36 (by decide) rfl ?_
    refine Wp.goto 3 d_M_swapRows_60 (by decide) ?_
    refine Wp.pick [0, 1, 2, 3, 4] [(0, .inr (.inr 70)), (1, .inl x1), (2, .inl x2), (3, .inl x3), (4, .inl (x4 + 1))] rfl ?_
    exact H37
theorem d_M_clear_0 : decode Y_M_clear.2.1 0 = .ok (.iload_n 2, 1) := by decide +kernel
theorem d_M_clear_1 : decode Y_M_clear.2.1 1 = .ok (.iconst 1, 1) := by decide +kernel
theorem d_M_clear_2 : decode Y_M_clear.2.1 2 = .ok (.iadd, 1) := by decide +kernel
theorem d_M_clear_3 : decode Y_M_clear.2.1 3 = .ok (.istore 6, 2) := by decide +kernel
theorem d_M_clear_5 : decode Y_M_clear.2.1 5 = .ok (.iload 6, 2) := by decide +kernel
theorem d_M_clear_7 : decode Y_M_clear.2.1 7 = .ok (.iload_n 1, 1) := by decide +kernel
theorem d_M_clear_8 : decode Y_M_clear.2.1 8 = .ok (.if_icmp .ge 68, 3) := by decide +kernel
theorem d_M_clear_11 : decode Y_M_clear.2.1 11 = .ok (.aload_n 0, 1) := by decide +kernel
theorem d_M_clear_12 : decode Y_M_clear.2.1 12 = .ok (.getfield 100, 3) := by decide +kernel
theorem d_M_clear_15 : decode Y_M_clear.2.1 15 = .ok (.iload_n 3, 1) := by decide +kernel
theorem d_M_clear_16 : decode Y_M_clear.2.1 16 = .ok (.iload_n 1, 1) := by decide +kernel
theorem d_M_clear_17 : decode Y_M_clear.2.1 17 = .ok (.imul, 1) := by decide +kernel
theorem d_M_clear_18 : decode Y_M_clear.2.1 18 = .ok (.iload 6, 2) := by decide +kernel
theorem d_M_clear_20 : decode Y_M_clear.2.1 20 = .ok (.iadd, 1) := by decide +kernel
theorem d_M_clear_21 : decode Y_M_clear.2.1 21 = .ok (.aload_n 0, 1) := by decide +kernel
theorem d_M_clear_22 : decode Y_M_clear.2.1 22 = .ok (.getfield 100, 3) := by decide +kernel
theorem d_M_clear_25 : decode Y_M_clear.2.1 25 = .ok (.iload_n 3, 1) := by decide +kernel
theorem d_M_clear_26 : decode Y_M_clear.2.1 26 = .ok (.iload_n 1, 1) := by decide +kernel
theorem d_M_clear_27 : decode Y_M_clear.2.1 27 = .ok (.imul, 1) := by decide +kernel
theorem d_M_clear_28 : decode Y_M_clear.2.1 28 = .ok (.iload 6, 2) := by decide +kernel
theorem d_M_clear_30 : decode Y_M_clear.2.1 30 = .ok (.iadd, 1) := by decide +kernel
theorem d_M_clear_31 : decode Y_M_clear.2.1 31 = .ok (.laload, 1) := by decide +kernel
theorem d_M_clear_32 : decode Y_M_clear.2.1 32 = .ok (.aload_n 0, 1) := by decide +kernel
theorem d_M_clear_33 : decode Y_M_clear.2.1 33 = .ok (.getfield 100, 3) := by decide +kernel
theorem d_M_clear_36 : decode Y_M_clear.2.1 36 = .ok (.iload_n 2, 1) := by decide +kernel
theorem d_M_clear_37 : decode Y_M_clear.2.1 37 = .ok (.iload_n 1, 1) := by decide +kernel
theorem d_M_clear_38 : decode Y_M_clear.2.1 38 = .ok (.imul, 1) := by decide +kernel
theorem d_M_clear_39 : decode Y_M_clear.2.1 39 = .ok (.iload_n 2, 1) := by decide +kernel
theorem d_M_clear_40 : decode Y_M_clear.2.1 40 = .ok (.iadd, 1) := by decide +kernel
theorem d_M_clear_41 : decode Y_M_clear.2.1 41 = .ok (.laload, 1) := by decide +kernel
theorem d_M_clear_42 : decode Y_M_clear.2.1 42 = .ok (.lmul, 1) := by decide +kernel
theorem d_M_clear_43 : decode Y_M_clear.2.1 43 = .ok (.aload_n 0, 1) := by decide +kernel
theorem d_M_clear_44 : decode Y_M_clear.2.1 44 = .ok (.getfield 100, 3) := by decide +kernel
theorem d_M_clear_47 : decode Y_M_clear.2.1 47 = .ok (.iload_n 3, 1) := by decide +kernel
theorem d_M_clear_48 : decode Y_M_clear.2.1 48 = .ok (.iload_n 1, 1) := by decide +kernel
theorem d_M_clear_49 : decode Y_M_clear.2.1 49 = .ok (.imul, 1) := by decide +kernel
theorem d_M_clear_50 : decode Y_M_clear.2.1 50 = .ok (.iload_n 2, 1) := by decide +kernel
theorem d_M_clear_51 : decode Y_M_clear.2.1 51 = .ok (.iadd, 1) := by decide +kernel
theorem d_M_clear_52 : decode Y_M_clear.2.1 52 = .ok (.laload, 1) := by decide +kernel
theorem d_M_clear_53 : decode Y_M_clear.2.1 53 = .ok (.aload_n 0, 1) := by decide +kernel
theorem d_M_clear_54 : decode Y_M_clear.2.1 54 = .ok (.getfield 100, 3) := by decide +kernel
theorem d_M_clear_57 : decode Y_M_clear.2.1 57 = .ok (.iload_n 2, 1) := by decide +kernel
theorem d_M_clear_58 : decode Y_M_clear.2.1 58 = .ok (.iload_n 1, 1) := by decide +kernel
theorem d_M_clear_59 : decode Y_M_clear.2.1 59 = .ok (.imul, 1) := by decide +kernel
theorem d_M_clear_60 : decode Y_M_clear.2.1 60 = .ok (.iload 6, 2) := by decide +kernel
theorem d_M_clear_62 : decode Y_M_clear.2.1 62 = .ok (.iadd, 1) := by decide +kernel
theorem d_M_clear_63 : decode Y_M_clear.2.1 63 = .ok (.laload, 1) := by decide +kernel
theorem d_M_clear_64 : decode Y_M_clear.2.1 64 = .ok (.lmul, 1) := by decide +kernel
theorem d_M_clear_65 : decode Y_M_clear.2.1 65 = .ok (.lsub, 1) := by decide +kernel
theorem d_M_clear_66 : decode Y_M_clear.2.1 66 = .ok (.lload 4, 2) := by decide +kernel
theorem d_M_clear_68 : decode Y_M_clear.2.1 68 = .ok (.ldiv, 1) := by decide +kernel
theorem d_M_clear_69 : decode Y_M_clear.2.1 69 = .ok (.lastore, 1) := by decide +kernel
theorem d_M_clear_70 : decode Y_M_clear.2.1 70 = .ok (.iinc 6 1, 3) := by decide +kernel
theorem d_M_clear_73 : decode Y_M_clear.2.1 73 = .ok (.goto (-68), 3) := by decide +kernel
theorem d_M_clear_76 : decode Y_M_clear.2.1 76 = .ok (.return_, 1) := by decide +kernel
theorem e_M_clear {l : Launch} {G : GT} {d : Nat} {P : MM → Prop} {m : MM} (x1 : Int) (x2 : Int) (x3 : Int) (x4 : Int)  (H : wfM m → inR x1 → inR x2 → inR x3 → inL x4 → (inR (x2 + 1)) ∧ (Wq l G false Y_M_clear d (QV P) 5 [(0, .inr (.inr 70)), (1, .inl x1), (2, .inl x2), (3, .inl x3), (4, .inr (.inl x4)), (6, .inl (x2 + 1))] [] m)) : CV l G Y_M_clear d [.inr (.inr 70), .inl x1, .inl x2, .inl x3, .inr (.inl x4)] m P := by
  refine CV.of [(0, .inr (.inr 70)), (1, .inl x1), (2, .inl x2), (3, .inl x3), (4, .inr (.inl x4))] k_M_clear.1 (Nat.le_of_ble_eq_true rfl) rfl (Wp.wf (fun hw _ hl hs => ?_))
  have H0 := H hw (hl _ (List.mem_of_getElem? (i := 1) rfl)) (hl _ (List.mem_of_getElem? (i := 2) rfl)) (hl _ (List.mem_of_getElem? (i := 3) rfl)) (hl _ (List.mem_of_getElem? (i := 4) rfl))
  refine Wp.iload_n 2 2 d_M_clear_0 rfl rfl ?_
  refine Wp.iconst d_M_clear_1 (by decide) ?_
  obtain ⟨s1, H2⟩ := H0
  refine Wp.iadd d_M_clear_2 s1 ?_
  refine Wp.istore 6 [(0, .inr (.inr 70)), (1, .inl x1), (2, .inl x2), (3, .inl x3), (4, .inr (.inl x4)), (6, .inl (x2 + 1))] d_M_clear_3 (by decide) rfl ?_
  exact H2
theorem s_M_clear_5 {l : Launch} {G : GT} {d : Nat} {P : MM → Prop} {m : MM} (x1 : Int) (x2 : Int) (x3 : Int) (x4 : Int) (x6 : Int)  (H : wfM m → inR x1 → inR x2 → inR x3 → inL x4 → inR x6 → (x6 ≥ x1 → (P m)) ∧ (¬ (x6 ≥ x1) → ((inR (x3 * x1)) ∧ ((inR ((x3 * x1) + x6)) ∧ ((inR (x3 * x1)) ∧ ((inR ((x3 * x1) + x6)) ∧ ((0 ≤ ((x3 * x1) + x6) ∧ ((x3 * x1) + x6) < (25 : Int)) ∧ ((inR (x2 * x1)) ∧ ((inR ((x2 * x1) + x2)) ∧ ((0 ≤ ((x2 * x1) + x2) ∧ ((x2 * x1) + x2) < (25 : Int)) ∧ ((inL ((m 99 ((x3 * x1) + x6)) * (m 99 ((x2 * x1) + x2)))) ∧ ((inR (x3 * x1)) ∧ ((inR ((x3 * x1) + x2)) ∧ ((0 ≤ ((x3 * x1) + x2) ∧ ((x3 * x1) + x2) < (25 : Int)) ∧ ((inR (x2 * x1)) ∧ ((inR ((x2 * x1) + x6)) ∧ ((0 ≤ ((x2 * x1) + x6) ∧ ((x2 * x1) + x6) < (25 : Int)) ∧ ((inL ((m 99 ((x3 * x1) + x2)) * (m 99 ((x2 * x1) + x6)))) ∧ ((inL (((m 99 ((x3 * x1) + x6)) * (m 99 ((x2 * x1) + x2))) - ((m 99 ((x3 * x1) + x2)) * (m 99 ((x2 * x1) + x6))))) ∧ ((x4 ≠ 0 ∧ inL (Int.tdiv (((m 99 ((x3 * x1) + x6)) * (m 99 ((x2 * x1) + x2))) - ((m 99 ((x3 * x1) + x2)) * (m 99 ((x2 * x1) + x6)))) x4)) ∧ ((0 ≤ ((x3 * x1) + x6) ∧ ((x3 * x1) + x6) < (25 : Int)) ∧ (∀ m42, m42 = up m 99 ((x3 * x1) + x6) (Int.tdiv (((m 99 ((x3 * x1) + x6)) * (m 99 ((x2 * x1) + x2))) - ((m 99 ((x3 * x1) + x2)) * (m 99 ((x2 * x1) + x6)))) x4) → ((inR (x6 + 1)) ∧ (Wq l G false Y_M_clear d (QV P) 5 [(0, .inr (.inr 70)), (1, .inl x1), (2, .inl x2), (3, .inl x3), (4, .inr (.inl x4)), (6, .inl (x6 + 1))] [] m42)))))))))))))))))))))))) : Wq l G false Y_M_clear d (QV P) 5 [(0, .inr (.inr 70)), (1, .inl x1), (2, .inl x2), (3, .inl x3), (4, .inr (.inl x4)), (6, .inl x6)] [] m := by
  refine Wp.wf (fun hw _ hl hs => ?_)
  have H0 := H hw (hl _ (List.mem_of_getElem? (i := 1) rfl)) (hl _ (List.mem_of_getElem? (i := 2) rfl)) (hl _ (List.mem_of_getElem? (i := 3) rfl)) (hl _ (List.mem_of_getElem? (i := 4) rfl)) (hl _ (List.mem_of_getElem? (i := 5) rfl))
  refine Wp.iload 5 6 d_M_clear_5 rfl ?_
  refine Wp.iload_n 1 1 d_M_clear_7 rfl rfl ?_
  obtain ⟨H2, H3⟩ := H0
  refine Wp.icmp_ge 76 d_M_clear_8 (by decide) (fun c1 => ?_) (fun c1 => ?_)
  · have H4 := H2 c1
    exact Wq.vret d_M_clear_76 rfl H4
  · have H5 := H3 c1
    refine Wp.aload_n 0 0 d_M_clear_11 rfl rfl ?_
    refine Wp.getP 99 d_M_clear_12 fl_M_100 rfl rfl rfl ?_
    refine Wp.iload_n 3 3 d_M_clear_15 rfl rfl ?_
    refine Wp.iload_n 1 1 d_M_clear_16 rfl rfl ?_
    obtain ⟨s6, H7⟩ := H5
    refine Wp.imul d_M_clear_17 s6 ?_
    refine Wp.iload 5 6 d_M_clear_18 rfl ?_
    obtain ⟨s8, H9⟩ := H7
    refine Wp.iadd d_M_clear_20 s8 ?_
    refine Wp.aload_n 0 0 d_M_clear_21 rfl rfl ?_
    refine Wp.getP 99 d_M_clear_22 fl_M_100 rfl rfl rfl ?_
    refine Wp.iload_n 3 3 d_M_clear_25 rfl rfl ?_
    refine Wp.iload_n 1 1 d_M_clear_26 rfl rfl ?_
    obtain ⟨s10, H11⟩ := H9
    refine Wp.imul d_M_clear_27 s10 ?_
    refine Wp.iload 5 6 d_M_clear_28 rfl ?_
    obtain ⟨s12, H13⟩ := H11
    refine Wp.iadd d_M_clear_30 s12 ?_
    obtain ⟨s14, H15⟩ := H13
    refine Wp.lald d_M_clear_31 rfl (Or.inl rfl) s14.1 s14.2 ?_
    refine Wp.aload_n 0 0 d_M_clear_32 rfl rfl ?_
    refine Wp.getP 99 d_M_clear_33 fl_M_100 rfl rfl rfl ?_
    refine Wp.iload_n 2 2 d_M_clear_36 rfl rfl ?_
    refine Wp.iload_n 1 1 d_M_clear_37 rfl rfl ?_
    obtain ⟨s16, H17⟩ := H15
    refine Wp.imul d_M_clear_38 s16 ?_
    refine Wp.iload_n 2 2 d_M_clear_39 rfl rfl ?_
    obtain ⟨s18, H19⟩ := H17
    refine Wp.iadd d_M_clear_40 s18 ?_
    obtain ⟨s20, H21⟩ := H19
    refine Wp.lald d_M_clear_41 rfl (Or.inl rfl) s20.1 s20.2 ?_
    obtain ⟨s22, H23⟩ := H21
    refine Wq.lmul d_M_clear_42 s22 ?_
    refine Wp.aload_n 0 0 d_M_clear_43 rfl rfl ?_
    refine Wp.getP 99 d_M_clear_44 fl_M_100 rfl rfl rfl ?_
    refine Wp.iload_n 3 3 d_M_clear_47 rfl rfl ?_
    refine Wp.iload_n 1 1 d_M_clear_48 rfl rfl ?_
    obtain ⟨s24, H25⟩ := H23
    refine Wp.imul d_M_clear_49 s24 ?_
    refine Wp.iload_n 2 2 d_M_clear_50 rfl rfl ?_
    obtain ⟨s26, H27⟩ := H25
    refine Wp.iadd d_M_clear_51 s26 ?_
    obtain ⟨s28, H29⟩ := H27
    refine Wp.lald d_M_clear_52 rfl (Or.inl rfl) s28.1 s28.2 ?_
    refine Wp.aload_n 0 0 d_M_clear_53 rfl rfl ?_
    refine Wp.getP 99 d_M_clear_54 fl_M_100 rfl rfl rfl ?_
    refine Wp.iload_n 2 2 d_M_clear_57 rfl rfl ?_
    refine Wp.iload_n 1 1 d_M_clear_58 rfl rfl ?_
    obtain ⟨s30, H31⟩ := H29
    refine Wp.imul d_M_clear_59 s30 ?_
    refine Wp.iload 5 6 d_M_clear_60 rfl ?_
    obtain ⟨s32, H33⟩ := H31
    refine Wp.iadd d_M_clear_62 s32 ?_
    obtain ⟨s34, H35⟩ := H33
    refine Wp.lald d_M_clear_63 rfl (Or.inl rfl) s34.1 s34.2 ?_
    obtain ⟨s36, H37⟩ := H35
    refine Wq.lmul d_M_clear_64 s36 ?_
    obtain ⟨s38, H39⟩ := H37
    refine Wq.lsub d_M_clear_65 s38 ?_
    refine Wp.lload 4 4 d_M_clear_66 rfl ?_
    obtain ⟨s40, H41⟩ := H39
    refine Wq.ldiv d_M_clear_68 s40.1 s40.2 ?_
    obtain ⟨s49, H50⟩ := H41
    refine Wq.last d_M_clear_69 rfl s49.1 s49.2 (fun m42 hm43 => ?_)
    have H44 := H50 m42 hm43
    obtain ⟨s47, H48⟩ := H44
    refine Wp.iinc 5 6 [(0, .inr (.inr 70)), (1, .inl x1), (2, .inl x2), (3, .inl x3), (4, .inr (.inl x4)), (6, .inl (x6 + 1))] d_M_clear_70 rfl s47 (by decide) rfl ?_
    refine Wp.goto 5 d_M_clear_73 (by decide) ?_
    exact H48
theorem d_M_layNought_0 : decode Y_M_layNought.2.1 0 = .ok (.iconst 0, 1) := by decide +kernel
theorem d_M_layNought_1 : decode Y_M_layNought.2.1 1 = .ok (.istore_n 1, 1) := by decide +kernel
theorem d_M_layNought_2 : decode Y_M_layNought.2.1 2 = .ok (.iload_n 1, 1) := by decide +kernel
theorem d_M_layNought_3 : decode Y_M_layNought.2.1 3 = .ok (.aload_n 0, 1) := by decide +kernel
theorem d_M_layNought_4 : decode Y_M_layNought.2.1 4 = .ok (.invokevirtual 338, 3) := by decide +kernel
theorem d_M_layNought_7 : decode Y_M_layNought.2.1 7 = .ok (.if_icmp .ge 24, 3) := by decide +kernel
theorem d_M_layNought_10 : decode Y_M_layNought.2.1 10 = .ok (.aload_n 0, 1) := by decide +kernel
theorem d_M_layNought_11 : decode Y_M_layNought.2.1 11 = .ok (.getfield 82, 3) := by decide +kernel
theorem d_M_layNought_14 : decode Y_M_layNought.2.1 14 = .ok (.iload_n 1, 1) := by decide +kernel
theorem d_M_layNought_15 : decode Y_M_layNought.2.1 15 = .ok (.iconst 2, 1) := by decide +kernel
theorem d_M_layNought_16 : decode Y_M_layNought.2.1 16 = .ok (.aload_n 0, 1) := by decide +kernel
theorem d_M_layNought_17 : decode Y_M_layNought.2.1 17 = .ok (.iload_n 1, 1) := by decide +kernel
theorem d_M_layNought_18 : decode Y_M_layNought.2.1 18 = .ok (.invokevirtual 328, 3) := by decide +kernel
theorem d_M_layNought_21 : decode Y_M_layNought.2.1 21 = .ok (.imul, 1) := by decide +kernel
theorem d_M_layNought_22 : decode Y_M_layNought.2.1 22 = .ok (.iconst 2, 1) := by decide +kernel
theorem d_M_layNought_23 : decode Y_M_layNought.2.1 23 = .ok (.isub, 1) := by decide +kernel
theorem d_M_layNought_24 : decode Y_M_layNought.2.1 24 = .ok (.iastore, 1) := by decide +kernel
theorem d_M_layNought_25 : decode Y_M_layNought.2.1 25 = .ok (.iinc 1 1, 3) := by decide +kernel
theorem d_M_layNought_28 : decode Y_M_layNought.2.1 28 = .ok (.goto (-26), 3) := by decide +kernel
theorem d_M_layNought_31 : decode Y_M_layNought.2.1 31 = .ok (.aload_n 0, 1) := by decide +kernel
theorem d_M_layNought_32 : decode Y_M_layNought.2.1 32 = .ok (.invokevirtual 381, 3) := by decide +kernel
theorem d_M_layNought_35 : decode Y_M_layNought.2.1 35 = .ok (.istore_n 1, 1) := by decide +kernel
theorem d_M_layNought_36 : decode Y_M_layNought.2.1 36 = .ok (.iconst 0, 1) := by decide +kernel
theorem d_M_layNought_37 : decode Y_M_layNought.2.1 37 = .ok (.istore_n 2, 1) := by decide +kernel
theorem d_M_layNought_38 : decode Y_M_layNought.2.1 38 = .ok (.iload_n 2, 1) := by decide +kernel
theorem d_M_layNought_39 : decode Y_M_layNought.2.1 39 = .ok (.aload_n 0, 1) := by decide +kernel
theorem d_M_layNought_40 : decode Y_M_layNought.2.1 40 = .ok (.invokevirtual 338, 3) := by decide +kernel
theorem d_M_layNought_43 : decode Y_M_layNought.2.1 43 = .ok (.if_icmp .ge 31, 3) := by decide +kernel
theorem d_M_layNought_46 : decode Y_M_layNought.2.1 46 = .ok (.aload_n 0, 1) := by decide +kernel
theorem d_M_layNought_47 : decode Y_M_layNought.2.1 47 = .ok (.getfield 82, 3) := by decide +kernel
theorem d_M_layNought_50 : decode Y_M_layNought.2.1 50 = .ok (.iload_n 2, 1) := by decide +kernel
theorem d_M_layNought_51 : decode Y_M_layNought.2.1 51 = .ok (.iconst 2, 1) := by decide +kernel
theorem d_M_layNought_52 : decode Y_M_layNought.2.1 52 = .ok (.aload_n 0, 1) := by decide +kernel
theorem d_M_layNought_53 : decode Y_M_layNought.2.1 53 = .ok (.iload_n 2, 1) := by decide +kernel
theorem d_M_layNought_54 : decode Y_M_layNought.2.1 54 = .ok (.invokevirtual 328, 3) := by decide +kernel
theorem d_M_layNought_57 : decode Y_M_layNought.2.1 57 = .ok (.imul, 1) := by decide +kernel
theorem d_M_layNought_58 : decode Y_M_layNought.2.1 58 = .ok (.iconst 2, 1) := by decide +kernel
theorem d_M_layNought_59 : decode Y_M_layNought.2.1 59 = .ok (.isub, 1) := by decide +kernel
theorem d_M_layNought_60 : decode Y_M_layNought.2.1 60 = .ok (.aload_n 0, 1) := by decide +kernel
theorem d_M_layNought_61 : decode Y_M_layNought.2.1 61 = .ok (.getfield 82, 3) := by decide +kernel
theorem d_M_layNought_64 : decode Y_M_layNought.2.1 64 = .ok (.iload_n 2, 1) := by decide +kernel
theorem d_M_layNought_65 : decode Y_M_layNought.2.1 65 = .ok (.iaload, 1) := by decide +kernel
theorem d_M_layNought_66 : decode Y_M_layNought.2.1 66 = .ok (.isub, 1) := by decide +kernel
theorem d_M_layNought_67 : decode Y_M_layNought.2.1 67 = .ok (.iastore, 1) := by decide +kernel
theorem d_M_layNought_68 : decode Y_M_layNought.2.1 68 = .ok (.iinc 2 1, 3) := by decide +kernel
theorem d_M_layNought_71 : decode Y_M_layNought.2.1 71 = .ok (.goto (-33), 3) := by decide +kernel
theorem d_M_layNought_74 : decode Y_M_layNought.2.1 74 = .ok (.aload_n 0, 1) := by decide +kernel
theorem d_M_layNought_75 : decode Y_M_layNought.2.1 75 = .ok (.invokevirtual 381, 3) := by decide +kernel
theorem d_M_layNought_78 : decode Y_M_layNought.2.1 78 = .ok (.istore_n 1, 1) := by decide +kernel
theorem d_M_layNought_79 : decode Y_M_layNought.2.1 79 = .ok (.iconst 0, 1) := by decide +kernel
theorem d_M_layNought_80 : decode Y_M_layNought.2.1 80 = .ok (.istore_n 2, 1) := by decide +kernel
theorem d_M_layNought_81 : decode Y_M_layNought.2.1 81 = .ok (.iload_n 2, 1) := by decide +kernel
theorem d_M_layNought_82 : decode Y_M_layNought.2.1 82 = .ok (.aload_n 0, 1) := by decide +kernel
theorem d_M_layNought_83 : decode Y_M_layNought.2.1 83 = .ok (.invokevirtual 338, 3) := by decide +kernel
theorem d_M_layNought_86 : decode Y_M_layNought.2.1 86 = .ok (.if_icmp .ge 21, 3) := by decide +kernel
theorem d_M_layNought_89 : decode Y_M_layNought.2.1 89 = .ok (.aload_n 0, 1) := by decide +kernel
theorem d_M_layNought_90 : decode Y_M_layNought.2.1 90 = .ok (.getfield 88, 3) := by decide +kernel
theorem d_M_layNought_93 : decode Y_M_layNought.2.1 93 = .ok (.iload_n 2, 1) := by decide +kernel
theorem d_M_layNought_94 : decode Y_M_layNought.2.1 94 = .ok (.aload_n 0, 1) := by decide +kernel
theorem d_M_layNought_95 : decode Y_M_layNought.2.1 95 = .ok (.getfield 82, 3) := by decide +kernel
theorem d_M_layNought_98 : decode Y_M_layNought.2.1 98 = .ok (.iload_n 2, 1) := by decide +kernel
theorem d_M_layNought_99 : decode Y_M_layNought.2.1 99 = .ok (.iaload, 1) := by decide +kernel
theorem d_M_layNought_100 : decode Y_M_layNought.2.1 100 = .ok (.iastore, 1) := by decide +kernel
theorem d_M_layNought_101 : decode Y_M_layNought.2.1 101 = .ok (.iinc 2 1, 3) := by decide +kernel
theorem d_M_layNought_104 : decode Y_M_layNought.2.1 104 = .ok (.goto (-23), 3) := by decide +kernel
theorem d_M_layNought_107 : decode Y_M_layNought.2.1 107 = .ok (.return_, 1) := by decide +kernel
theorem e_M_layNought {l : Launch} {G : GT} {d : Nat} {P : MM → Prop} {m : MM}   (H : wfM m → Wq l G false Y_M_layNought d (QV P) 2 [(0, .inr (.inr 70)), (1, .inl 0)] [] m) : CV l G Y_M_layNought d [.inr (.inr 70)] m P := by
  refine CV.of [(0, .inr (.inr 70))] k_M_layNought.1 (Nat.le_of_ble_eq_true rfl) rfl (Wp.wf (fun hw _ hl hs => ?_))
  have H0 := H hw
  refine Wp.iconst d_M_layNought_0 (by decide) ?_
  refine Wp.istore_n 1 [(0, .inr (.inr 70)), (1, .inl 0)] d_M_layNought_1 rfl (by decide) rfl ?_
  exact H0
theorem s_M_layNought_2 {l : Launch} {G : GT} {d : Nat} {P : MM → Prop} {m : MM} (x1 : Int)  (H : wfM m → inR x1 → ∃ (e1 : Nat) (P2 : Int → MM → Prop), e1 < d ∧ CI l G Y_M_lots e1 [.inr (.inr 70)] m P2 ∧ (∀ z7 m8, P2 z7 m8 → inR z7 → wfM m8 → ((x1 ≥ z7 → (∃ (e17 : Nat) (P18 : Int → MM → Prop), e17 < d ∧ CI l G Y_M_settleHeap e17 [.inr (.inr 70)] m8 P18 ∧ (∀ z23 m24, P18 z23 m24 → inR z23 → wfM m24 → (Wq l G false Y_M_layNought d (QV P) 38 [(0, .inr (.inr 70)), (2, .inl 0)] [] m24)))) ∧ (¬ (x1 ≥ z7) → (∃ (e28 : Nat) (P29 : Int → MM → Prop), e28 < d ∧ CI l G Y_M_brimOf e28 [.inr (.inr 70), .inl x1] m8 P29 ∧ (∀ z34 m35, P29 z34 m35 → inR z34 → wfM m35 → ((inR (2 * z34)) ∧ ((inR ((2 * z34) - 2)) ∧ ((0 ≤ x1 ∧ x1 < (5 : Int)) ∧ (∀ m43, m43 = up m35 93 x1 ((2 * z34) - 2) → ((inR (x1 + 1)) ∧ (Wq l G false Y_M_layNought d (QV P) 2 [(0, .inr (.inr 70)), (1, .inl (x1 + 1))] [] m43)))))))))))) : Wq l G false Y_M_layNought d (QV P) 2 [(0, .inr (.inr 70)), (1, .inl x1)] [] m := by
  refine Wp.wf (fun hw _ hl hs => ?_)
  have H0 := H hw (hl _ (List.mem_of_getElem? (i := 1) rfl))
  refine Wp.iload_n 1 1 d_M_layNought_2 rfl rfl ?_
  refine Wp.aload_n 0 0 d_M_layNought_3 rfl rfl ?_
  obtain ⟨e1, P2, hd3, ho4, H5⟩ := H0
  refine Wq.VI (st := [.inl x1]) [] d_M_layNought_4 k_M_lots ml_M_338 rfl rfl rfl (fun h => by cases h) (Nat.le_of_ble_eq_true rfl) hd3 ho4 (fun z7 m8 hp9 hz10 hw11 => ?_)
  have H6 := H5 z7 m8 hp9 hz10 hw11
  obtain ⟨H13, H14⟩ := H6
  refine Wp.icmp_ge 31 d_M_layNought_7 (by decide) (fun c12 => ?_) (fun c12 => ?_)
  · have H15 := H13 c12
    refine Wp.aload_n 0 0 d_M_layNought_31 rfl rfl ?_
    obtain ⟨e17, P18, hd19, ho20, H21⟩ := H15
    refine Wq.VI (st := []) [] d_M_layNought_32 k_M_settleHeap ml_M_381 rfl rfl rfl (fun h => by cases h) (Nat.le_of_ble_eq_true rfl) hd19 ho20 (fun z23 m24 hp25 hz26 hw27 => ?_)
    have H22 := H21 z23 m24 hp25 hz26 hw27
    refine Wp.istore_n 1 [(0, .inr (.inr 70)), (1, .inl z23)] d_M_layNought_35 rfl (by decide) rfl ?_
    refine Wp.iconst d_M_layNought_36 (by decide) ?_
    refine Wp.istore_n 2 [(0, .inr (.inr 70)), (1, .inl z23), (2, .inl 0)] d_M_layNought_37 rfl (by decide) rfl ?_
    refine Wp.pick [0, 2] [(0, .inr (.inr 70)), (2, .inl 0)] rfl ?_
    exact H22
  · have H16 := H14 c12
    refine Wp.aload_n 0 0 d_M_layNought_10 rfl rfl ?_
    refine Wp.getP 93 d_M_layNought_11 fl_M_82 rfl rfl rfl ?_
    refine Wp.iload_n 1 1 d_M_layNought_14 rfl rfl ?_
    refine Wp.iconst d_M_layNought_15 (by decide) ?_
    refine Wp.aload_n 0 0 d_M_layNought_16 rfl rfl ?_
    refine Wp.iload_n 1 1 d_M_layNought_17 rfl rfl ?_
    obtain ⟨e28, P29, hd30, ho31, H32⟩ := H16
    refine Wq.VI (st := [.inl 2, .inl x1, .inr (.inr 93)]) [.inl x1] d_M_layNought_18 k_M_brimOf ml_M_328 rfl rfl rfl (fun h => by cases h) (Nat.le_of_ble_eq_true rfl) hd30 ho31 (fun z34 m35 hp36 hz37 hw38 => ?_)
    have H33 := H32 z34 m35 hp36 hz37 hw38
    obtain ⟨s39, H40⟩ := H33
    refine Wp.imul d_M_layNought_21 s39 ?_
    refine Wp.iconst d_M_layNought_22 (by decide) ?_
    obtain ⟨s41, H42⟩ := H40
    refine Wp.isub d_M_layNought_23 s41 ?_
    obtain ⟨s50, H51⟩ := H42
    refine Wq.iast d_M_layNought_24 rfl s50.1 s50.2 (fun m43 hm44 => ?_)
    have H45 := H51 m43 hm44
    obtain ⟨s48, H49⟩ := H45
    refine Wp.iinc 1 1 [(0, .inr (.inr 70)), (1, .inl (x1 + 1))] d_M_layNought_25 rfl s48 (by decide) rfl ?_
    refine Wp.goto 2 d_M_layNought_28 (by decide) ?_
    exact H49
theorem s_M_layNought_38 {l : Launch} {G : GT} {d : Nat} {P : MM → Prop} {m : MM} (x2 : Int)  (H : wfM m → inR x2 → ∃ (e1 : Nat) (P2 : Int → MM → Prop), e1 < d ∧ CI l G Y_M_lots e1 [.inr (.inr 70)] m P2 ∧ (∀ z7 m8, P2 z7 m8 → inR z7 → wfM m8 → ((x2 ≥ z7 → (∃ (e17 : Nat) (P18 : Int → MM → Prop), e17 < d ∧ CI l G Y_M_settleHeap e17 [.inr (.inr 70)] m8 P18 ∧ (∀ z23 m24, P18 z23 m24 → inR z23 → wfM m24 → (Wq l G false Y_M_layNought d (QV P) 81 [(0, .inr (.inr 70)), (2, .inl 0)] [] m24)))) ∧ (¬ (x2 ≥ z7) → (∃ (e28 : Nat) (P29 : Int → MM → Prop), e28 < d ∧ CI l G Y_M_brimOf e28 [.inr (.inr 70), .inl x2] m8 P29 ∧ (∀ z34 m35, P29 z34 m35 → inR z34 → wfM m35 → ((inR (2 * z34)) ∧ ((inR ((2 * z34) - 2)) ∧ ((0 ≤ x2 ∧ x2 < (5 : Int)) ∧ ((inR (((2 * z34) - 2) - (m35 93 x2))) ∧ ((0 ≤ x2 ∧ x2 < (5 : Int)) ∧ (∀ m47, m47 = up m35 93 x2 (((2 * z34) - 2) - (m35 93 x2)) → ((inR (x2 + 1)) ∧ (Wq l G false Y_M_layNought d (QV P) 38 [(0, .inr (.inr 70)), (2, .inl (x2 + 1))] [] m47)))))))))))))) : Wq l G false Y_M_layNought d (QV P) 38 [(0, .inr (.inr 70)), (2, .inl x2)] [] m := by
  refine Wp.wf (fun hw _ hl hs => ?_)
  have H0 := H hw (hl _ (List.mem_of_getElem? (i := 1) rfl))
  refine Wp.iload_n 1 2 d_M_layNought_38 rfl rfl ?_
  refine Wp.aload_n 0 0 d_M_layNought_39 rfl rfl ?_
  obtain ⟨e1, P2, hd3, ho4, H5⟩ := H0
  refine Wq.VI (st := [.inl x2]) [] d_M_layNought_40 k_M_lots ml_M_338 rfl rfl rfl (fun h => by cases h) (Nat.le_of_ble_eq_true rfl) hd3 ho4 (fun z7 m8 hp9 hz10 hw11 => ?_)
  have H6 := H5 z7 m8 hp9 hz10 hw11
  obtain ⟨H13, H14⟩ := H6
  refine Wp.icmp_ge 74 d_M_layNought_43 (by decide) (fun c12 => ?_) (fun c12 => ?_)
  · have H15 := H13 c12
    refine Wp.aload_n 0 0 d_M_layNought_74 rfl rfl ?_
    obtain ⟨e17, P18, hd19, ho20, H21⟩ := H15
    refine Wq.VI (st := []) [] d_M_layNought_75 k_M_settleHeap ml_M_381 rfl rfl rfl (fun h => by cases h) (Nat.le_of_ble_eq_true rfl) hd19 ho20 (fun z23 m24 hp25 hz26 hw27 => ?_)
    have H22 := H21 z23 m24 hp25 hz26 hw27
    refine Wp.istore_n 1 [(0, .inr (.inr 70)), (1, .inl z23), (2, .inl x2)] d_M_layNought_78 rfl (by decide) rfl ?_
    refine Wp.iconst d_M_layNought_79 (by decide) ?_
    refine Wp.istore_n 2 [(0, .inr (.inr 70)), (1, .inl z23), (2, .inl 0)] d_M_layNought_80 rfl (by decide) rfl ?_
    refine Wp.pick [0, 2] [(0, .inr (.inr 70)), (2, .inl 0)] rfl ?_
    exact H22
  · have H16 := H14 c12
    refine Wp.aload_n 0 0 d_M_layNought_46 rfl rfl ?_
    refine Wp.getP 93 d_M_layNought_47 fl_M_82 rfl rfl rfl ?_
    refine Wp.iload_n 1 2 d_M_layNought_50 rfl rfl ?_
    refine Wp.iconst d_M_layNought_51 (by decide) ?_
    refine Wp.aload_n 0 0 d_M_layNought_52 rfl rfl ?_
    refine Wp.iload_n 1 2 d_M_layNought_53 rfl rfl ?_
    obtain ⟨e28, P29, hd30, ho31, H32⟩ := H16
    refine Wq.VI (st := [.inl 2, .inl x2, .inr (.inr 93)]) [.inl x2] d_M_layNought_54 k_M_brimOf ml_M_328 rfl rfl rfl (fun h => by cases h) (Nat.le_of_ble_eq_true rfl) hd30 ho31 (fun z34 m35 hp36 hz37 hw38 => ?_)
    have H33 := H32 z34 m35 hp36 hz37 hw38
    obtain ⟨s39, H40⟩ := H33
    refine Wp.imul d_M_layNought_57 s39 ?_
    refine Wp.iconst d_M_layNought_58 (by decide) ?_
    obtain ⟨s41, H42⟩ := H40
    refine Wp.isub d_M_layNought_59 s41 ?_
    refine Wp.aload_n 0 0 d_M_layNought_60 rfl rfl ?_
    refine Wp.getP 93 d_M_layNought_61 fl_M_82 rfl rfl rfl ?_
    refine Wp.iload_n 1 2 d_M_layNought_64 rfl rfl ?_
    obtain ⟨s43, H44⟩ := H42
    refine Wp.iald d_M_layNought_65 rfl (Or.inl rfl) s43.1 s43.2 ?_
    obtain ⟨s45, H46⟩ := H44
    refine Wp.isub d_M_layNought_66 s45 ?_
    obtain ⟨s54, H55⟩ := H46
    refine Wq.iast d_M_layNought_67 rfl s54.1 s54.2 (fun m47 hm48 => ?_)
    have H49 := H55 m47 hm48
    obtain ⟨s52, H53⟩ := H49
    refine Wp.iinc 1 2 [(0, .inr (.inr 70)), (2, .inl (x2 + 1))] d_M_layNought_68 rfl s52 (by decide) rfl ?_
    refine Wp.goto 38 d_M_layNought_71 (by decide) ?_
    exact H53
theorem s_M_layNought_81 {l : Launch} {G : GT} {d : Nat} {P : MM → Prop} {m : MM} (x2 : Int)  (H : wfM m → inR x2 → ∃ (e1 : Nat) (P2 : Int → MM → Prop), e1 < d ∧ CI l G Y_M_lots e1 [.inr (.inr 70)] m P2 ∧ (∀ z7 m8, P2 z7 m8 → inR z7 → wfM m8 → ((x2 ≥ z7 → (P m8)) ∧ (¬ (x2 ≥ z7) → ((0 ≤ x2 ∧ x2 < (5 : Int)) ∧ ((0 ≤ x2 ∧ x2 < (5 : Int)) ∧ (∀ m19, m19 = up m8 95 x2 (m8 93 x2) → ((inR (x2 + 1)) ∧ (Wq l G false Y_M_layNought d (QV P) 81 [(0, .inr (.inr 70)), (2, .inl (x2 + 1))] [] m19))))))))) : Wq l G false Y_M_layNought d (QV P) 81 [(0, .inr (.inr 70)), (2, .inl x2)] [] m := by
  refine Wp.wf (fun hw _ hl hs => ?_)
  have H0 := H hw (hl _ (List.mem_of_getElem? (i := 1) rfl))
  refine Wp.iload_n 1 2 d_M_layNought_81 rfl rfl ?_
  refine Wp.aload_n 0 0 d_M_layNought_82 rfl rfl ?_
  obtain ⟨e1, P2, hd3, ho4, H5⟩ := H0
  refine Wq.VI (st := [.inl x2]) [] d_M_layNought_83 k_M_lots ml_M_338 rfl rfl rfl (fun h => by cases h) (Nat.le_of_ble_eq_true rfl) hd3 ho4 (fun z7 m8 hp9 hz10 hw11 => ?_)
  have H6 := H5 z7 m8 hp9 hz10 hw11
  obtain ⟨H13, H14⟩ := H6
  refine Wp.icmp_ge 107 d_M_layNought_86 (by decide) (fun c12 => ?_) (fun c12 => ?_)
  · have H15 := H13 c12
    exact Wq.vret d_M_layNought_107 rfl H15
  · have H16 := H14 c12
    refine Wp.aload_n 0 0 d_M_layNought_89 rfl rfl ?_
    refine Wp.getP 95 d_M_layNought_90 fl_M_88 rfl rfl rfl ?_
    refine Wp.iload_n 1 2 d_M_layNought_93 rfl rfl ?_
    refine Wp.aload_n 0 0 d_M_layNought_94 rfl rfl ?_
    refine Wp.getP 93 d_M_layNought_95 fl_M_82 rfl rfl rfl ?_
    refine Wp.iload_n 1 2 d_M_layNought_98 rfl rfl ?_
    obtain ⟨s17, H18⟩ := H16
    refine Wp.iald d_M_layNought_99 rfl (Or.inl rfl) s17.1 s17.2 ?_
    obtain ⟨s26, H27⟩ := H18
    refine Wq.iast d_M_layNought_100 rfl s26.1 s26.2 (fun m19 hm20 => ?_)
    have H21 := H27 m19 hm20
    obtain ⟨s24, H25⟩ := H21
    refine Wp.iinc 1 2 [(0, .inr (.inr 70)), (2, .inl (x2 + 1))] d_M_layNought_101 rfl s24 (by decide) rfl ?_
    refine Wp.goto 81 d_M_layNought_104 (by decide) ?_
    exact H25
theorem d_M_settleHeap_0 : decode Y_M_settleHeap.2.1 0 = .ok (.iconst 0, 1) := by decide +kernel
theorem d_M_settleHeap_1 : decode Y_M_settleHeap.2.1 1 = .ok (.istore_n 1, 1) := by decide +kernel
theorem d_M_settleHeap_2 : decode Y_M_settleHeap.2.1 2 = .ok (.iload_n 1, 1) := by decide +kernel
theorem d_M_settleHeap_3 : decode Y_M_settleHeap.2.1 3 = .ok (.iconst 5, 1) := by decide +kernel
theorem d_M_settleHeap_4 : decode Y_M_settleHeap.2.1 4 = .ok (.if_icmp .ge 16, 3) := by decide +kernel
theorem d_M_settleHeap_7 : decode Y_M_settleHeap.2.1 7 = .ok (.aload_n 0, 1) := by decide +kernel
theorem d_M_settleHeap_8 : decode Y_M_settleHeap.2.1 8 = .ok (.getfield 85, 3) := by decide +kernel
theorem d_M_settleHeap_11 : decode Y_M_settleHeap.2.1 11 = .ok (.iload_n 1, 1) := by decide +kernel
theorem d_M_settleHeap_12 : decode Y_M_settleHeap.2.1 12 = .ok (.iconst 0, 1) := by decide +kernel
theorem d_M_settleHeap_13 : decode Y_M_settleHeap.2.1 13 = .ok (.iastore, 1) := by decide +kernel
theorem d_M_settleHeap_14 : decode Y_M_settleHeap.2.1 14 = .ok (.iinc 1 1, 3) := by decide +kernel
theorem d_M_settleHeap_17 : decode Y_M_settleHeap.2.1 17 = .ok (.goto (-15), 3) := by decide +kernel
theorem d_M_settleHeap_20 : decode Y_M_settleHeap.2.1 20 = .ok (.aload_n 0, 1) := by decide +kernel
theorem d_M_settleHeap_21 : decode Y_M_settleHeap.2.1 21 = .ok (.iconst 0, 1) := by decide +kernel
theorem d_M_settleHeap_22 : decode Y_M_settleHeap.2.1 22 = .ok (.putfield 372, 3) := by decide +kernel
theorem d_M_settleHeap_25 : decode Y_M_settleHeap.2.1 25 = .ok (.iconst 1, 1) := by decide +kernel
theorem d_M_settleHeap_26 : decode Y_M_settleHeap.2.1 26 = .ok (.istore_n 1, 1) := by decide +kernel
theorem d_M_settleHeap_27 : decode Y_M_settleHeap.2.1 27 = .ok (.iload_n 1, 1) := by decide +kernel
theorem d_M_settleHeap_28 : decode Y_M_settleHeap.2.1 28 = .ok (.ifCond .eq 60, 3) := by decide +kernel
theorem d_M_settleHeap_31 : decode Y_M_settleHeap.2.1 31 = .ok (.iconst 0, 1) := by decide +kernel
theorem d_M_settleHeap_32 : decode Y_M_settleHeap.2.1 32 = .ok (.istore_n 1, 1) := by decide +kernel
theorem d_M_settleHeap_33 : decode Y_M_settleHeap.2.1 33 = .ok (.iconst 0, 1) := by decide +kernel
theorem d_M_settleHeap_34 : decode Y_M_settleHeap.2.1 34 = .ok (.istore_n 2, 1) := by decide +kernel
theorem d_M_settleHeap_35 : decode Y_M_settleHeap.2.1 35 = .ok (.iload_n 2, 1) := by decide +kernel
theorem d_M_settleHeap_36 : decode Y_M_settleHeap.2.1 36 = .ok (.aload_n 0, 1) := by decide +kernel
theorem d_M_settleHeap_37 : decode Y_M_settleHeap.2.1 37 = .ok (.invokevirtual 338, 3) := by decide +kernel
theorem d_M_settleHeap_40 : decode Y_M_settleHeap.2.1 40 = .ok (.if_icmp .ge 45, 3) := by decide +kernel
theorem d_M_settleHeap_43 : decode Y_M_settleHeap.2.1 43 = .ok (.aload_n 0, 1) := by decide +kernel
theorem d_M_settleHeap_44 : decode Y_M_settleHeap.2.1 44 = .ok (.getfield 82, 3) := by decide +kernel
theorem d_M_settleHeap_47 : decode Y_M_settleHeap.2.1 47 = .ok (.iload_n 2, 1) := by decide +kernel
theorem d_M_settleHeap_48 : decode Y_M_settleHeap.2.1 48 = .ok (.iaload, 1) := by decide +kernel
theorem d_M_settleHeap_49 : decode Y_M_settleHeap.2.1 49 = .ok (.aload_n 0, 1) := by decide +kernel
theorem d_M_settleHeap_50 : decode Y_M_settleHeap.2.1 50 = .ok (.iload_n 2, 1) := by decide +kernel
theorem d_M_settleHeap_51 : decode Y_M_settleHeap.2.1 51 = .ok (.invokevirtual 328, 3) := by decide +kernel
theorem d_M_settleHeap_54 : decode Y_M_settleHeap.2.1 54 = .ok (.if_icmp .ge 6, 3) := by decide +kernel
theorem d_M_settleHeap_57 : decode Y_M_settleHeap.2.1 57 = .ok (.goto 22, 3) := by decide +kernel
theorem d_M_settleHeap_60 : decode Y_M_settleHeap.2.1 60 = .ok (.aload_n 0, 1) := by decide +kernel
theorem d_M_settleHeap_61 : decode Y_M_settleHeap.2.1 61 = .ok (.iload_n 2, 1) := by decide +kernel
theorem d_M_settleHeap_62 : decode Y_M_settleHeap.2.1 62 = .ok (.aload_n 0, 1) := by decide +kernel
theorem d_M_settleHeap_63 : decode Y_M_settleHeap.2.1 63 = .ok (.getfield 82, 3) := by decide +kernel
theorem d_M_settleHeap_66 : decode Y_M_settleHeap.2.1 66 = .ok (.iload_n 2, 1) := by decide +kernel
theorem d_M_settleHeap_67 : decode Y_M_settleHeap.2.1 67 = .ok (.iaload, 1) := by decide +kernel
theorem d_M_settleHeap_68 : decode Y_M_settleHeap.2.1 68 = .ok (.aload_n 0, 1) := by decide +kernel
theorem d_M_settleHeap_69 : decode Y_M_settleHeap.2.1 69 = .ok (.iload_n 2, 1) := by decide +kernel
theorem d_M_settleHeap_70 : decode Y_M_settleHeap.2.1 70 = .ok (.invokevirtual 328, 3) := by decide +kernel
theorem d_M_settleHeap_73 : decode Y_M_settleHeap.2.1 73 = .ok (.idiv, 1) := by decide +kernel
theorem d_M_settleHeap_74 : decode Y_M_settleHeap.2.1 74 = .ok (.invokevirtual 375, 3) := by decide +kernel
theorem d_M_settleHeap_77 : decode Y_M_settleHeap.2.1 77 = .ok (.iconst 1, 1) := by decide +kernel
theorem d_M_settleHeap_78 : decode Y_M_settleHeap.2.1 78 = .ok (.istore_n 1, 1) := by decide +kernel
theorem d_M_settleHeap_79 : decode Y_M_settleHeap.2.1 79 = .ok (.iinc 2 1, 3) := by decide +kernel
theorem d_M_settleHeap_82 : decode Y_M_settleHeap.2.1 82 = .ok (.goto (-47), 3) := by decide +kernel
theorem d_M_settleHeap_85 : decode Y_M_settleHeap.2.1 85 = .ok (.goto (-58), 3) := by decide +kernel
theorem d_M_settleHeap_88 : decode Y_M_settleHeap.2.1 88 = .ok (.iconst 0, 1) := by decide +kernel
theorem d_M_settleHeap_89 : decode Y_M_settleHeap.2.1 89 = .ok (.istore_n 2, 1) := by decide +kernel
theorem d_M_settleHeap_90 : decode Y_M_settleHeap.2.1 90 = .ok (.iconst 0, 1) := by decide +kernel
theorem d_M_settleHeap_91 : decode Y_M_settleHeap.2.1 91 = .ok (.istore_n 3, 1) := by decide +kernel
theorem d_M_settleHeap_92 : decode Y_M_settleHeap.2.1 92 = .ok (.iload_n 3, 1) := by decide +kernel
theorem d_M_settleHeap_93 : decode Y_M_settleHeap.2.1 93 = .ok (.aload_n 0, 1) := by decide +kernel
theorem d_M_settleHeap_94 : decode Y_M_settleHeap.2.1 94 = .ok (.invokevirtual 338, 3) := by decide +kernel
theorem d_M_settleHeap_97 : decode Y_M_settleHeap.2.1 97 = .ok (.if_icmp .ge 18, 3) := by decide +kernel
theorem d_M_settleHeap_100 : decode Y_M_settleHeap.2.1 100 = .ok (.iload_n 2, 1) := by decide +kernel
theorem d_M_settleHeap_101 : decode Y_M_settleHeap.2.1 101 = .ok (.aload_n 0, 1) := by decide +kernel
theorem d_M_settleHeap_102 : decode Y_M_settleHeap.2.1 102 = .ok (.getfield 85, 3) := by decide +kernel
theorem d_M_settleHeap_105 : decode Y_M_settleHeap.2.1 105 = .ok (.iload_n 3, 1) := by decide +kernel
theorem d_M_settleHeap_106 : decode Y_M_settleHeap.2.1 106 = .ok (.iaload, 1) := by decide +kernel
theorem d_M_settleHeap_107 : decode Y_M_settleHeap.2.1 107 = .ok (.iadd, 1) := by decide +kernel
theorem d_M_settleHeap_108 : decode Y_M_settleHeap.2.1 108 = .ok (.istore_n 2, 1) := by decide +kernel
theorem d_M_settleHeap_109 : decode Y_M_settleHeap.2.1 109 = .ok (.iinc 3 1, 3) := by decide +kernel
theorem d_M_settleHeap_112 : decode Y_M_settleHeap.2.1 112 = .ok (.goto (-20), 3) := by decide +kernel
theorem d_M_settleHeap_115 : decode Y_M_settleHeap.2.1 115 = .ok (.iload_n 2, 1) := by decide +kernel
theorem d_M_settleHeap_116 : decode Y_M_settleHeap.2.1 116 = .ok (.ireturn, 1) := by decide +kernel
theorem e_M_settleHeap {l : Launch} {G : GT} {d : Nat} {P : Int → MM → Prop} {m : MM}   (H : wfM m → Wq l G false Y_M_settleHeap d (QI P) 2 [(0, .inr (.inr 70)), (1, .inl 0)] [] m) : CI l G Y_M_settleHeap d [.inr (.inr 70)] m P := by
  refine CI.of [(0, .inr (.inr 70))] k_M_settleHeap.1 (Nat.le_of_ble_eq_true rfl) rfl (Wp.wf (fun hw _ hl hs => ?_))
  have H0 := H hw
  refine Wp.iconst d_M_settleHeap_0 (by decide) ?_
  refine Wp.istore_n 1 [(0, .inr (.inr 70)), (1, .inl 0)] d_M_settleHeap_1 rfl (by decide) rfl ?_
  exact H0
theorem s_M_settleHeap_2 {l : Launch} {G : GT} {d : Nat} {P : Int → MM → Prop} {m : MM} (x1 : Int)  (H : wfM m → inR x1 → (x1 ≥ 5 → (∀ m6, m6 = up m 70 41 0 → (Wq l G false Y_M_settleHeap d (QI P) 27 [(0, .inr (.inr 70)), (1, .inl 1)] [] m6))) ∧ (¬ (x1 ≥ 5) → ((0 ≤ x1 ∧ x1 < (5 : Int)) ∧ (∀ m9, m9 = up m 94 x1 0 → ((inR (x1 + 1)) ∧ (Wq l G false Y_M_settleHeap d (QI P) 2 [(0, .inr (.inr 70)), (1, .inl (x1 + 1))] [] m9)))))) : Wq l G false Y_M_settleHeap d (QI P) 2 [(0, .inr (.inr 70)), (1, .inl x1)] [] m := by
  refine Wp.wf (fun hw _ hl hs => ?_)
  have H0 := H hw (hl _ (List.mem_of_getElem? (i := 1) rfl))
  refine Wp.iload_n 1 1 d_M_settleHeap_2 rfl rfl ?_
  refine Wp.iconst d_M_settleHeap_3 (by decide) ?_
  obtain ⟨H2, H3⟩ := H0
  refine Wp.icmp_ge 20 d_M_settleHeap_4 (by decide) (fun c1 => ?_) (fun c1 => ?_)
  · have H4 := H2 c1
    refine Wp.aload_n 0 0 d_M_settleHeap_20 rfl rfl ?_
    refine Wp.iconst d_M_settleHeap_21 (by decide) ?_
    refine Wq.putI 41 rfl d_M_settleHeap_22 fl_M_372 (fun _ _ _ h => by cases h; rfl) rfl rfl rfl (fun m6 hm7 => ?_)
    have H8 := H4 m6 hm7
    refine Wp.iconst d_M_settleHeap_25 (by decide) ?_
    refine Wp.istore_n 1 [(0, .inr (.inr 70)), (1, .inl 1)] d_M_settleHeap_26 rfl (by decide) rfl ?_
    exact H8
  · have H5 := H3 c1
    refine Wp.aload_n 0 0 d_M_settleHeap_7 rfl rfl ?_
    refine Wp.getP 94 d_M_settleHeap_8 fl_M_85 rfl rfl rfl ?_
    refine Wp.iload_n 1 1 d_M_settleHeap_11 rfl rfl ?_
    refine Wp.iconst d_M_settleHeap_12 (by decide) ?_
    obtain ⟨s16, H17⟩ := H5
    refine Wq.iast d_M_settleHeap_13 rfl s16.1 s16.2 (fun m9 hm10 => ?_)
    have H11 := H17 m9 hm10
    obtain ⟨s14, H15⟩ := H11
    refine Wp.iinc 1 1 [(0, .inr (.inr 70)), (1, .inl (x1 + 1))] d_M_settleHeap_14 rfl s14 (by decide) rfl ?_
    refine Wp.goto 2 d_M_settleHeap_17 (by decide) ?_
    exact H15
theorem s_M_settleHeap_27 {l : Launch} {G : GT} {d : Nat} {P : Int → MM → Prop} {m : MM} (x1 : Int)  (H : wfM m → inR x1 → (x1 = 0 → (Wq l G false Y_M_settleHeap d (QI P) 92 [(0, .inr (.inr 70)), (2, .inl 0), (3, .inl 0)] [] m)) ∧ (¬ (x1 = 0) → (Wq l G false Y_M_settleHeap d (QI P) 35 [(0, .inr (.inr 70)), (1, .inl 0), (2, .inl 0)] [] m))) : Wq l G false Y_M_settleHeap d (QI P) 27 [(0, .inr (.inr 70)), (1, .inl x1)] [] m := by
  refine Wp.wf (fun hw _ hl hs => ?_)
  have H0 := H hw (hl _ (List.mem_of_getElem? (i := 1) rfl))
  refine Wp.iload_n 1 1 d_M_settleHeap_27 rfl rfl ?_
  obtain ⟨H2, H3⟩ := H0
  refine Wp.if_eq 88 d_M_settleHeap_28 (by decide) (fun c1 => ?_) (fun c1 => ?_)
  · have H4 := H2 c1
    refine Wp.iconst d_M_settleHeap_88 (by decide) ?_
    refine Wp.istore_n 2 [(0, .inr (.inr 70)), (1, .inl x1), (2, .inl 0)] d_M_settleHeap_89 rfl (by decide) rfl ?_
    refine Wp.iconst d_M_settleHeap_90 (by decide) ?_
    refine Wp.istore_n 3 [(0, .inr (.inr 70)), (1, .inl x1), (2, .inl 0), (3, .inl 0)] d_M_settleHeap_91 rfl (by decide) rfl ?_
    refine Wp.pick [0, 2, 3] [(0, .inr (.inr 70)), (2, .inl 0), (3, .inl 0)] rfl ?_
    exact H4
  · have H5 := H3 c1
    refine Wp.iconst d_M_settleHeap_31 (by decide) ?_
    refine Wp.istore_n 1 [(0, .inr (.inr 70)), (1, .inl 0)] d_M_settleHeap_32 rfl (by decide) rfl ?_
    refine Wp.iconst d_M_settleHeap_33 (by decide) ?_
    refine Wp.istore_n 2 [(0, .inr (.inr 70)), (1, .inl 0), (2, .inl 0)] d_M_settleHeap_34 rfl (by decide) rfl ?_
    exact H5
theorem s_M_settleHeap_35 {l : Launch} {G : GT} {d : Nat} {P : Int → MM → Prop} {m : MM} (x1 : Int) (x2 : Int)  (H : wfM m → inR x1 → inR x2 → ∃ (e1 : Nat) (P2 : Int → MM → Prop), e1 < d ∧ CI l G Y_M_lots e1 [.inr (.inr 70)] m P2 ∧ (∀ z7 m8, P2 z7 m8 → inR z7 → wfM m8 → ((x2 ≥ z7 → (Wq l G false Y_M_settleHeap d (QI P) 27 [(0, .inr (.inr 70)), (1, .inl x1)] [] m8)) ∧ (¬ (x2 ≥ z7) → ((0 ≤ x2 ∧ x2 < (5 : Int)) ∧ (∃ (e19 : Nat) (P20 : Int → MM → Prop), e19 < d ∧ CI l G Y_M_brimOf e19 [.inr (.inr 70), .inl x2] m8 P20 ∧ (∀ z25 m26, P20 z25 m26 → inR z25 → wfM m26 → (((m8 93 x2) ≥ z25 → ((0 ≤ x2 ∧ x2 < (5 : Int)) ∧ (∃ (e37 : Nat) (P38 : Int → MM → Prop), e37 < d ∧ CI l G Y_M_brimOf e37 [.inr (.inr 70), .inl x2] m26 P38 ∧ (∀ z43 m44, P38 z43 m44 → inR z43 → wfM m44 → ((0 < z43) ∧ (∃ (e50 : Nat) (P51 : MM → Prop), e50 < d ∧ CV l G Y_M_toppleIn e50 [.inr (.inr 70), .inl x2, .inl (Int.tdiv (m26 93 x2) z43)] m44 P51 ∧ (∀ m57, P51 m57 → wfM m57 → ((inR (x2 + 1)) ∧ (Wq l G false Y_M_settleHeap d (QI P) 35 [(0, .inr (.inr 70)), (1, .inl 1), (2, .inl (x2 + 1))] [] m57))))))))) ∧ (¬ ((m8 93 x2) ≥ z25) → ((inR (x2 + 1)) ∧ (Wq l G false Y_M_settleHeap d (QI P) 35 [(0, .inr (.inr 70)), (1, .inl x1), (2, .inl (x2 + 1))] [] m26))))))))))) : Wq l G false Y_M_settleHeap d (QI P) 35 [(0, .inr (.inr 70)), (1, .inl x1), (2, .inl x2)] [] m := by
  refine Wp.wf (fun hw _ hl hs => ?_)
  have H0 := H hw (hl _ (List.mem_of_getElem? (i := 1) rfl)) (hl _ (List.mem_of_getElem? (i := 2) rfl))
  refine Wp.iload_n 2 2 d_M_settleHeap_35 rfl rfl ?_
  refine Wp.aload_n 0 0 d_M_settleHeap_36 rfl rfl ?_
  obtain ⟨e1, P2, hd3, ho4, H5⟩ := H0
  refine Wq.VI (st := [.inl x2]) [] d_M_settleHeap_37 k_M_lots ml_M_338 rfl rfl rfl (fun h => by cases h) (Nat.le_of_ble_eq_true rfl) hd3 ho4 (fun z7 m8 hp9 hz10 hw11 => ?_)
  have H6 := H5 z7 m8 hp9 hz10 hw11
  obtain ⟨H13, H14⟩ := H6
  refine Wp.icmp_ge 85 d_M_settleHeap_40 (by decide) (fun c12 => ?_) (fun c12 => ?_)
  · have H15 := H13 c12
    refine Wp.goto 27 d_M_settleHeap_85 (by decide) ?_
    refine Wp.pick [0, 1] [(0, .inr (.inr 70)), (1, .inl x1)] rfl ?_
    exact H15
  · have H16 := H14 c12
    refine Wp.aload_n 0 0 d_M_settleHeap_43 rfl rfl ?_
    refine Wp.getP 93 d_M_settleHeap_44 fl_M_82 rfl rfl rfl ?_
    refine Wp.iload_n 2 2 d_M_settleHeap_47 rfl rfl ?_
    obtain ⟨s17, H18⟩ := H16
    refine Wp.iald d_M_settleHeap_48 rfl (Or.inl rfl) s17.1 s17.2 ?_
    refine Wp.aload_n 0 0 d_M_settleHeap_49 rfl rfl ?_
    refine Wp.iload_n 2 2 d_M_settleHeap_50 rfl rfl ?_
    obtain ⟨e19, P20, hd21, ho22, H23⟩ := H18
    refine Wq.VI (st := [.inl (m8 93 x2)]) [.inl x2] d_M_settleHeap_51 k_M_brimOf ml_M_328 rfl rfl rfl (fun h => by cases h) (Nat.le_of_ble_eq_true rfl) hd21 ho22 (fun z25 m26 hp27 hz28 hw29 => ?_)
    have H24 := H23 z25 m26 hp27 hz28 hw29
    obtain ⟨H31, H32⟩ := H24
    refine Wp.icmp_ge 60 d_M_settleHeap_54 (by decide) (fun c30 => ?_) (fun c30 => ?_)
    · have H33 := H31 c30
      refine Wp.aload_n 0 0 d_M_settleHeap_60 rfl rfl ?_
      refine Wp.iload_n 2 2 d_M_settleHeap_61 rfl rfl ?_
      refine Wp.aload_n 0 0 d_M_settleHeap_62 rfl rfl ?_
      refine Wp.getP 93 d_M_settleHeap_63 fl_M_82 rfl rfl rfl ?_
      refine Wp.iload_n 2 2 d_M_settleHeap_66 rfl rfl ?_
      obtain ⟨s35, H36⟩ := H33
      refine Wp.iald d_M_settleHeap_67 rfl (Or.inl rfl) s35.1 s35.2 ?_
      refine Wp.aload_n 0 0 d_M_settleHeap_68 rfl rfl ?_
      refine Wp.iload_n 2 2 d_M_settleHeap_69 rfl rfl ?_
      obtain ⟨e37, P38, hd39, ho40, H41⟩ := H36
      refine Wq.VI (st := [.inl (m26 93 x2), .inl x2, .inr (.inr 70)]) [.inl x2] d_M_settleHeap_70 k_M_brimOf ml_M_328 rfl rfl rfl (fun h => by cases h) (Nat.le_of_ble_eq_true rfl) hd39 ho40 (fun z43 m44 hp45 hz46 hw47 => ?_)
      have H42 := H41 z43 m44 hp45 hz46 hw47
      obtain ⟨s48, H49⟩ := H42
      refine Wq.idiv d_M_settleHeap_73 s48 ?_
      obtain ⟨e50, P51, hd52, ho53, H54⟩ := H49
      refine Wq.VV (st := []) [.inl x2, .inl (Int.tdiv (m26 93 x2) z43)] d_M_settleHeap_74 k_M_toppleIn ml_M_375 rfl rfl rfl (fun h => by cases h) (Nat.le_of_ble_eq_true rfl) hd52 ho53 (fun m57 hp58 hw60 => ?_)
      have H55 := H54 m57 hp58 hw60
      refine Wp.iconst d_M_settleHeap_77 (by decide) ?_
      refine Wp.istore_n 1 [(0, .inr (.inr 70)), (1, .inl 1), (2, .inl x2)] d_M_settleHeap_78 rfl (by decide) rfl ?_
      obtain ⟨s61, H62⟩ := H55
      refine Wp.iinc 2 2 [(0, .inr (.inr 70)), (1, .inl 1), (2, .inl (x2 + 1))] d_M_settleHeap_79 rfl s61 (by decide) rfl ?_
      refine Wp.goto 35 d_M_settleHeap_82 (by decide) ?_
      exact H62
    · have H34 := H32 c30
      refine Wp.goto 79 d_M_settleHeap_57 (by decide) ?_
      obtain ⟨s63, H64⟩ := H34
      refine Wp.iinc 2 2 [(0, .inr (.inr 70)), (1, .inl x1), (2, .inl (x2 + 1))] d_M_settleHeap_79 rfl s63 (by decide) rfl ?_
      refine Wp.goto 35 d_M_settleHeap_82 (by decide) ?_
      exact H64
theorem s_M_settleHeap_92 {l : Launch} {G : GT} {d : Nat} {P : Int → MM → Prop} {m : MM} (x2 : Int) (x3 : Int)  (H : wfM m → inR x2 → inR x3 → ∃ (e1 : Nat) (P2 : Int → MM → Prop), e1 < d ∧ CI l G Y_M_lots e1 [.inr (.inr 70)] m P2 ∧ (∀ z7 m8, P2 z7 m8 → inR z7 → wfM m8 → ((x3 ≥ z7 → (P x2 m8)) ∧ (¬ (x3 ≥ z7) → ((0 ≤ x3 ∧ x3 < (5 : Int)) ∧ ((inR (x2 + (m8 94 x3))) ∧ ((inR (x3 + 1)) ∧ (Wq l G false Y_M_settleHeap d (QI P) 92 [(0, .inr (.inr 70)), (2, .inl (x2 + (m8 94 x3))), (3, .inl (x3 + 1))] [] m8)))))))) : Wq l G false Y_M_settleHeap d (QI P) 92 [(0, .inr (.inr 70)), (2, .inl x2), (3, .inl x3)] [] m := by
  refine Wp.wf (fun hw _ hl hs => ?_)
  have H0 := H hw (hl _ (List.mem_of_getElem? (i := 1) rfl)) (hl _ (List.mem_of_getElem? (i := 2) rfl))
  refine Wp.iload_n 2 3 d_M_settleHeap_92 rfl rfl ?_
  refine Wp.aload_n 0 0 d_M_settleHeap_93 rfl rfl ?_
  obtain ⟨e1, P2, hd3, ho4, H5⟩ := H0
  refine Wq.VI (st := [.inl x3]) [] d_M_settleHeap_94 k_M_lots ml_M_338 rfl rfl rfl (fun h => by cases h) (Nat.le_of_ble_eq_true rfl) hd3 ho4 (fun z7 m8 hp9 hz10 hw11 => ?_)
  have H6 := H5 z7 m8 hp9 hz10 hw11
  obtain ⟨H13, H14⟩ := H6
  refine Wp.icmp_ge 115 d_M_settleHeap_97 (by decide) (fun c12 => ?_) (fun c12 => ?_)
  · have H15 := H13 c12
    refine Wp.iload_n 1 2 d_M_settleHeap_115 rfl rfl ?_
    exact Wq.iret d_M_settleHeap_116 rfl H15
  · have H16 := H14 c12
    refine Wp.iload_n 1 2 d_M_settleHeap_100 rfl rfl ?_
    refine Wp.aload_n 0 0 d_M_settleHeap_101 rfl rfl ?_
    refine Wp.getP 94 d_M_settleHeap_102 fl_M_85 rfl rfl rfl ?_
    refine Wp.iload_n 2 3 d_M_settleHeap_105 rfl rfl ?_
    obtain ⟨s17, H18⟩ := H16
    refine Wp.iald d_M_settleHeap_106 rfl (Or.inl rfl) s17.1 s17.2 ?_
    obtain ⟨s19, H20⟩ := H18
    refine Wp.iadd d_M_settleHeap_107 s19 ?_
    refine Wp.istore_n 2 [(0, .inr (.inr 70)), (2, .inl (x2 + (m8 94 x3))), (3, .inl x3)] d_M_settleHeap_108 rfl (by decide) rfl ?_
    obtain ⟨s21, H22⟩ := H20
    refine Wp.iinc 2 3 [(0, .inr (.inr 70)), (2, .inl (x2 + (m8 94 x3))), (3, .inl (x3 + 1))] d_M_settleHeap_109 rfl s21 (by decide) rfl ?_
    refine Wp.goto 92 d_M_settleHeap_112 (by decide) ?_
    exact H22
theorem d_M_toppleIn_0 : decode Y_M_toppleIn.2.1 0 = .ok (.aload_n 0, 1) := by decide +kernel
theorem d_M_toppleIn_1 : decode Y_M_toppleIn.2.1 1 = .ok (.getfield 82, 3) := by decide +kernel
theorem d_M_toppleIn_4 : decode Y_M_toppleIn.2.1 4 = .ok (.iload_n 1, 1) := by decide +kernel
theorem d_M_toppleIn_5 : decode Y_M_toppleIn.2.1 5 = .ok (.dup2, 1) := by decide +kernel
theorem d_M_toppleIn_6 : decode Y_M_toppleIn.2.1 6 = .ok (.iaload, 1) := by decide +kernel
theorem d_M_toppleIn_7 : decode Y_M_toppleIn.2.1 7 = .ok (.iload_n 2, 1) := by decide +kernel
theorem d_M_toppleIn_8 : decode Y_M_toppleIn.2.1 8 = .ok (.aload_n 0, 1) := by decide +kernel
theorem d_M_toppleIn_9 : decode Y_M_toppleIn.2.1 9 = .ok (.iload_n 1, 1) := by decide +kernel
theorem d_M_toppleIn_10 : decode Y_M_toppleIn.2.1 10 = .ok (.invokevirtual 328, 3) := by decide +kernel
theorem d_M_toppleIn_13 : decode Y_M_toppleIn.2.1 13 = .ok (.imul, 1) := by decide +kernel
theorem d_M_toppleIn_14 : decode Y_M_toppleIn.2.1 14 = .ok (.isub, 1) := by decide +kernel
theorem d_M_toppleIn_15 : decode Y_M_toppleIn.2.1 15 = .ok (.iastore, 1) := by decide +kernel
theorem d_M_toppleIn_16 : decode Y_M_toppleIn.2.1 16 = .ok (.iconst 0, 1) := by decide +kernel
theorem d_M_toppleIn_17 : decode Y_M_toppleIn.2.1 17 = .ok (.istore_n 3, 1) := by decide +kernel
theorem d_M_toppleIn_18 : decode Y_M_toppleIn.2.1 18 = .ok (.iload_n 3, 1) := by decide +kernel
theorem d_M_toppleIn_19 : decode Y_M_toppleIn.2.1 19 = .ok (.aload_n 0, 1) := by decide +kernel
theorem d_M_toppleIn_20 : decode Y_M_toppleIn.2.1 20 = .ok (.invokevirtual 338, 3) := by decide +kernel
theorem d_M_toppleIn_23 : decode Y_M_toppleIn.2.1 23 = .ok (.if_icmp .ge 26, 3) := by decide +kernel
theorem d_M_toppleIn_26 : decode Y_M_toppleIn.2.1 26 = .ok (.aload_n 0, 1) := by decide +kernel
theorem d_M_toppleIn_27 : decode Y_M_toppleIn.2.1 27 = .ok (.getfield 82, 3) := by decide +kernel
theorem d_M_toppleIn_30 : decode Y_M_toppleIn.2.1 30 = .ok (.iload_n 3, 1) := by decide +kernel
theorem d_M_toppleIn_31 : decode Y_M_toppleIn.2.1 31 = .ok (.dup2, 1) := by decide +kernel
theorem d_M_toppleIn_32 : decode Y_M_toppleIn.2.1 32 = .ok (.iaload, 1) := by decide +kernel
theorem d_M_toppleIn_33 : decode Y_M_toppleIn.2.1 33 = .ok (.iload_n 2, 1) := by decide +kernel
theorem d_M_toppleIn_34 : decode Y_M_toppleIn.2.1 34 = .ok (.aload_n 0, 1) := by decide +kernel
theorem d_M_toppleIn_35 : decode Y_M_toppleIn.2.1 35 = .ok (.iload_n 1, 1) := by decide +kernel
theorem d_M_toppleIn_36 : decode Y_M_toppleIn.2.1 36 = .ok (.iload_n 3, 1) := by decide +kernel
theorem d_M_toppleIn_37 : decode Y_M_toppleIn.2.1 37 = .ok (.invokevirtual 348, 3) := by decide +kernel
theorem d_M_toppleIn_40 : decode Y_M_toppleIn.2.1 40 = .ok (.imul, 1) := by decide +kernel
theorem d_M_toppleIn_41 : decode Y_M_toppleIn.2.1 41 = .ok (.iadd, 1) := by decide +kernel
theorem d_M_toppleIn_42 : decode Y_M_toppleIn.2.1 42 = .ok (.iastore, 1) := by decide +kernel
theorem d_M_toppleIn_43 : decode Y_M_toppleIn.2.1 43 = .ok (.iinc 3 1, 3) := by decide +kernel
theorem d_M_toppleIn_46 : decode Y_M_toppleIn.2.1 46 = .ok (.goto (-28), 3) := by decide +kernel
theorem d_M_toppleIn_49 : decode Y_M_toppleIn.2.1 49 = .ok (.aload_n 0, 1) := by decide +kernel
theorem d_M_toppleIn_50 : decode Y_M_toppleIn.2.1 50 = .ok (.dup, 1) := by decide +kernel
theorem d_M_toppleIn_51 : decode Y_M_toppleIn.2.1 51 = .ok (.getfield 372, 3) := by decide +kernel
theorem d_M_toppleIn_54 : decode Y_M_toppleIn.2.1 54 = .ok (.iload_n 2, 1) := by decide +kernel
theorem d_M_toppleIn_55 : decode Y_M_toppleIn.2.1 55 = .ok (.aload_n 0, 1) := by decide +kernel
theorem d_M_toppleIn_56 : decode Y_M_toppleIn.2.1 56 = .ok (.iload_n 1, 1) := by decide +kernel
theorem d_M_toppleIn_57 : decode Y_M_toppleIn.2.1 57 = .ok (.invokevirtual 345, 3) := by decide +kernel
theorem d_M_toppleIn_60 : decode Y_M_toppleIn.2.1 60 = .ok (.imul, 1) := by decide +kernel
theorem d_M_toppleIn_61 : decode Y_M_toppleIn.2.1 61 = .ok (.iadd, 1) := by decide +kernel
theorem d_M_toppleIn_62 : decode Y_M_toppleIn.2.1 62 = .ok (.putfield 372, 3) := by decide +kernel
theorem d_M_toppleIn_65 : decode Y_M_toppleIn.2.1 65 = .ok (.aload_n 0, 1) := by decide +kernel
theorem d_M_toppleIn_66 : decode Y_M_toppleIn.2.1 66 = .ok (.getfield 85, 3) := by decide +kernel
theorem d_M_toppleIn_69 : decode Y_M_toppleIn.2.1 69 = .ok (.iload_n 1, 1) := by decide +kernel
theorem d_M_toppleIn_70 : decode Y_M_toppleIn.2.1 70 = .ok (.dup2, 1) := by decide +kernel
theorem d_M_toppleIn_71 : decode Y_M_toppleIn.2.1 71 = .ok (.iaload, 1) := by decide +kernel
theorem d_M_toppleIn_72 : decode Y_M_toppleIn.2.1 72 = .ok (.iload_n 2, 1) := by decide +kernel
theorem d_M_toppleIn_73 : decode Y_M_toppleIn.2.1 73 = .ok (.iadd, 1) := by decide +kernel
theorem d_M_toppleIn_74 : decode Y_M_toppleIn.2.1 74 = .ok (.iastore, 1) := by decide +kernel
theorem d_M_toppleIn_75 : decode Y_M_toppleIn.2.1 75 = .ok (.return_, 1) := by decide +kernel
theorem e_M_toppleIn {l : Launch} {G : GT} {d : Nat} {P : MM → Prop} {m : MM} (x1 : Int) (x2 : Int)  (H : wfM m → inR x1 → inR x2 → (0 ≤ x1 ∧ x1 < (5 : Int)) ∧ (∃ (e3 : Nat) (P4 : Int → MM → Prop), e3 < d ∧ CI l G Y_M_brimOf e3 [.inr (.inr 70), .inl x1] m P4 ∧ (∀ z9 m10, P4 z9 m10 → inR z9 → wfM m10 → ((inR (x2 * z9)) ∧ ((inR ((m 93 x1) - (x2 * z9))) ∧ ((0 ≤ x1 ∧ x1 < (5 : Int)) ∧ (∀ m18, m18 = up m10 93 x1 ((m 93 x1) - (x2 * z9)) → (Wq l G false Y_M_toppleIn d (QV P) 18 [(0, .inr (.inr 70)), (1, .inl x1), (2, .inl x2), (3, .inl 0)] [] m18)))))))) : CV l G Y_M_toppleIn d [.inr (.inr 70), .inl x1, .inl x2] m P := by
  refine CV.of [(0, .inr (.inr 70)), (1, .inl x1), (2, .inl x2)] k_M_toppleIn.1 (Nat.le_of_ble_eq_true rfl) rfl (Wp.wf (fun hw _ hl hs => ?_))
  have H0 := H hw (hl _ (List.mem_of_getElem? (i := 1) rfl)) (hl _ (List.mem_of_getElem? (i := 2) rfl))
  refine Wp.aload_n 0 0 d_M_toppleIn_0 rfl rfl ?_
  refine Wp.getP 93 d_M_toppleIn_1 fl_M_82 rfl rfl rfl ?_
  refine Wp.iload_n 1 1 d_M_toppleIn_4 rfl rfl ?_
  refine Wp.dup2 d_M_toppleIn_5 rfl rfl ?_
  obtain ⟨s1, H2⟩ := H0
  refine Wp.iald d_M_toppleIn_6 rfl (Or.inl rfl) s1.1 s1.2 ?_
  refine Wp.iload_n 2 2 d_M_toppleIn_7 rfl rfl ?_
  refine Wp.aload_n 0 0 d_M_toppleIn_8 rfl rfl ?_
  refine Wp.iload_n 1 1 d_M_toppleIn_9 rfl rfl ?_
  obtain ⟨e3, P4, hd5, ho6, H7⟩ := H2
  refine Wq.VI (st := [.inl x2, .inl (m 93 x1), .inl x1, .inr (.inr 93)]) [.inl x1] d_M_toppleIn_10 k_M_brimOf ml_M_328 rfl rfl rfl (fun h => by cases h) (Nat.le_of_ble_eq_true rfl) hd5 ho6 (fun z9 m10 hp11 hz12 hw13 => ?_)
  have H8 := H7 z9 m10 hp11 hz12 hw13
  obtain ⟨s14, H15⟩ := H8
  refine Wp.imul d_M_toppleIn_13 s14 ?_
  obtain ⟨s16, H17⟩ := H15
  refine Wp.isub d_M_toppleIn_14 s16 ?_
  obtain ⟨s23, H24⟩ := H17
  refine Wq.iast d_M_toppleIn_15 rfl s23.1 s23.2 (fun m18 hm19 => ?_)
  have H20 := H24 m18 hm19
  refine Wp.iconst d_M_toppleIn_16 (by decide) ?_
  refine Wp.istore_n 3 [(0, .inr (.inr 70)), (1, .inl x1), (2, .inl x2), (3, .inl 0)] d_M_toppleIn_17 rfl (by decide) rfl ?_
  exact H20
theorem s_M_toppleIn_18 {l : Launch} {G : GT} {d : Nat} {P : MM → Prop} {m : MM} (x1 : Int) (x2 : Int) (x3 : Int)  (H : wfM m → inR x1 → inR x2 → inR x3 → ∃ (e1 : Nat) (P2 : Int → MM → Prop), e1 < d ∧ CI l G Y_M_lots e1 [.inr (.inr 70)] m P2 ∧ (∀ z7 m8, P2 z7 m8 → inR z7 → wfM m8 → ((x3 ≥ z7 → (∃ (e17 : Nat) (P18 : Int → MM → Prop), e17 < d ∧ CI l G Y_M_drainOf e17 [.inr (.inr 70), .inl x1] m8 P18 ∧ (∀ z23 m24, P18 z23 m24 → inR z23 → wfM m24 → ((inR (x2 * z23)) ∧ ((inR ((m8 70 41) + (x2 * z23))) ∧ (∀ m32, m32 = up m24 70 41 ((m8 70 41) + (x2 * z23)) → ((0 ≤ x1 ∧ x1 < (5 : Int)) ∧ ((inR ((m32 94 x1) + x2)) ∧ ((0 ≤ x1 ∧ x1 < (5 : Int)) ∧ (∀ m39, m39 = up m32 94 x1 ((m32 94 x1) + x2) → (P m39))))))))))) ∧ (¬ (x3 ≥ z7) → ((0 ≤ x3 ∧ x3 < (5 : Int)) ∧ (∃ (e48 : Nat) (P49 : Int → MM → Prop), e48 < d ∧ CI l G Y_M_wideOf e48 [.inr (.inr 70), .inl x1, .inl x3] m8 P49 ∧ (∀ z54 m55, P49 z54 m55 → inR z54 → wfM m55 → ((inR (x2 * z54)) ∧ ((inR ((m8 93 x3) + (x2 * z54))) ∧ ((0 ≤ x3 ∧ x3 < (5 : Int)) ∧ (∀ m63, m63 = up m55 93 x3 ((m8 93 x3) + (x2 * z54)) → ((inR (x3 + 1)) ∧ (Wq l G false Y_M_toppleIn d (QV P) 18 [(0, .inr (.inr 70)), (1, .inl x1), (2, .inl x2), (3, .inl (x3 + 1))] [] m63))))))))))))) : Wq l G false Y_M_toppleIn d (QV P) 18 [(0, .inr (.inr 70)), (1, .inl x1), (2, .inl x2), (3, .inl x3)] [] m := by
  refine Wp.wf (fun hw _ hl hs => ?_)
  have H0 := H hw (hl _ (List.mem_of_getElem? (i := 1) rfl)) (hl _ (List.mem_of_getElem? (i := 2) rfl)) (hl _ (List.mem_of_getElem? (i := 3) rfl))
  refine Wp.iload_n 3 3 d_M_toppleIn_18 rfl rfl ?_
  refine Wp.aload_n 0 0 d_M_toppleIn_19 rfl rfl ?_
  obtain ⟨e1, P2, hd3, ho4, H5⟩ := H0
  refine Wq.VI (st := [.inl x3]) [] d_M_toppleIn_20 k_M_lots ml_M_338 rfl rfl rfl (fun h => by cases h) (Nat.le_of_ble_eq_true rfl) hd3 ho4 (fun z7 m8 hp9 hz10 hw11 => ?_)
  have H6 := H5 z7 m8 hp9 hz10 hw11
  obtain ⟨H13, H14⟩ := H6
  refine Wp.icmp_ge 49 d_M_toppleIn_23 (by decide) (fun c12 => ?_) (fun c12 => ?_)
  · have H15 := H13 c12
    refine Wp.aload_n 0 0 d_M_toppleIn_49 rfl rfl ?_
    refine Wp.dup d_M_toppleIn_50 rfl ?_
    refine Wq.getI 41 rfl d_M_toppleIn_51 fl_M_372 rfl (Or.inl rfl) ?_
    refine Wp.iload_n 2 2 d_M_toppleIn_54 rfl rfl ?_
    refine Wp.aload_n 0 0 d_M_toppleIn_55 rfl rfl ?_
    refine Wp.iload_n 1 1 d_M_toppleIn_56 rfl rfl ?_
    obtain ⟨e17, P18, hd19, ho20, H21⟩ := H15
    refine Wq.VI (st := [.inl x2, .inl (m8 70 41), .inr (.inr 70)]) [.inl x1] d_M_toppleIn_57 k_M_drainOf ml_M_345 rfl rfl rfl (fun h => by cases h) (Nat.le_of_ble_eq_true rfl) hd19 ho20 (fun z23 m24 hp25 hz26 hw27 => ?_)
    have H22 := H21 z23 m24 hp25 hz26 hw27
    obtain ⟨s28, H29⟩ := H22
    refine Wp.imul d_M_toppleIn_60 s28 ?_
    obtain ⟨s30, H31⟩ := H29
    refine Wp.iadd d_M_toppleIn_61 s30 ?_
    refine Wq.putI 41 rfl d_M_toppleIn_62 fl_M_372 (fun _ _ _ h => by cases h; rfl) rfl rfl rfl (fun m32 hm33 => ?_)
    have H34 := H31 m32 hm33
    refine Wp.aload_n 0 0 d_M_toppleIn_65 rfl rfl ?_
    refine Wp.getP 94 d_M_toppleIn_66 fl_M_85 rfl rfl rfl ?_
    refine Wp.iload_n 1 1 d_M_toppleIn_69 rfl rfl ?_
    refine Wp.dup2 d_M_toppleIn_70 rfl rfl ?_
    obtain ⟨s35, H36⟩ := H34
    refine Wp.iald d_M_toppleIn_71 rfl (Or.inl rfl) s35.1 s35.2 ?_
    refine Wp.iload_n 2 2 d_M_toppleIn_72 rfl rfl ?_
    obtain ⟨s37, H38⟩ := H36
    refine Wp.iadd d_M_toppleIn_73 s37 ?_
    obtain ⟨s44, H45⟩ := H38
    refine Wq.iast d_M_toppleIn_74 rfl s44.1 s44.2 (fun m39 hm40 => ?_)
    have H41 := H45 m39 hm40
    exact Wq.vret d_M_toppleIn_75 rfl H41
  · have H16 := H14 c12
    refine Wp.aload_n 0 0 d_M_toppleIn_26 rfl rfl ?_
    refine Wp.getP 93 d_M_toppleIn_27 fl_M_82 rfl rfl rfl ?_
    refine Wp.iload_n 3 3 d_M_toppleIn_30 rfl rfl ?_
    refine Wp.dup2 d_M_toppleIn_31 rfl rfl ?_
    obtain ⟨s46, H47⟩ := H16
    refine Wp.iald d_M_toppleIn_32 rfl (Or.inl rfl) s46.1 s46.2 ?_
    refine Wp.iload_n 2 2 d_M_toppleIn_33 rfl rfl ?_
    refine Wp.aload_n 0 0 d_M_toppleIn_34 rfl rfl ?_
    refine Wp.iload_n 1 1 d_M_toppleIn_35 rfl rfl ?_
    refine Wp.iload_n 3 3 d_M_toppleIn_36 rfl rfl ?_
    obtain ⟨e48, P49, hd50, ho51, H52⟩ := H47
    refine Wq.VI (st := [.inl x2, .inl (m8 93 x3), .inl x3, .inr (.inr 93)]) [.inl x1, .inl x3] d_M_toppleIn_37 k_M_wideOf ml_M_348 rfl rfl rfl (fun h => by cases h) (Nat.le_of_ble_eq_true rfl) hd50 ho51 (fun z54 m55 hp56 hz57 hw58 => ?_)
    have H53 := H52 z54 m55 hp56 hz57 hw58
    obtain ⟨s59, H60⟩ := H53
    refine Wp.imul d_M_toppleIn_40 s59 ?_
    obtain ⟨s61, H62⟩ := H60
    refine Wp.iadd d_M_toppleIn_41 s61 ?_
    obtain ⟨s70, H71⟩ := H62
    refine Wq.iast d_M_toppleIn_42 rfl s70.1 s70.2 (fun m63 hm64 => ?_)
    have H65 := H71 m63 hm64
    obtain ⟨s68, H69⟩ := H65
    refine Wp.iinc 3 3 [(0, .inr (.inr 70)), (1, .inl x1), (2, .inl x2), (3, .inl (x3 + 1))] d_M_toppleIn_43 rfl s68 (by decide) rfl ?_
    refine Wp.goto 18 d_M_toppleIn_46 (by decide) ?_
    exact H69
theorem d_M_table_0 : decode Y_M_table.2.1 0 = .ok (.aload_n 0, 1) := by decide +kernel
theorem d_M_table_1 : decode Y_M_table.2.1 1 = .ok (.iconst 0, 1) := by decide +kernel
theorem d_M_table_2 : decode Y_M_table.2.1 2 = .ok (.putfield 146, 3) := by decide +kernel
theorem d_M_table_5 : decode Y_M_table.2.1 5 = .ok (.aload_n 0, 1) := by decide +kernel
theorem d_M_table_6 : decode Y_M_table.2.1 6 = .ok (.iconst (-1), 1) := by decide +kernel
theorem d_M_table_7 : decode Y_M_table.2.1 7 = .ok (.putfield 16, 3) := by decide +kernel
theorem d_M_table_10 : decode Y_M_table.2.1 10 = .ok (.aload_n 0, 1) := by decide +kernel
theorem d_M_table_11 : decode Y_M_table.2.1 11 = .ok (.aload_n 0, 1) := by decide +kernel
theorem d_M_table_12 : decode Y_M_table.2.1 12 = .ok (.getfield 240, 3) := by decide +kernel
theorem d_M_table_15 : decode Y_M_table.2.1 15 = .ok (.putfield 143, 3) := by decide +kernel
theorem d_M_table_18 : decode Y_M_table.2.1 18 = .ok (.iconst 0, 1) := by decide +kernel
theorem d_M_table_19 : decode Y_M_table.2.1 19 = .ok (.istore_n 1, 1) := by decide +kernel
theorem d_M_table_20 : decode Y_M_table.2.1 20 = .ok (.iload_n 1, 1) := by decide +kernel
theorem d_M_table_21 : decode Y_M_table.2.1 21 = .ok (.aload_n 0, 1) := by decide +kernel
theorem d_M_table_22 : decode Y_M_table.2.1 22 = .ok (.getfield 143, 3) := by decide +kernel
theorem d_M_table_25 : decode Y_M_table.2.1 25 = .ok (.if_icmp .ge 21, 3) := by decide +kernel
theorem d_M_table_28 : decode Y_M_table.2.1 28 = .ok (.aload_n 0, 1) := by decide +kernel
theorem d_M_table_29 : decode Y_M_table.2.1 29 = .ok (.getfield 13, 3) := by decide +kernel
theorem d_M_table_32 : decode Y_M_table.2.1 32 = .ok (.iload_n 1, 1) := by decide +kernel
theorem d_M_table_33 : decode Y_M_table.2.1 33 = .ok (.aload_n 0, 1) := by decide +kernel
theorem d_M_table_34 : decode Y_M_table.2.1 34 = .ok (.getfield 7, 3) := by decide +kernel
theorem d_M_table_37 : decode Y_M_table.2.1 37 = .ok (.iload_n 1, 1) := by decide +kernel
theorem d_M_table_38 : decode Y_M_table.2.1 38 = .ok (.baload, 1) := by decide +kernel
theorem d_M_table_39 : decode Y_M_table.2.1 39 = .ok (.bastore, 1) := by decide +kernel
theorem d_M_table_40 : decode Y_M_table.2.1 40 = .ok (.iinc 1 1, 3) := by decide +kernel
theorem d_M_table_43 : decode Y_M_table.2.1 43 = .ok (.goto (-23), 3) := by decide +kernel
theorem d_M_table_46 : decode Y_M_table.2.1 46 = .ok (.aload_n 0, 1) := by decide +kernel
theorem d_M_table_47 : decode Y_M_table.2.1 47 = .ok (.iconst 0, 1) := by decide +kernel
theorem d_M_table_48 : decode Y_M_table.2.1 48 = .ok (.putfield 240, 3) := by decide +kernel
theorem d_M_table_51 : decode Y_M_table.2.1 51 = .ok (.aload_n 0, 1) := by decide +kernel
theorem d_M_table_52 : decode Y_M_table.2.1 52 = .ok (.iconst 0, 1) := by decide +kernel
theorem d_M_table_53 : decode Y_M_table.2.1 53 = .ok (.putfield 179, 3) := by decide +kernel
theorem d_M_table_56 : decode Y_M_table.2.1 56 = .ok (.aload_n 0, 1) := by decide +kernel
theorem d_M_table_57 : decode Y_M_table.2.1 57 = .ok (.iconst 1, 1) := by decide +kernel
theorem d_M_table_58 : decode Y_M_table.2.1 58 = .ok (.aload_n 0, 1) := by decide +kernel
theorem d_M_table_59 : decode Y_M_table.2.1 59 = .ok (.getfield 243, 3) := by decide +kernel
theorem d_M_table_62 : decode Y_M_table.2.1 62 = .ok (.isub, 1) := by decide +kernel
theorem d_M_table_63 : decode Y_M_table.2.1 63 = .ok (.putfield 234, 3) := by decide +kernel
theorem d_M_table_66 : decode Y_M_table.2.1 66 = .ok (.aload_n 0, 1) := by decide +kernel
theorem d_M_table_67 : decode Y_M_table.2.1 67 = .ok (.invokevirtual 137, 3) := by decide +kernel
theorem d_M_table_70 : decode Y_M_table.2.1 70 = .ok (.aload_n 0, 1) := by decide +kernel
theorem d_M_table_71 : decode Y_M_table.2.1 71 = .ok (.invokevirtual 221, 3) := by decide +kernel
theorem d_M_table_74 : decode Y_M_table.2.1 74 = .ok (.aload_n 0, 1) := by decide +kernel
theorem d_M_table_75 : decode Y_M_table.2.1 75 = .ok (.invokevirtual 217, 3) := by decide +kernel
theorem d_M_table_78 : decode Y_M_table.2.1 78 = .ok (.ifCond .eq 17, 3) := by decide +kernel
theorem d_M_table_81 : decode Y_M_table.2.1 81 = .ok (.aload_n 0, 1) := by decide +kernel
theorem d_M_table_82 : decode Y_M_table.2.1 82 = .ok (.getfield 189, 3) := by decide +kernel
theorem d_M_table_85 : decode Y_M_table.2.1 85 = .ok (.ifCond .eq 10, 3) := by decide +kernel
theorem d_M_table_88 : decode Y_M_table.2.1 88 = .ok (.aload_n 0, 1) := by decide +kernel
theorem d_M_table_89 : decode Y_M_table.2.1 89 = .ok (.invokevirtual 246, 3) := by decide +kernel
theorem d_M_table_92 : decode Y_M_table.2.1 92 = .ok (.goto (-18), 3) := by decide +kernel
theorem d_M_table_95 : decode Y_M_table.2.1 95 = .ok (.aload_n 0, 1) := by decide +kernel
theorem d_M_table_96 : decode Y_M_table.2.1 96 = .ok (.invokevirtual 217, 3) := by decide +kernel
theorem d_M_table_99 : decode Y_M_table.2.1 99 = .ok (.ifCond .eq 20, 3) := by decide +kernel
theorem d_M_table_102 : decode Y_M_table.2.1 102 = .ok (.aload_n 0, 1) := by decide +kernel
theorem d_M_table_103 : decode Y_M_table.2.1 103 = .ok (.invokevirtual 249, 3) := by decide +kernel
theorem d_M_table_106 : decode Y_M_table.2.1 106 = .ok (.ifCond .ne 13, 3) := by decide +kernel
theorem d_M_table_109 : decode Y_M_table.2.1 109 = .ok (.aload_n 0, 1) := by decide +kernel
theorem d_M_table_110 : decode Y_M_table.2.1 110 = .ok (.bipush 6, 2) := by decide +kernel
theorem d_M_table_112 : decode Y_M_table.2.1 112 = .ok (.aload_n 0, 1) := by decide +kernel
theorem d_M_table_113 : decode Y_M_table.2.1 113 = .ok (.getfield 143, 3) := by decide +kernel
theorem d_M_table_116 : decode Y_M_table.2.1 116 = .ok (.invokevirtual 213, 3) := by decide +kernel
theorem d_M_table_119 : decode Y_M_table.2.1 119 = .ok (.aload_n 0, 1) := by decide +kernel
theorem d_M_table_120 : decode Y_M_table.2.1 120 = .ok (.invokevirtual 217, 3) := by decide +kernel
theorem d_M_table_123 : decode Y_M_table.2.1 123 = .ok (.ifCond .ne 5, 3) := by decide +kernel
theorem d_M_table_126 : decode Y_M_table.2.1 126 = .ok (.iconst (-1), 1) := by decide +kernel
theorem d_M_table_127 : decode Y_M_table.2.1 127 = .ok (.ireturn, 1) := by decide +kernel
theorem d_M_table_128 : decode Y_M_table.2.1 128 = .ok (.aload_n 0, 1) := by decide +kernel
theorem d_M_table_129 : decode Y_M_table.2.1 129 = .ok (.aload_n 0, 1) := by decide +kernel
theorem d_M_table_130 : decode Y_M_table.2.1 130 = .ok (.getfield 234, 3) := by decide +kernel
theorem d_M_table_133 : decode Y_M_table.2.1 133 = .ok (.putfield 243, 3) := by decide +kernel
theorem d_M_table_136 : decode Y_M_table.2.1 136 = .ok (.aload_n 0, 1) := by decide +kernel
theorem d_M_table_137 : decode Y_M_table.2.1 137 = .ok (.invokevirtual 140, 3) := by decide +kernel
theorem d_M_table_140 : decode Y_M_table.2.1 140 = .ok (.aload_n 0, 1) := by decide +kernel
theorem d_M_table_141 : decode Y_M_table.2.1 141 = .ok (.getfield 20, 3) := by decide +kernel
theorem d_M_table_144 : decode Y_M_table.2.1 144 = .ok (.aload_n 0, 1) := by decide +kernel
theorem d_M_table_145 : decode Y_M_table.2.1 145 = .ok (.getfield 243, 3) := by decide +kernel
theorem d_M_table_148 : decode Y_M_table.2.1 148 = .ok (.iaload, 1) := by decide +kernel
theorem d_M_table_149 : decode Y_M_table.2.1 149 = .ok (.ireturn, 1) := by decide +kernel
theorem e_M_table {l : Launch} {G : GT} {d : Nat} {P : Int → MM → Prop} {m : MM}   (H : wfM m → ∀ m1, m1 = up m 70 4 0 → (∀ m4, m4 = up m1 70 5 (-1) → (∀ m7, m7 = up m4 70 3 (m4 70 2) → (Wq l G false Y_M_table d (QI P) 20 [(0, .inr (.inr 70)), (1, .inl 0)] [] m7)))) : CI l G Y_M_table d [.inr (.inr 70)] m P := by
  refine CI.of [(0, .inr (.inr 70))] k_M_table.1 (Nat.le_of_ble_eq_true rfl) rfl (Wp.wf (fun hw _ hl hs => ?_))
  have H0 := H hw
  refine Wp.aload_n 0 0 d_M_table_0 rfl rfl ?_
  refine Wp.iconst d_M_table_1 (by decide) ?_
  refine Wq.putI 4 rfl d_M_table_2 fl_M_146 (fun _ _ _ h => by cases h; rfl) rfl rfl rfl (fun m1 hm2 => ?_)
  have H3 := H0 m1 hm2
  refine Wp.aload_n 0 0 d_M_table_5 rfl rfl ?_
  refine Wp.iconst d_M_table_6 (by decide) ?_
  refine Wq.putI 5 rfl d_M_table_7 fl_M_16 (fun _ _ _ h => by cases h; rfl) rfl rfl rfl (fun m4 hm5 => ?_)
  have H6 := H3 m4 hm5
  refine Wp.aload_n 0 0 d_M_table_10 rfl rfl ?_
  refine Wp.aload_n 0 0 d_M_table_11 rfl rfl ?_
  refine Wq.getI 2 rfl d_M_table_12 fl_M_240 rfl (Or.inl rfl) ?_
  refine Wq.putI 3 rfl d_M_table_15 fl_M_143 (fun _ _ _ h => by cases h; rfl) rfl rfl rfl (fun m7 hm8 => ?_)
  have H9 := H6 m7 hm8
  refine Wp.iconst d_M_table_18 (by decide) ?_
  refine Wp.istore_n 1 [(0, .inr (.inr 70)), (1, .inl 0)] d_M_table_19 rfl (by decide) rfl ?_
  exact H9
theorem s_M_table_20 {l : Launch} {G : GT} {d : Nat} {P : Int → MM → Prop} {m : MM} (x1 : Int)  (H : wfM m → inR x1 → (x1 ≥ (m 70 3) → (∀ m6, m6 = up m 70 2 0 → (∀ m9, m9 = up m6 70 7 0 → ((inR (1 - (m9 70 28))) ∧ (∀ m14, m14 = up m9 70 29 (1 - (m9 70 28)) → (∃ (e17 : Nat) (P18 : MM → Prop), e17 < d ∧ CV l G Y_M_clearBank e17 [.inr (.inr 70)] m14 P18 ∧ (∀ m24, P18 m24 → wfM m24 → (∃ (e28 : Nat) (P29 : MM → Prop), e28 < d ∧ CV l G Y_M_goOn e28 [.inr (.inr 70)] m24 P29 ∧ (∀ m35, P29 m35 → wfM m35 → (Wq l G false Y_M_table d (QI P) 74 [(0, .inr (.inr 70))] [] m35)))))))))) ∧ (¬ (x1 ≥ (m 70 3)) → ((0 ≤ x1 ∧ x1 < (1620 : Int)) ∧ ((0 ≤ x1 ∧ x1 < (1600 : Int)) ∧ ((-128 ≤ (m 71 x1) ∧ (m 71 x1) < 128) ∧ (∀ m41, m41 = up m 72 x1 (m 71 x1) → ((inR (x1 + 1)) ∧ (Wq l G false Y_M_table d (QI P) 20 [(0, .inr (.inr 70)), (1, .inl (x1 + 1))] [] m41)))))))) : Wq l G false Y_M_table d (QI P) 20 [(0, .inr (.inr 70)), (1, .inl x1)] [] m := by
  refine Wp.wf (fun hw _ hl hs => ?_)
  have H0 := H hw (hl _ (List.mem_of_getElem? (i := 1) rfl))
  refine Wp.iload_n 1 1 d_M_table_20 rfl rfl ?_
  refine Wp.aload_n 0 0 d_M_table_21 rfl rfl ?_
  refine Wq.getI 3 rfl d_M_table_22 fl_M_143 rfl (Or.inl rfl) ?_
  obtain ⟨H2, H3⟩ := H0
  refine Wp.icmp_ge 46 d_M_table_25 (by decide) (fun c1 => ?_) (fun c1 => ?_)
  · have H4 := H2 c1
    refine Wp.aload_n 0 0 d_M_table_46 rfl rfl ?_
    refine Wp.iconst d_M_table_47 (by decide) ?_
    refine Wq.putI 2 rfl d_M_table_48 fl_M_240 (fun _ _ _ h => by cases h; rfl) rfl rfl rfl (fun m6 hm7 => ?_)
    have H8 := H4 m6 hm7
    refine Wp.aload_n 0 0 d_M_table_51 rfl rfl ?_
    refine Wp.iconst d_M_table_52 (by decide) ?_
    refine Wq.putI 7 rfl d_M_table_53 fl_M_179 (fun _ _ _ h => by cases h; rfl) rfl rfl rfl (fun m9 hm10 => ?_)
    have H11 := H8 m9 hm10
    refine Wp.aload_n 0 0 d_M_table_56 rfl rfl ?_
    refine Wp.iconst d_M_table_57 (by decide) ?_
    refine Wp.aload_n 0 0 d_M_table_58 rfl rfl ?_
    refine Wq.getI 28 rfl d_M_table_59 fl_M_243 rfl (Or.inl rfl) ?_
    obtain ⟨s12, H13⟩ := H11
    refine Wp.isub d_M_table_62 s12 ?_
    refine Wq.putI 29 rfl d_M_table_63 fl_M_234 (fun _ _ _ h => by cases h; rfl) rfl rfl rfl (fun m14 hm15 => ?_)
    have H16 := H13 m14 hm15
    refine Wp.aload_n 0 0 d_M_table_66 rfl rfl ?_
    obtain ⟨e17, P18, hd19, ho20, H21⟩ := H16
    refine Wq.VV (st := []) [] d_M_table_67 k_M_clearBank ml_M_137 rfl rfl rfl (fun h => by cases h) (Nat.le_of_ble_eq_true rfl) hd19 ho20 (fun m24 hp25 hw27 => ?_)
    have H22 := H21 m24 hp25 hw27
    refine Wp.aload_n 0 0 d_M_table_70 rfl rfl ?_
    obtain ⟨e28, P29, hd30, ho31, H32⟩ := H22
    refine Wq.VV (st := []) [] d_M_table_71 k_M_goOn ml_M_221 rfl rfl rfl (fun h => by cases h) (Nat.le_of_ble_eq_true rfl) hd30 ho31 (fun m35 hp36 hw38 => ?_)
    have H33 := H32 m35 hp36 hw38
    refine Wp.pick [0] [(0, .inr (.inr 70))] rfl ?_
    exact H33
  · have H5 := H3 c1
    refine Wp.aload_n 0 0 d_M_table_28 rfl rfl ?_
    refine Wp.getP 72 d_M_table_29 fl_M_13 rfl rfl rfl ?_
    refine Wp.iload_n 1 1 d_M_table_32 rfl rfl ?_
    refine Wp.aload_n 0 0 d_M_table_33 rfl rfl ?_
    refine Wp.getP 71 d_M_table_34 fl_M_7 rfl rfl rfl ?_
    refine Wp.iload_n 1 1 d_M_table_37 rfl rfl ?_
    obtain ⟨s39, H40⟩ := H5
    refine Wp.bald d_M_table_38 rfl (Or.inl rfl) s39.1 s39.2 ?_
    obtain ⟨s48, H49⟩ := H40
    obtain ⟨s50, H51⟩ := H49
    refine Wq.bast d_M_table_39 rfl s48.1 s48.2 s50 (fun m41 hm42 => ?_)
    have H43 := H51 m41 hm42
    obtain ⟨s46, H47⟩ := H43
    refine Wp.iinc 1 1 [(0, .inr (.inr 70)), (1, .inl (x1 + 1))] d_M_table_40 rfl s46 (by decide) rfl ?_
    refine Wp.goto 20 d_M_table_43 (by decide) ?_
    exact H47
theorem s_M_table_74 {l : Launch} {G : GT} {d : Nat} {P : Int → MM → Prop} {m : MM}   (H : wfM m → ∃ (e1 : Nat) (P2 : Int → MM → Prop), e1 < d ∧ CI l G Y_M_isGood e1 [.inr (.inr 70)] m P2 ∧ (∀ z7 m8, P2 z7 m8 → inR z7 → wfM m8 → ((z7 = 0 → (Wq l G false Y_M_table d (QI P) 95 [(0, .inr (.inr 70))] [] m8)) ∧ (¬ (z7 = 0) → (((m8 70 8) = 0 → (Wq l G false Y_M_table d (QI P) 95 [(0, .inr (.inr 70))] [] m8)) ∧ (¬ ((m8 70 8) = 0) → (∃ (e22 : Nat) (P23 : MM → Prop), e22 < d ∧ CV l G Y_M_readLine e22 [.inr (.inr 70)] m8 P23 ∧ (∀ m29, P23 m29 → wfM m29 → (Wq l G false Y_M_table d (QI P) 74 [(0, .inr (.inr 70))] [] m29))))))))) : Wq l G false Y_M_table d (QI P) 74 [(0, .inr (.inr 70))] [] m := by
  refine Wp.wf (fun hw _ hl hs => ?_)
  have H0 := H hw
  refine Wp.aload_n 0 0 d_M_table_74 rfl rfl ?_
  obtain ⟨e1, P2, hd3, ho4, H5⟩ := H0
  refine Wq.VI (st := []) [] d_M_table_75 k_M_isGood ml_M_217 rfl rfl rfl (fun h => by cases h) (Nat.le_of_ble_eq_true rfl) hd3 ho4 (fun z7 m8 hp9 hz10 hw11 => ?_)
  have H6 := H5 z7 m8 hp9 hz10 hw11
  obtain ⟨H13, H14⟩ := H6
  refine Wp.if_eq 95 d_M_table_78 (by decide) (fun c12 => ?_) (fun c12 => ?_)
  · have H15 := H13 c12
    exact H15
  · have H16 := H14 c12
    refine Wp.aload_n 0 0 d_M_table_81 rfl rfl ?_
    refine Wq.getI 8 rfl d_M_table_82 fl_M_189 rfl (Or.inl rfl) ?_
    obtain ⟨H18, H19⟩ := H16
    refine Wp.if_eq 95 d_M_table_85 (by decide) (fun c17 => ?_) (fun c17 => ?_)
    · have H20 := H18 c17
      exact H20
    · have H21 := H19 c17
      refine Wp.aload_n 0 0 d_M_table_88 rfl rfl ?_
      obtain ⟨e22, P23, hd24, ho25, H26⟩ := H21
      refine Wq.VV (st := []) [] d_M_table_89 k_M_readLine ml_M_246 rfl rfl rfl (fun h => by cases h) (Nat.le_of_ble_eq_true rfl) hd24 ho25 (fun m29 hp30 hw32 => ?_)
      have H27 := H26 m29 hp30 hw32
      refine Wp.goto 74 d_M_table_92 (by decide) ?_
      exact H27
theorem s_M_table_95 {l : Launch} {G : GT} {d : Nat} {P : Int → MM → Prop} {m : MM}   (H : wfM m → ∃ (e1 : Nat) (P2 : Int → MM → Prop), e1 < d ∧ CI l G Y_M_isGood e1 [.inr (.inr 70)] m P2 ∧ (∀ z7 m8, P2 z7 m8 → inR z7 → wfM m8 → ((z7 = 0 → (∃ (e17 : Nat) (P18 : Int → MM → Prop), e17 < d ∧ CI l G Y_M_isGood e17 [.inr (.inr 70)] m8 P18 ∧ (∀ z23 m24, P18 z23 m24 → inR z23 → wfM m24 → ((z23 ≠ 0 → (∀ m33, m33 = up m24 70 28 (m24 70 29) → (∃ (e36 : Nat) (P37 : MM → Prop), e36 < d ∧ CV l G Y_M_startAnew e36 [.inr (.inr 70)] m33 P37 ∧ (∀ m43, P37 m43 → wfM m43 → ((0 ≤ (m43 70 28) ∧ (m43 70 28) < (2 : Int)) ∧ (P (m43 73 (m43 70 28)) m43)))))) ∧ (¬ (z23 ≠ 0) → (P (-1) m24)))))) ∧ (¬ (z7 = 0) → (∃ (e49 : Nat) (P50 : Int → MM → Prop), e49 < d ∧ CI l G Y_M_areDrained e49 [.inr (.inr 70)] m8 P50 ∧ (∀ z55 m56, P50 z55 m56 → inR z55 → wfM m56 → ((z55 ≠ 0 → (∃ (e65 : Nat) (P66 : Int → MM → Prop), e65 < d ∧ CI l G Y_M_isGood e65 [.inr (.inr 70)] m56 P66 ∧ (∀ z71 m72, P66 z71 m72 → inR z71 → wfM m72 → ((z71 ≠ 0 → (∀ m81, m81 = up m72 70 28 (m72 70 29) → (∃ (e84 : Nat) (P85 : MM → Prop), e84 < d ∧ CV l G Y_M_startAnew e84 [.inr (.inr 70)] m81 P85 ∧ (∀ m91, P85 m91 → wfM m91 → ((0 ≤ (m91 70 28) ∧ (m91 70 28) < (2 : Int)) ∧ (P (m91 73 (m91 70 28)) m91)))))) ∧ (¬ (z71 ≠ 0) → (P (-1) m72)))))) ∧ (¬ (z55 ≠ 0) → (∃ (e97 : Nat) (P98 : MM → Prop), e97 < d ∧ CV l G Y_M_fails e97 [.inr (.inr 70), .inl 6, .inl (m56 70 3)] m56 P98 ∧ (∀ m104, P98 m104 → wfM m104 → (∃ (e108 : Nat) (P109 : Int → MM → Prop), e108 < d ∧ CI l G Y_M_isGood e108 [.inr (.inr 70)] m104 P109 ∧ (∀ z114 m115, P109 z114 m115 → inR z114 → wfM m115 → ((z114 ≠ 0 → (∀ m124, m124 = up m115 70 28 (m115 70 29) → (∃ (e127 : Nat) (P128 : MM → Prop), e127 < d ∧ CV l G Y_M_startAnew e127 [.inr (.inr 70)] m124 P128 ∧ (∀ m134, P128 m134 → wfM m134 → ((0 ≤ (m134 70 28) ∧ (m134 70 28) < (2 : Int)) ∧ (P (m134 73 (m134 70 28)) m134)))))) ∧ (¬ (z114 ≠ 0) → (P (-1) m115))))))))))))))) : Wq l G false Y_M_table d (QI P) 95 [(0, .inr (.inr 70))] [] m := by
  refine Wp.wf (fun hw _ hl hs => ?_)
  have H0 := H hw
  refine Wp.aload_n 0 0 d_M_table_95 rfl rfl ?_
  obtain ⟨e1, P2, hd3, ho4, H5⟩ := H0
  refine Wq.VI (st := []) [] d_M_table_96 k_M_isGood ml_M_217 rfl rfl rfl (fun h => by cases h) (Nat.le_of_ble_eq_true rfl) hd3 ho4 (fun z7 m8 hp9 hz10 hw11 => ?_)
  have H6 := H5 z7 m8 hp9 hz10 hw11
  obtain ⟨H13, H14⟩ := H6
  refine Wp.if_eq 119 d_M_table_99 (by decide) (fun c12 => ?_) (fun c12 => ?_)
  · have H15 := H13 c12
    refine Wp.aload_n 0 0 d_M_table_119 rfl rfl ?_
    obtain ⟨e17, P18, hd19, ho20, H21⟩ := H15
    refine Wq.VI (st := []) [] d_M_table_120 k_M_isGood ml_M_217 rfl rfl rfl (fun h => by cases h) (Nat.le_of_ble_eq_true rfl) hd19 ho20 (fun z23 m24 hp25 hz26 hw27 => ?_)
    have H22 := H21 z23 m24 hp25 hz26 hw27
    obtain ⟨H29, H30⟩ := H22
    refine Wp.if_ne 128 d_M_table_123 (by decide) (fun c28 => ?_) (fun c28 => ?_)
    · have H31 := H29 c28
      refine Wp.aload_n 0 0 d_M_table_128 rfl rfl ?_
      refine Wp.aload_n 0 0 d_M_table_129 rfl rfl ?_
      refine Wq.getI 29 rfl d_M_table_130 fl_M_234 rfl (Or.inl rfl) ?_
      refine Wq.putI 28 rfl d_M_table_133 fl_M_243 (fun _ _ _ h => by cases h; rfl) rfl rfl rfl (fun m33 hm34 => ?_)
      have H35 := H31 m33 hm34
      refine Wp.aload_n 0 0 d_M_table_136 rfl rfl ?_
      obtain ⟨e36, P37, hd38, ho39, H40⟩ := H35
      refine Wq.VV (st := []) [] d_M_table_137 k_M_startAnew ml_M_140 rfl rfl rfl (fun h => by cases h) (Nat.le_of_ble_eq_true rfl) hd38 ho39 (fun m43 hp44 hw46 => ?_)
      have H41 := H40 m43 hp44 hw46
      refine Wp.aload_n 0 0 d_M_table_140 rfl rfl ?_
      refine Wp.getP 73 d_M_table_141 fl_M_20 rfl rfl rfl ?_
      refine Wp.aload_n 0 0 d_M_table_144 rfl rfl ?_
      refine Wq.getI 28 rfl d_M_table_145 fl_M_243 rfl (Or.inl rfl) ?_
      obtain ⟨s47, H48⟩ := H41
      refine Wp.iald d_M_table_148 rfl (Or.inl rfl) s47.1 s47.2 ?_
      exact Wq.iret d_M_table_149 rfl H48
    · have H32 := H30 c28
      refine Wp.iconst d_M_table_126 (by decide) ?_
      exact Wq.iret d_M_table_127 rfl H32
  · have H16 := H14 c12
    refine Wp.aload_n 0 0 d_M_table_102 rfl rfl ?_
    obtain ⟨e49, P50, hd51, ho52, H53⟩ := H16
    refine Wq.VI (st := []) [] d_M_table_103 k_M_areDrained ml_M_249 rfl rfl rfl (fun h => by cases h) (Nat.le_of_ble_eq_true rfl) hd51 ho52 (fun z55 m56 hp57 hz58 hw59 => ?_)
    have H54 := H53 z55 m56 hp57 hz58 hw59
    obtain ⟨H61, H62⟩ := H54
    refine Wp.if_ne 119 d_M_table_106 (by decide) (fun c60 => ?_) (fun c60 => ?_)
    · have H63 := H61 c60
      refine Wp.aload_n 0 0 d_M_table_119 rfl rfl ?_
      obtain ⟨e65, P66, hd67, ho68, H69⟩ := H63
      refine Wq.VI (st := []) [] d_M_table_120 k_M_isGood ml_M_217 rfl rfl rfl (fun h => by cases h) (Nat.le_of_ble_eq_true rfl) hd67 ho68 (fun z71 m72 hp73 hz74 hw75 => ?_)
      have H70 := H69 z71 m72 hp73 hz74 hw75
      obtain ⟨H77, H78⟩ := H70
      refine Wp.if_ne 128 d_M_table_123 (by decide) (fun c76 => ?_) (fun c76 => ?_)
      · have H79 := H77 c76
        refine Wp.aload_n 0 0 d_M_table_128 rfl rfl ?_
        refine Wp.aload_n 0 0 d_M_table_129 rfl rfl ?_
        refine Wq.getI 29 rfl d_M_table_130 fl_M_234 rfl (Or.inl rfl) ?_
        refine Wq.putI 28 rfl d_M_table_133 fl_M_243 (fun _ _ _ h => by cases h; rfl) rfl rfl rfl (fun m81 hm82 => ?_)
        have H83 := H79 m81 hm82
        refine Wp.aload_n 0 0 d_M_table_136 rfl rfl ?_
        obtain ⟨e84, P85, hd86, ho87, H88⟩ := H83
        refine Wq.VV (st := []) [] d_M_table_137 k_M_startAnew ml_M_140 rfl rfl rfl (fun h => by cases h) (Nat.le_of_ble_eq_true rfl) hd86 ho87 (fun m91 hp92 hw94 => ?_)
        have H89 := H88 m91 hp92 hw94
        refine Wp.aload_n 0 0 d_M_table_140 rfl rfl ?_
        refine Wp.getP 73 d_M_table_141 fl_M_20 rfl rfl rfl ?_
        refine Wp.aload_n 0 0 d_M_table_144 rfl rfl ?_
        refine Wq.getI 28 rfl d_M_table_145 fl_M_243 rfl (Or.inl rfl) ?_
        obtain ⟨s95, H96⟩ := H89
        refine Wp.iald d_M_table_148 rfl (Or.inl rfl) s95.1 s95.2 ?_
        exact Wq.iret d_M_table_149 rfl H96
      · have H80 := H78 c76
        refine Wp.iconst d_M_table_126 (by decide) ?_
        exact Wq.iret d_M_table_127 rfl H80
    · have H64 := H62 c60
      refine Wp.aload_n 0 0 d_M_table_109 rfl rfl ?_
      refine Wp.bipush d_M_table_110 (by decide) (by decide) ?_
      refine Wp.aload_n 0 0 d_M_table_112 rfl rfl ?_
      refine Wq.getI 3 rfl d_M_table_113 fl_M_143 rfl (Or.inl rfl) ?_
      obtain ⟨e97, P98, hd99, ho100, H101⟩ := H64
      refine Wq.VV (st := []) [.inl 6, .inl (m56 70 3)] d_M_table_116 k_M_fails ml_M_213 rfl rfl rfl (fun h => by cases h) (Nat.le_of_ble_eq_true rfl) hd99 ho100 (fun m104 hp105 hw107 => ?_)
      have H102 := H101 m104 hp105 hw107
      refine Wp.aload_n 0 0 d_M_table_119 rfl rfl ?_
      obtain ⟨e108, P109, hd110, ho111, H112⟩ := H102
      refine Wq.VI (st := []) [] d_M_table_120 k_M_isGood ml_M_217 rfl rfl rfl (fun h => by cases h) (Nat.le_of_ble_eq_true rfl) hd110 ho111 (fun z114 m115 hp116 hz117 hw118 => ?_)
      have H113 := H112 z114 m115 hp116 hz117 hw118
      obtain ⟨H120, H121⟩ := H113
      refine Wp.if_ne 128 d_M_table_123 (by decide) (fun c119 => ?_) (fun c119 => ?_)
      · have H122 := H120 c119
        refine Wp.aload_n 0 0 d_M_table_128 rfl rfl ?_
        refine Wp.aload_n 0 0 d_M_table_129 rfl rfl ?_
        refine Wq.getI 29 rfl d_M_table_130 fl_M_234 rfl (Or.inl rfl) ?_
        refine Wq.putI 28 rfl d_M_table_133 fl_M_243 (fun _ _ _ h => by cases h; rfl) rfl rfl rfl (fun m124 hm125 => ?_)
        have H126 := H122 m124 hm125
        refine Wp.aload_n 0 0 d_M_table_136 rfl rfl ?_
        obtain ⟨e127, P128, hd129, ho130, H131⟩ := H126
        refine Wq.VV (st := []) [] d_M_table_137 k_M_startAnew ml_M_140 rfl rfl rfl (fun h => by cases h) (Nat.le_of_ble_eq_true rfl) hd129 ho130 (fun m134 hp135 hw137 => ?_)
        have H132 := H131 m134 hp135 hw137
        refine Wp.aload_n 0 0 d_M_table_140 rfl rfl ?_
        refine Wp.getP 73 d_M_table_141 fl_M_20 rfl rfl rfl ?_
        refine Wp.aload_n 0 0 d_M_table_144 rfl rfl ?_
        refine Wq.getI 28 rfl d_M_table_145 fl_M_243 rfl (Or.inl rfl) ?_
        obtain ⟨s138, H139⟩ := H132
        refine Wp.iald d_M_table_148 rfl (Or.inl rfl) s138.1 s138.2 ?_
        exact Wq.iret d_M_table_149 rfl H139
      · have H123 := H121 c119
        refine Wp.iconst d_M_table_126 (by decide) ?_
        exact Wq.iret d_M_table_127 rfl H123
theorem d_M_goOn_0 : decode Y_M_goOn.2.1 0 = .ok (.aload_n 0, 1) := by decide +kernel
theorem d_M_goOn_1 : decode Y_M_goOn.2.1 1 = .ok (.aload_n 0, 1) := by decide +kernel
theorem d_M_goOn_2 : decode Y_M_goOn.2.1 2 = .ok (.getfield 179, 3) := by decide +kernel
theorem d_M_goOn_5 : decode Y_M_goOn.2.1 5 = .ok (.putfield 182, 3) := by decide +kernel
theorem d_M_goOn_8 : decode Y_M_goOn.2.1 8 = .ok (.aload_n 0, 1) := by decide +kernel
theorem d_M_goOn_9 : decode Y_M_goOn.2.1 9 = .ok (.getfield 182, 3) := by decide +kernel
theorem d_M_goOn_12 : decode Y_M_goOn.2.1 12 = .ok (.aload_n 0, 1) := by decide +kernel
theorem d_M_goOn_13 : decode Y_M_goOn.2.1 13 = .ok (.getfield 143, 3) := by decide +kernel
theorem d_M_goOn_16 : decode Y_M_goOn.2.1 16 = .ok (.if_icmp .ge 42, 3) := by decide +kernel
theorem d_M_goOn_19 : decode Y_M_goOn.2.1 19 = .ok (.aload_n 0, 1) := by decide +kernel
theorem d_M_goOn_20 : decode Y_M_goOn.2.1 20 = .ok (.aload_n 0, 1) := by decide +kernel
theorem d_M_goOn_21 : decode Y_M_goOn.2.1 21 = .ok (.getfield 182, 3) := by decide +kernel
theorem d_M_goOn_24 : decode Y_M_goOn.2.1 24 = .ok (.invokevirtual 185, 3) := by decide +kernel
theorem d_M_goOn_27 : decode Y_M_goOn.2.1 27 = .ok (.bipush 32, 2) := by decide +kernel
theorem d_M_goOn_29 : decode Y_M_goOn.2.1 29 = .ok (.if_icmp .eq 16, 3) := by decide +kernel
theorem d_M_goOn_32 : decode Y_M_goOn.2.1 32 = .ok (.aload_n 0, 1) := by decide +kernel
theorem d_M_goOn_33 : decode Y_M_goOn.2.1 33 = .ok (.aload_n 0, 1) := by decide +kernel
theorem d_M_goOn_34 : decode Y_M_goOn.2.1 34 = .ok (.getfield 182, 3) := by decide +kernel
theorem d_M_goOn_37 : decode Y_M_goOn.2.1 37 = .ok (.invokevirtual 185, 3) := by decide +kernel
theorem d_M_goOn_40 : decode Y_M_goOn.2.1 40 = .ok (.bipush 10, 2) := by decide +kernel
theorem d_M_goOn_42 : decode Y_M_goOn.2.1 42 = .ok (.if_icmp .ne 16, 3) := by decide +kernel
theorem d_M_goOn_45 : decode Y_M_goOn.2.1 45 = .ok (.aload_n 0, 1) := by decide +kernel
theorem d_M_goOn_46 : decode Y_M_goOn.2.1 46 = .ok (.dup, 1) := by decide +kernel
theorem d_M_goOn_47 : decode Y_M_goOn.2.1 47 = .ok (.getfield 182, 3) := by decide +kernel
theorem d_M_goOn_50 : decode Y_M_goOn.2.1 50 = .ok (.iconst 1, 1) := by decide +kernel
theorem d_M_goOn_51 : decode Y_M_goOn.2.1 51 = .ok (.iadd, 1) := by decide +kernel
theorem d_M_goOn_52 : decode Y_M_goOn.2.1 52 = .ok (.putfield 182, 3) := by decide +kernel
theorem d_M_goOn_55 : decode Y_M_goOn.2.1 55 = .ok (.goto (-47), 3) := by decide +kernel
theorem d_M_goOn_58 : decode Y_M_goOn.2.1 58 = .ok (.aload_n 0, 1) := by decide +kernel
theorem d_M_goOn_59 : decode Y_M_goOn.2.1 59 = .ok (.aload_n 0, 1) := by decide +kernel
theorem d_M_goOn_60 : decode Y_M_goOn.2.1 60 = .ok (.getfield 182, 3) := by decide +kernel
theorem d_M_goOn_63 : decode Y_M_goOn.2.1 63 = .ok (.invokevirtual 185, 3) := by decide +kernel
theorem d_M_goOn_66 : decode Y_M_goOn.2.1 66 = .ok (.istore_n 1, 1) := by decide +kernel
theorem d_M_goOn_67 : decode Y_M_goOn.2.1 67 = .ok (.aload_n 0, 1) := by decide +kernel
theorem d_M_goOn_68 : decode Y_M_goOn.2.1 68 = .ok (.aload_n 0, 1) := by decide +kernel
theorem d_M_goOn_69 : decode Y_M_goOn.2.1 69 = .ok (.getfield 182, 3) := by decide +kernel
theorem d_M_goOn_72 : decode Y_M_goOn.2.1 72 = .ok (.iconst 1, 1) := by decide +kernel
theorem d_M_goOn_73 : decode Y_M_goOn.2.1 73 = .ok (.iadd, 1) := by decide +kernel
theorem d_M_goOn_74 : decode Y_M_goOn.2.1 74 = .ok (.putfield 179, 3) := by decide +kernel
theorem d_M_goOn_77 : decode Y_M_goOn.2.1 77 = .ok (.aload_n 0, 1) := by decide +kernel
theorem d_M_goOn_78 : decode Y_M_goOn.2.1 78 = .ok (.getfield 182, 3) := by decide +kernel
theorem d_M_goOn_81 : decode Y_M_goOn.2.1 81 = .ok (.aload_n 0, 1) := by decide +kernel
theorem d_M_goOn_82 : decode Y_M_goOn.2.1 82 = .ok (.getfield 143, 3) := by decide +kernel
theorem d_M_goOn_85 : decode Y_M_goOn.2.1 85 = .ok (.if_icmp .lt 27, 3) := by decide +kernel
theorem d_M_goOn_88 : decode Y_M_goOn.2.1 88 = .ok (.aload_n 0, 1) := by decide +kernel
theorem d_M_goOn_89 : decode Y_M_goOn.2.1 89 = .ok (.iconst 0, 1) := by decide +kernel
theorem d_M_goOn_90 : decode Y_M_goOn.2.1 90 = .ok (.putfield 189, 3) := by decide +kernel
theorem d_M_goOn_93 : decode Y_M_goOn.2.1 93 = .ok (.aload_n 0, 1) := by decide +kernel
theorem d_M_goOn_94 : decode Y_M_goOn.2.1 94 = .ok (.aload_n 0, 1) := by decide +kernel
theorem d_M_goOn_95 : decode Y_M_goOn.2.1 95 = .ok (.getfield 143, 3) := by decide +kernel
theorem d_M_goOn_98 : decode Y_M_goOn.2.1 98 = .ok (.putfield 182, 3) := by decide +kernel
theorem d_M_goOn_101 : decode Y_M_goOn.2.1 101 = .ok (.aload_n 0, 1) := by decide +kernel
theorem d_M_goOn_102 : decode Y_M_goOn.2.1 102 = .ok (.aload_n 0, 1) := by decide +kernel
theorem d_M_goOn_103 : decode Y_M_goOn.2.1 103 = .ok (.getfield 143, 3) := by decide +kernel
theorem d_M_goOn_106 : decode Y_M_goOn.2.1 106 = .ok (.putfield 179, 3) := by decide +kernel
theorem d_M_goOn_109 : decode Y_M_goOn.2.1 109 = .ok (.goto 268, 3) := by decide +kernel
theorem d_M_goOn_112 : decode Y_M_goOn.2.1 112 = .ok (.iload_n 1, 1) := by decide +kernel
theorem d_M_goOn_113 : decode Y_M_goOn.2.1 113 = .ok (.invokestatic 192, 3) := by decide +kernel
theorem d_M_goOn_116 : decode Y_M_goOn.2.1 116 = .ok (.ifCond .eq 123, 3) := by decide +kernel
theorem d_M_goOn_119 : decode Y_M_goOn.2.1 119 = .ok (.aload_n 0, 1) := by decide +kernel
theorem d_M_goOn_120 : decode Y_M_goOn.2.1 120 = .ok (.aload_n 0, 1) := by decide +kernel
theorem d_M_goOn_121 : decode Y_M_goOn.2.1 121 = .ok (.getfield 179, 3) := by decide +kernel
theorem d_M_goOn_124 : decode Y_M_goOn.2.1 124 = .ok (.invokevirtual 185, 3) := by decide +kernel
theorem d_M_goOn_127 : decode Y_M_goOn.2.1 127 = .ok (.invokestatic 192, 3) := by decide +kernel
theorem d_M_goOn_130 : decode Y_M_goOn.2.1 130 = .ok (.ifCond .eq 16, 3) := by decide +kernel
theorem d_M_goOn_133 : decode Y_M_goOn.2.1 133 = .ok (.aload_n 0, 1) := by decide +kernel
theorem d_M_goOn_134 : decode Y_M_goOn.2.1 134 = .ok (.dup, 1) := by decide +kernel
theorem d_M_goOn_135 : decode Y_M_goOn.2.1 135 = .ok (.getfield 179, 3) := by decide +kernel
theorem d_M_goOn_138 : decode Y_M_goOn.2.1 138 = .ok (.iconst 1, 1) := by decide +kernel
theorem d_M_goOn_139 : decode Y_M_goOn.2.1 139 = .ok (.iadd, 1) := by decide +kernel
theorem d_M_goOn_140 : decode Y_M_goOn.2.1 140 = .ok (.putfield 179, 3) := by decide +kernel
theorem d_M_goOn_143 : decode Y_M_goOn.2.1 143 = .ok (.goto (-24), 3) := by decide +kernel
theorem d_M_goOn_146 : decode Y_M_goOn.2.1 146 = .ok (.aload_n 0, 1) := by decide +kernel
theorem d_M_goOn_147 : decode Y_M_goOn.2.1 147 = .ok (.lconst 0, 1) := by decide +kernel
theorem d_M_goOn_148 : decode Y_M_goOn.2.1 148 = .ok (.putfield 196, 3) := by decide +kernel
theorem d_M_goOn_151 : decode Y_M_goOn.2.1 151 = .ok (.aload_n 0, 1) := by decide +kernel
theorem d_M_goOn_152 : decode Y_M_goOn.2.1 152 = .ok (.getfield 182, 3) := by decide +kernel
theorem d_M_goOn_155 : decode Y_M_goOn.2.1 155 = .ok (.istore_n 2, 1) := by decide +kernel
theorem d_M_goOn_156 : decode Y_M_goOn.2.1 156 = .ok (.iload_n 2, 1) := by decide +kernel
theorem d_M_goOn_157 : decode Y_M_goOn.2.1 157 = .ok (.aload_n 0, 1) := by decide +kernel
theorem d_M_goOn_158 : decode Y_M_goOn.2.1 158 = .ok (.getfield 179, 3) := by decide +kernel
theorem d_M_goOn_161 : decode Y_M_goOn.2.1 161 = .ok (.if_icmp .ge 38, 3) := by decide +kernel
theorem d_M_goOn_164 : decode Y_M_goOn.2.1 164 = .ok (.iload_n 2, 1) := by decide +kernel
theorem d_M_goOn_165 : decode Y_M_goOn.2.1 165 = .ok (.aload_n 0, 1) := by decide +kernel
theorem d_M_goOn_166 : decode Y_M_goOn.2.1 166 = .ok (.getfield 182, 3) := by decide +kernel
theorem d_M_goOn_169 : decode Y_M_goOn.2.1 169 = .ok (.bipush 8, 2) := by decide +kernel
theorem d_M_goOn_171 : decode Y_M_goOn.2.1 171 = .ok (.iadd, 1) := by decide +kernel
theorem d_M_goOn_172 : decode Y_M_goOn.2.1 172 = .ok (.if_icmp .ge 27, 3) := by decide +kernel
theorem d_M_goOn_175 : decode Y_M_goOn.2.1 175 = .ok (.aload_n 0, 1) := by decide +kernel
theorem d_M_goOn_176 : decode Y_M_goOn.2.1 176 = .ok (.aload_n 0, 1) := by decide +kernel
theorem d_M_goOn_177 : decode Y_M_goOn.2.1 177 = .ok (.getfield 196, 3) := by decide +kernel
theorem d_M_goOn_180 : decode Y_M_goOn.2.1 180 = .ok (.bipush 8, 2) := by decide +kernel
theorem d_M_goOn_182 : decode Y_M_goOn.2.1 182 = .ok (.lshl, 1) := by decide +kernel
theorem d_M_goOn_183 : decode Y_M_goOn.2.1 183 = .ok (.aload_n 0, 1) := by decide +kernel
theorem d_M_goOn_184 : decode Y_M_goOn.2.1 184 = .ok (.iload_n 2, 1) := by decide +kernel
theorem d_M_goOn_185 : decode Y_M_goOn.2.1 185 = .ok (.invokevirtual 185, 3) := by decide +kernel
theorem d_M_goOn_188 : decode Y_M_goOn.2.1 188 = .ok (.i2l, 1) := by decide +kernel
theorem d_M_goOn_189 : decode Y_M_goOn.2.1 189 = .ok (.lor, 1) := by decide +kernel
theorem d_M_goOn_190 : decode Y_M_goOn.2.1 190 = .ok (.putfield 196, 3) := by decide +kernel
theorem d_M_goOn_193 : decode Y_M_goOn.2.1 193 = .ok (.iinc 2 1, 3) := by decide +kernel
theorem d_M_goOn_196 : decode Y_M_goOn.2.1 196 = .ok (.goto (-40), 3) := by decide +kernel
theorem d_M_goOn_199 : decode Y_M_goOn.2.1 199 = .ok (.aload_n 0, 1) := by decide +kernel
theorem d_M_goOn_200 : decode Y_M_goOn.2.1 200 = .ok (.aload_n 0, 1) := by decide +kernel
theorem d_M_goOn_201 : decode Y_M_goOn.2.1 201 = .ok (.getfield 179, 3) := by decide +kernel
theorem d_M_goOn_204 : decode Y_M_goOn.2.1 204 = .ok (.aload_n 0, 1) := by decide +kernel
theorem d_M_goOn_205 : decode Y_M_goOn.2.1 205 = .ok (.getfield 182, 3) := by decide +kernel
theorem d_M_goOn_208 : decode Y_M_goOn.2.1 208 = .ok (.isub, 1) := by decide +kernel
theorem d_M_goOn_209 : decode Y_M_goOn.2.1 209 = .ok (.bipush 8, 2) := by decide +kernel
theorem d_M_goOn_211 : decode Y_M_goOn.2.1 211 = .ok (.if_icmp .le 7, 3) := by decide +kernel
theorem d_M_goOn_214 : decode Y_M_goOn.2.1 214 = .ok (.iconst 1, 1) := by decide +kernel
theorem d_M_goOn_215 : decode Y_M_goOn.2.1 215 = .ok (.goto 18, 3) := by decide +kernel
theorem d_M_goOn_218 : decode Y_M_goOn.2.1 218 = .ok (.aload_n 0, 1) := by decide +kernel
theorem d_M_goOn_219 : decode Y_M_goOn.2.1 219 = .ok (.getfield 196, 3) := by decide +kernel
theorem d_M_goOn_222 : decode Y_M_goOn.2.1 222 = .ok (.invokestatic 200, 3) := by decide +kernel
theorem d_M_goOn_225 : decode Y_M_goOn.2.1 225 = .ok (.ifCond .eq 7, 3) := by decide +kernel
theorem d_M_goOn_228 : decode Y_M_goOn.2.1 228 = .ok (.iconst 3, 1) := by decide +kernel
theorem d_M_goOn_229 : decode Y_M_goOn.2.1 229 = .ok (.goto 4, 3) := by decide +kernel
theorem d_M_goOn_232 : decode Y_M_goOn.2.1 232 = .ok (.iconst 2, 1) := by decide +kernel
theorem d_M_goOn_233 : decode Y_M_goOn.2.1 233 = .ok (.putfield 189, 3) := by decide +kernel
theorem d_M_goOn_236 : decode Y_M_goOn.2.1 236 = .ok (.goto 141, 3) := by decide +kernel
theorem d_M_goOn_239 : decode Y_M_goOn.2.1 239 = .ok (.iload_n 1, 1) := by decide +kernel
theorem d_M_goOn_240 : decode Y_M_goOn.2.1 240 = .ok (.invokestatic 204, 3) := by decide +kernel
theorem d_M_goOn_243 : decode Y_M_goOn.2.1 243 = .ok (.ifCond .eq 118, 3) := by decide +kernel
theorem d_M_goOn_246 : decode Y_M_goOn.2.1 246 = .ok (.aload_n 0, 1) := by decide +kernel
theorem d_M_goOn_247 : decode Y_M_goOn.2.1 247 = .ok (.iconst 0, 1) := by decide +kernel
theorem d_M_goOn_248 : decode Y_M_goOn.2.1 248 = .ok (.putfield 207, 3) := by decide +kernel
theorem d_M_goOn_251 : decode Y_M_goOn.2.1 251 = .ok (.aload_n 0, 1) := by decide +kernel
theorem d_M_goOn_252 : decode Y_M_goOn.2.1 252 = .ok (.aload_n 0, 1) := by decide +kernel
theorem d_M_goOn_253 : decode Y_M_goOn.2.1 253 = .ok (.getfield 182, 3) := by decide +kernel
theorem d_M_goOn_256 : decode Y_M_goOn.2.1 256 = .ok (.putfield 179, 3) := by decide +kernel
theorem d_M_goOn_259 : decode Y_M_goOn.2.1 259 = .ok (.aload_n 0, 1) := by decide +kernel
theorem d_M_goOn_260 : decode Y_M_goOn.2.1 260 = .ok (.aload_n 0, 1) := by decide +kernel
theorem d_M_goOn_261 : decode Y_M_goOn.2.1 261 = .ok (.getfield 179, 3) := by decide +kernel
theorem d_M_goOn_264 : decode Y_M_goOn.2.1 264 = .ok (.invokevirtual 185, 3) := by decide +kernel
theorem d_M_goOn_267 : decode Y_M_goOn.2.1 267 = .ok (.invokestatic 204, 3) := by decide +kernel
theorem d_M_goOn_270 : decode Y_M_goOn.2.1 270 = .ok (.ifCond .eq 52, 3) := by decide +kernel
theorem d_M_goOn_273 : decode Y_M_goOn.2.1 273 = .ok (.aload_n 0, 1) := by decide +kernel
theorem d_M_goOn_274 : decode Y_M_goOn.2.1 274 = .ok (.getfield 179, 3) := by decide +kernel
theorem d_M_goOn_277 : decode Y_M_goOn.2.1 277 = .ok (.aload_n 0, 1) := by decide +kernel
theorem d_M_goOn_278 : decode Y_M_goOn.2.1 278 = .ok (.getfield 182, 3) := by decide +kernel
theorem d_M_goOn_281 : decode Y_M_goOn.2.1 281 = .ok (.isub, 1) := by decide +kernel
theorem d_M_goOn_282 : decode Y_M_goOn.2.1 282 = .ok (.iconst 4, 1) := by decide +kernel
theorem d_M_goOn_283 : decode Y_M_goOn.2.1 283 = .ok (.if_icmp .ge 26, 3) := by decide +kernel
theorem d_M_goOn_286 : decode Y_M_goOn.2.1 286 = .ok (.aload_n 0, 1) := by decide +kernel
theorem d_M_goOn_287 : decode Y_M_goOn.2.1 287 = .ok (.bipush 10, 2) := by decide +kernel
theorem d_M_goOn_289 : decode Y_M_goOn.2.1 289 = .ok (.aload_n 0, 1) := by decide +kernel
theorem d_M_goOn_290 : decode Y_M_goOn.2.1 290 = .ok (.getfield 207, 3) := by decide +kernel
theorem d_M_goOn_293 : decode Y_M_goOn.2.1 293 = .ok (.imul, 1) := by decide +kernel
theorem d_M_goOn_294 : decode Y_M_goOn.2.1 294 = .ok (.aload_n 0, 1) := by decide +kernel
theorem d_M_goOn_295 : decode Y_M_goOn.2.1 295 = .ok (.aload_n 0, 1) := by decide +kernel
theorem d_M_goOn_296 : decode Y_M_goOn.2.1 296 = .ok (.getfield 179, 3) := by decide +kernel
theorem d_M_goOn_299 : decode Y_M_goOn.2.1 299 = .ok (.invokevirtual 185, 3) := by decide +kernel
theorem d_M_goOn_302 : decode Y_M_goOn.2.1 302 = .ok (.iadd, 1) := by decide +kernel
theorem d_M_goOn_303 : decode Y_M_goOn.2.1 303 = .ok (.bipush 48, 2) := by decide +kernel
theorem d_M_goOn_305 : decode Y_M_goOn.2.1 305 = .ok (.isub, 1) := by decide +kernel
theorem d_M_goOn_306 : decode Y_M_goOn.2.1 306 = .ok (.putfield 207, 3) := by decide +kernel
theorem d_M_goOn_309 : decode Y_M_goOn.2.1 309 = .ok (.aload_n 0, 1) := by decide +kernel
theorem d_M_goOn_310 : decode Y_M_goOn.2.1 310 = .ok (.dup, 1) := by decide +kernel
theorem d_M_goOn_311 : decode Y_M_goOn.2.1 311 = .ok (.getfield 179, 3) := by decide +kernel
theorem d_M_goOn_314 : decode Y_M_goOn.2.1 314 = .ok (.iconst 1, 1) := by decide +kernel
theorem d_M_goOn_315 : decode Y_M_goOn.2.1 315 = .ok (.iadd, 1) := by decide +kernel
theorem d_M_goOn_316 : decode Y_M_goOn.2.1 316 = .ok (.putfield 179, 3) := by decide +kernel
theorem d_M_goOn_319 : decode Y_M_goOn.2.1 319 = .ok (.goto (-60), 3) := by decide +kernel
theorem d_M_goOn_322 : decode Y_M_goOn.2.1 322 = .ok (.aload_n 0, 1) := by decide +kernel
theorem d_M_goOn_323 : decode Y_M_goOn.2.1 323 = .ok (.aload_n 0, 1) := by decide +kernel
theorem d_M_goOn_324 : decode Y_M_goOn.2.1 324 = .ok (.getfield 179, 3) := by decide +kernel
theorem d_M_goOn_327 : decode Y_M_goOn.2.1 327 = .ok (.aload_n 0, 1) := by decide +kernel
theorem d_M_goOn_328 : decode Y_M_goOn.2.1 328 = .ok (.getfield 182, 3) := by decide +kernel
theorem d_M_goOn_331 : decode Y_M_goOn.2.1 331 = .ok (.isub, 1) := by decide +kernel
theorem d_M_goOn_332 : decode Y_M_goOn.2.1 332 = .ok (.iconst 4, 1) := by decide +kernel
theorem d_M_goOn_333 : decode Y_M_goOn.2.1 333 = .ok (.if_icmp .gt 17, 3) := by decide +kernel
theorem d_M_goOn_336 : decode Y_M_goOn.2.1 336 = .ok (.aload_n 0, 1) := by decide +kernel
theorem d_M_goOn_337 : decode Y_M_goOn.2.1 337 = .ok (.aload_n 0, 1) := by decide +kernel
theorem d_M_goOn_338 : decode Y_M_goOn.2.1 338 = .ok (.getfield 179, 3) := by decide +kernel
theorem d_M_goOn_341 : decode Y_M_goOn.2.1 341 = .ok (.invokevirtual 185, 3) := by decide +kernel
theorem d_M_goOn_344 : decode Y_M_goOn.2.1 344 = .ok (.invokestatic 192, 3) := by decide +kernel
theorem d_M_goOn_347 : decode Y_M_goOn.2.1 347 = .ok (.ifCond .eq 7, 3) := by decide +kernel
theorem d_M_goOn_350 : decode Y_M_goOn.2.1 350 = .ok (.iconst 1, 1) := by decide +kernel
theorem d_M_goOn_351 : decode Y_M_goOn.2.1 351 = .ok (.goto 4, 3) := by decide +kernel
theorem d_M_goOn_354 : decode Y_M_goOn.2.1 354 = .ok (.iconst 4, 1) := by decide +kernel
theorem d_M_goOn_355 : decode Y_M_goOn.2.1 355 = .ok (.putfield 189, 3) := by decide +kernel
theorem d_M_goOn_358 : decode Y_M_goOn.2.1 358 = .ok (.goto 19, 3) := by decide +kernel
theorem d_M_goOn_361 : decode Y_M_goOn.2.1 361 = .ok (.aload_n 0, 1) := by decide +kernel
theorem d_M_goOn_362 : decode Y_M_goOn.2.1 362 = .ok (.iload_n 1, 1) := by decide +kernel
theorem d_M_goOn_363 : decode Y_M_goOn.2.1 363 = .ok (.invokestatic 210, 3) := by decide +kernel
theorem d_M_goOn_366 : decode Y_M_goOn.2.1 366 = .ok (.ifCond .eq 7, 3) := by decide +kernel
theorem d_M_goOn_369 : decode Y_M_goOn.2.1 369 = .ok (.iconst 5, 1) := by decide +kernel
theorem d_M_goOn_370 : decode Y_M_goOn.2.1 370 = .ok (.goto 4, 3) := by decide +kernel
theorem d_M_goOn_373 : decode Y_M_goOn.2.1 373 = .ok (.iconst 1, 1) := by decide +kernel
theorem d_M_goOn_374 : decode Y_M_goOn.2.1 374 = .ok (.putfield 189, 3) := by decide +kernel
theorem d_M_goOn_377 : decode Y_M_goOn.2.1 377 = .ok (.return_, 1) := by decide +kernel
theorem e_M_goOn {l : Launch} {G : GT} {d : Nat} {P : MM → Prop} {m : MM}   (H : wfM m → ∀ m1, m1 = up m 70 6 (m 70 7) → (Wq l G false Y_M_goOn d (QV P) 8 [(0, .inr (.inr 70))] [] m1)) : CV l G Y_M_goOn d [.inr (.inr 70)] m P := by
  refine CV.of [(0, .inr (.inr 70))] k_M_goOn.1 (Nat.le_of_ble_eq_true rfl) rfl (Wp.wf (fun hw _ hl hs => ?_))
  have H0 := H hw
  refine Wp.aload_n 0 0 d_M_goOn_0 rfl rfl ?_
  refine Wp.aload_n 0 0 d_M_goOn_1 rfl rfl ?_
  refine Wq.getI 7 rfl d_M_goOn_2 fl_M_179 rfl (Or.inl rfl) ?_
  refine Wq.putI 6 rfl d_M_goOn_5 fl_M_182 (fun _ _ _ h => by cases h; rfl) rfl rfl rfl (fun m1 hm2 => ?_)
  have H3 := H0 m1 hm2
  exact H3
theorem s_M_goOn_8 {l : Launch} {G : GT} {d : Nat} {P : MM → Prop} {m : MM}   (H : wfM m → ((m 70 6) ≥ (m 70 3) → (Wq l G false Y_M_goOn d (QV P) 58 [(0, .inr (.inr 70))] [] m)) ∧ (¬ ((m 70 6) ≥ (m 70 3)) → (∃ (e6 : Nat) (P7 : Int → MM → Prop), e6 < d ∧ CI l G Y_M_sign e6 [.inr (.inr 70), .inl (m 70 6)] m P7 ∧ (∀ z12 m13, P7 z12 m13 → inR z12 → wfM m13 → ((z12 = 32 → ((inR ((m13 70 6) + 1)) ∧ (∀ m24, m24 = up m13 70 6 ((m13 70 6) + 1) → (Wq l G false Y_M_goOn d (QV P) 8 [(0, .inr (.inr 70))] [] m24)))) ∧ (¬ (z12 = 32) → (∃ (e27 : Nat) (P28 : Int → MM → Prop), e27 < d ∧ CI l G Y_M_sign e27 [.inr (.inr 70), .inl (m13 70 6)] m13 P28 ∧ (∀ z33 m34, P28 z33 m34 → inR z33 → wfM m34 → ((z33 ≠ 10 → (Wq l G false Y_M_goOn d (QV P) 58 [(0, .inr (.inr 70))] [] m34)) ∧ (¬ (z33 ≠ 10) → ((inR ((m34 70 6) + 1)) ∧ (∀ m45, m45 = up m34 70 6 ((m34 70 6) + 1) → (Wq l G false Y_M_goOn d (QV P) 8 [(0, .inr (.inr 70))] [] m45))))))))))))) : Wq l G false Y_M_goOn d (QV P) 8 [(0, .inr (.inr 70))] [] m := by
  refine Wp.wf (fun hw _ hl hs => ?_)
  have H0 := H hw
  refine Wp.aload_n 0 0 d_M_goOn_8 rfl rfl ?_
  refine Wq.getI 6 rfl d_M_goOn_9 fl_M_182 rfl (Or.inl rfl) ?_
  refine Wp.aload_n 0 0 d_M_goOn_12 rfl rfl ?_
  refine Wq.getI 3 rfl d_M_goOn_13 fl_M_143 rfl (Or.inl rfl) ?_
  obtain ⟨H2, H3⟩ := H0
  refine Wp.icmp_ge 58 d_M_goOn_16 (by decide) (fun c1 => ?_) (fun c1 => ?_)
  · have H4 := H2 c1
    exact H4
  · have H5 := H3 c1
    refine Wp.aload_n 0 0 d_M_goOn_19 rfl rfl ?_
    refine Wp.aload_n 0 0 d_M_goOn_20 rfl rfl ?_
    refine Wq.getI 6 rfl d_M_goOn_21 fl_M_182 rfl (Or.inl rfl) ?_
    obtain ⟨e6, P7, hd8, ho9, H10⟩ := H5
    refine Wq.VI (st := []) [.inl (m 70 6)] d_M_goOn_24 k_M_sign ml_M_185 rfl rfl rfl (fun h => by cases h) (Nat.le_of_ble_eq_true rfl) hd8 ho9 (fun z12 m13 hp14 hz15 hw16 => ?_)
    have H11 := H10 z12 m13 hp14 hz15 hw16
    refine Wp.bipush d_M_goOn_27 (by decide) (by decide) ?_
    obtain ⟨H18, H19⟩ := H11
    refine Wp.icmp_eq 45 d_M_goOn_29 (by decide) (fun c17 => ?_) (fun c17 => ?_)
    · have H20 := H18 c17
      refine Wp.aload_n 0 0 d_M_goOn_45 rfl rfl ?_
      refine Wp.dup d_M_goOn_46 rfl ?_
      refine Wq.getI 6 rfl d_M_goOn_47 fl_M_182 rfl (Or.inl rfl) ?_
      refine Wp.iconst d_M_goOn_50 (by decide) ?_
      obtain ⟨s22, H23⟩ := H20
      refine Wp.iadd d_M_goOn_51 s22 ?_
      refine Wq.putI 6 rfl d_M_goOn_52 fl_M_182 (fun _ _ _ h => by cases h; rfl) rfl rfl rfl (fun m24 hm25 => ?_)
      have H26 := H23 m24 hm25
      refine Wp.goto 8 d_M_goOn_55 (by decide) ?_
      exact H26
    · have H21 := H19 c17
      refine Wp.aload_n 0 0 d_M_goOn_32 rfl rfl ?_
      refine Wp.aload_n 0 0 d_M_goOn_33 rfl rfl ?_
      refine Wq.getI 6 rfl d_M_goOn_34 fl_M_182 rfl (Or.inl rfl) ?_
      obtain ⟨e27, P28, hd29, ho30, H31⟩ := H21
      refine Wq.VI (st := []) [.inl (m13 70 6)] d_M_goOn_37 k_M_sign ml_M_185 rfl rfl rfl (fun h => by cases h) (Nat.le_of_ble_eq_true rfl) hd29 ho30 (fun z33 m34 hp35 hz36 hw37 => ?_)
      have H32 := H31 z33 m34 hp35 hz36 hw37
      refine Wp.bipush d_M_goOn_40 (by decide) (by decide) ?_
      obtain ⟨H39, H40⟩ := H32
      refine Wp.icmp_ne 58 d_M_goOn_42 (by decide) (fun c38 => ?_) (fun c38 => ?_)
      · have H41 := H39 c38
        exact H41
      · have H42 := H40 c38
        refine Wp.aload_n 0 0 d_M_goOn_45 rfl rfl ?_
        refine Wp.dup d_M_goOn_46 rfl ?_
        refine Wq.getI 6 rfl d_M_goOn_47 fl_M_182 rfl (Or.inl rfl) ?_
        refine Wp.iconst d_M_goOn_50 (by decide) ?_
        obtain ⟨s43, H44⟩ := H42
        refine Wp.iadd d_M_goOn_51 s43 ?_
        refine Wq.putI 6 rfl d_M_goOn_52 fl_M_182 (fun _ _ _ h => by cases h; rfl) rfl rfl rfl (fun m45 hm46 => ?_)
        have H47 := H44 m45 hm46
        refine Wp.goto 8 d_M_goOn_55 (by decide) ?_
        exact H47
theorem s_M_goOn_58 {l : Launch} {G : GT} {d : Nat} {P : MM → Prop} {m : MM}   (H : wfM m → ∃ (e1 : Nat) (P2 : Int → MM → Prop), e1 < d ∧ CI l G Y_M_sign e1 [.inr (.inr 70), .inl (m 70 6)] m P2 ∧ (∀ z7 m8, P2 z7 m8 → inR z7 → wfM m8 → ((inR ((m8 70 6) + 1)) ∧ (∀ m14, m14 = up m8 70 7 ((m8 70 6) + 1) → (((m14 70 6) < (m14 70 3) → (∃ (e22 : Nat) (P23 : Int → MM → Prop), e22 < d ∧ CI l G Y_M_isLetter e22 [.inl z7] m14 P23 ∧ (∀ z28 m29, P23 z28 m29 → inR z28 → wfM m29 → ((z28 = 0 → (∃ (e38 : Nat) (P39 : Int → MM → Prop), e38 < d ∧ CI l G Y_M_isDigit e38 [.inl z7] m29 P39 ∧ (∀ z44 m45, P39 z44 m45 → inR z44 → wfM m45 → ((z44 = 0 → (∃ (e54 : Nat) (P55 : Int → MM → Prop), e54 < d ∧ CI l G Y_M_isSign e54 [.inl z7] m45 P55 ∧ (∀ z60 m61, P55 z60 m61 → inR z60 → wfM m61 → ((z60 = 0 → (∀ m70, m70 = up m61 70 8 1 → (P m70))) ∧ (¬ (z60 = 0) → (∀ m73, m73 = up m61 70 8 5 → (P m73))))))) ∧ (¬ (z44 = 0) → (∀ m76, m76 = up m45 70 9 0 → (∀ m79, m79 = up m76 70 7 (m76 70 6) → (Wq l G false Y_M_goOn d (QV P) 259 [(0, .inr (.inr 70))] [] m79)))))))) ∧ (¬ (z28 = 0) → (Wq l G false Y_M_goOn d (QV P) 119 [(0, .inr (.inr 70))] [] m29)))))) ∧ (¬ ((m14 70 6) < (m14 70 3)) → (∀ m82, m82 = up m14 70 8 0 → (∀ m85, m85 = up m82 70 6 (m82 70 3) → (∀ m88, m88 = up m85 70 7 (m85 70 3) → (P m88)))))))))) : Wq l G false Y_M_goOn d (QV P) 58 [(0, .inr (.inr 70))] [] m := by
  refine Wp.wf (fun hw _ hl hs => ?_)
  have H0 := H hw
  refine Wp.aload_n 0 0 d_M_goOn_58 rfl rfl ?_
  refine Wp.aload_n 0 0 d_M_goOn_59 rfl rfl ?_
  refine Wq.getI 6 rfl d_M_goOn_60 fl_M_182 rfl (Or.inl rfl) ?_
  obtain ⟨e1, P2, hd3, ho4, H5⟩ := H0
  refine Wq.VI (st := []) [.inl (m 70 6)] d_M_goOn_63 k_M_sign ml_M_185 rfl rfl rfl (fun h => by cases h) (Nat.le_of_ble_eq_true rfl) hd3 ho4 (fun z7 m8 hp9 hz10 hw11 => ?_)
  have H6 := H5 z7 m8 hp9 hz10 hw11
  refine Wp.istore_n 1 [(0, .inr (.inr 70)), (1, .inl z7)] d_M_goOn_66 rfl (by decide) rfl ?_
  refine Wp.aload_n 0 0 d_M_goOn_67 rfl rfl ?_
  refine Wp.aload_n 0 0 d_M_goOn_68 rfl rfl ?_
  refine Wq.getI 6 rfl d_M_goOn_69 fl_M_182 rfl (Or.inl rfl) ?_
  refine Wp.iconst d_M_goOn_72 (by decide) ?_
  obtain ⟨s12, H13⟩ := H6
  refine Wp.iadd d_M_goOn_73 s12 ?_
  refine Wq.putI 7 rfl d_M_goOn_74 fl_M_179 (fun _ _ _ h => by cases h; rfl) rfl rfl rfl (fun m14 hm15 => ?_)
  have H16 := H13 m14 hm15
  refine Wp.aload_n 0 0 d_M_goOn_77 rfl rfl ?_
  refine Wq.getI 6 rfl d_M_goOn_78 fl_M_182 rfl (Or.inl rfl) ?_
  refine Wp.aload_n 0 0 d_M_goOn_81 rfl rfl ?_
  refine Wq.getI 3 rfl d_M_goOn_82 fl_M_143 rfl (Or.inl rfl) ?_
  obtain ⟨H18, H19⟩ := H16
  refine Wp.icmp_lt 112 d_M_goOn_85 (by decide) (fun c17 => ?_) (fun c17 => ?_)
  · have H20 := H18 c17
    refine Wp.iload_n 1 1 d_M_goOn_112 rfl rfl ?_
    obtain ⟨e22, P23, hd24, ho25, H26⟩ := H20
    refine Wq.SI (st := []) [.inl z7] d_M_goOn_113 k_M_isLetter ml_M_192 rfl  (fun h => by cases h) (Nat.le_of_ble_eq_true rfl) hd24 ho25 (fun z28 m29 hp30 hz31 hw32 => ?_)
    have H27 := H26 z28 m29 hp30 hz31 hw32
    obtain ⟨H34, H35⟩ := H27
    refine Wp.if_eq 239 d_M_goOn_116 (by decide) (fun c33 => ?_) (fun c33 => ?_)
    · have H36 := H34 c33
      refine Wp.iload_n 1 1 d_M_goOn_239 rfl rfl ?_
      obtain ⟨e38, P39, hd40, ho41, H42⟩ := H36
      refine Wq.SI (st := []) [.inl z7] d_M_goOn_240 k_M_isDigit ml_M_204 rfl  (fun h => by cases h) (Nat.le_of_ble_eq_true rfl) hd40 ho41 (fun z44 m45 hp46 hz47 hw48 => ?_)
      have H43 := H42 z44 m45 hp46 hz47 hw48
      obtain ⟨H50, H51⟩ := H43
      refine Wp.if_eq 361 d_M_goOn_243 (by decide) (fun c49 => ?_) (fun c49 => ?_)
      · have H52 := H50 c49
        refine Wp.aload_n 0 0 d_M_goOn_361 rfl rfl ?_
        refine Wp.iload_n 1 1 d_M_goOn_362 rfl rfl ?_
        obtain ⟨e54, P55, hd56, ho57, H58⟩ := H52
        refine Wq.SI (st := [.inr (.inr 70)]) [.inl z7] d_M_goOn_363 k_M_isSign ml_M_210 rfl  (fun h => by cases h) (Nat.le_of_ble_eq_true rfl) hd56 ho57 (fun z60 m61 hp62 hz63 hw64 => ?_)
        have H59 := H58 z60 m61 hp62 hz63 hw64
        obtain ⟨H66, H67⟩ := H59
        refine Wp.if_eq 373 d_M_goOn_366 (by decide) (fun c65 => ?_) (fun c65 => ?_)
        · have H68 := H66 c65
          refine Wp.iconst d_M_goOn_373 (by decide) ?_
          refine Wq.putI 8 rfl d_M_goOn_374 fl_M_189 (fun _ _ _ h => by cases h; rfl) rfl rfl rfl (fun m70 hm71 => ?_)
          have H72 := H68 m70 hm71
          exact Wq.vret d_M_goOn_377 rfl H72
        · have H69 := H67 c65
          refine Wp.iconst d_M_goOn_369 (by decide) ?_
          refine Wp.goto 374 d_M_goOn_370 (by decide) ?_
          refine Wq.putI 8 rfl d_M_goOn_374 fl_M_189 (fun _ _ _ h => by cases h; rfl) rfl rfl rfl (fun m73 hm74 => ?_)
          have H75 := H69 m73 hm74
          exact Wq.vret d_M_goOn_377 rfl H75
      · have H53 := H51 c49
        refine Wp.aload_n 0 0 d_M_goOn_246 rfl rfl ?_
        refine Wp.iconst d_M_goOn_247 (by decide) ?_
        refine Wq.putI 9 rfl d_M_goOn_248 fl_M_207 (fun _ _ _ h => by cases h; rfl) rfl rfl rfl (fun m76 hm77 => ?_)
        have H78 := H53 m76 hm77
        refine Wp.aload_n 0 0 d_M_goOn_251 rfl rfl ?_
        refine Wp.aload_n 0 0 d_M_goOn_252 rfl rfl ?_
        refine Wq.getI 6 rfl d_M_goOn_253 fl_M_182 rfl (Or.inl rfl) ?_
        refine Wq.putI 7 rfl d_M_goOn_256 fl_M_179 (fun _ _ _ h => by cases h; rfl) rfl rfl rfl (fun m79 hm80 => ?_)
        have H81 := H78 m79 hm80
        refine Wp.pick [0] [(0, .inr (.inr 70))] rfl ?_
        exact H81
    · have H37 := H35 c33
      refine Wp.pick [0] [(0, .inr (.inr 70))] rfl ?_
      exact H37
  · have H21 := H19 c17
    refine Wp.aload_n 0 0 d_M_goOn_88 rfl rfl ?_
    refine Wp.iconst d_M_goOn_89 (by decide) ?_
    refine Wq.putI 8 rfl d_M_goOn_90 fl_M_189 (fun _ _ _ h => by cases h; rfl) rfl rfl rfl (fun m82 hm83 => ?_)
    have H84 := H21 m82 hm83
    refine Wp.aload_n 0 0 d_M_goOn_93 rfl rfl ?_
    refine Wp.aload_n 0 0 d_M_goOn_94 rfl rfl ?_
    refine Wq.getI 3 rfl d_M_goOn_95 fl_M_143 rfl (Or.inl rfl) ?_
    refine Wq.putI 6 rfl d_M_goOn_98 fl_M_182 (fun _ _ _ h => by cases h; rfl) rfl rfl rfl (fun m85 hm86 => ?_)
    have H87 := H84 m85 hm86
    refine Wp.aload_n 0 0 d_M_goOn_101 rfl rfl ?_
    refine Wp.aload_n 0 0 d_M_goOn_102 rfl rfl ?_
    refine Wq.getI 3 rfl d_M_goOn_103 fl_M_143 rfl (Or.inl rfl) ?_
    refine Wq.putI 7 rfl d_M_goOn_106 fl_M_179 (fun _ _ _ h => by cases h; rfl) rfl rfl rfl (fun m88 hm89 => ?_)
    have H90 := H87 m88 hm89
    refine Wp.goto 377 d_M_goOn_109 (by decide) ?_
    exact Wq.vret d_M_goOn_377 rfl H90
theorem s_M_goOn_119 {l : Launch} {G : GT} {d : Nat} {P : MM → Prop} {m : MM}   (H : wfM m → ∃ (e1 : Nat) (P2 : Int → MM → Prop), e1 < d ∧ CI l G Y_M_sign e1 [.inr (.inr 70), .inl (m 70 7)] m P2 ∧ (∀ z7 m8, P2 z7 m8 → inR z7 → wfM m8 → (∃ (e12 : Nat) (P13 : Int → MM → Prop), e12 < d ∧ CI l G Y_M_isLetter e12 [.inl z7] m8 P13 ∧ (∀ z18 m19, P13 z18 m19 → inR z18 → wfM m19 → ((z18 = 0 → (∀ m28, m28 = up m19 70 10 0 → (Wq l G false Y_M_goOn d (QV P) 156 [(0, .inr (.inr 70)), (2, .inl (m28 70 6))] [] m28))) ∧ (¬ (z18 = 0) → ((inR ((m19 70 7) + 1)) ∧ (∀ m33, m33 = up m19 70 7 ((m19 70 7) + 1) → (Wq l G false Y_M_goOn d (QV P) 119 [(0, .inr (.inr 70))] [] m33))))))))) : Wq l G false Y_M_goOn d (QV P) 119 [(0, .inr (.inr 70))] [] m := by
  refine Wp.wf (fun hw _ hl hs => ?_)
  have H0 := H hw
  refine Wp.aload_n 0 0 d_M_goOn_119 rfl rfl ?_
  refine Wp.aload_n 0 0 d_M_goOn_120 rfl rfl ?_
  refine Wq.getI 7 rfl d_M_goOn_121 fl_M_179 rfl (Or.inl rfl) ?_
  obtain ⟨e1, P2, hd3, ho4, H5⟩ := H0
  refine Wq.VI (st := []) [.inl (m 70 7)] d_M_goOn_124 k_M_sign ml_M_185 rfl rfl rfl (fun h => by cases h) (Nat.le_of_ble_eq_true rfl) hd3 ho4 (fun z7 m8 hp9 hz10 hw11 => ?_)
  have H6 := H5 z7 m8 hp9 hz10 hw11
  obtain ⟨e12, P13, hd14, ho15, H16⟩ := H6
  refine Wq.SI (st := []) [.inl z7] d_M_goOn_127 k_M_isLetter ml_M_192 rfl  (fun h => by cases h) (Nat.le_of_ble_eq_true rfl) hd14 ho15 (fun z18 m19 hp20 hz21 hw22 => ?_)
  have H17 := H16 z18 m19 hp20 hz21 hw22
  obtain ⟨H24, H25⟩ := H17
  refine Wp.if_eq 146 d_M_goOn_130 (by decide) (fun c23 => ?_) (fun c23 => ?_)
  · have H26 := H24 c23
    refine Wp.aload_n 0 0 d_M_goOn_146 rfl rfl ?_
    refine Wp.lconst (x := 0) d_M_goOn_147 (by decide) (by decide) ?_
    refine Wq.putL 10 rfl d_M_goOn_148 fl_M_196 (fun _ _ _ h => by cases h; rfl) rfl rfl rfl (fun m28 hm29 => ?_)
    have H30 := H26 m28 hm29
    refine Wp.aload_n 0 0 d_M_goOn_151 rfl rfl ?_
    refine Wq.getI 6 rfl d_M_goOn_152 fl_M_182 rfl (Or.inl rfl) ?_
    refine Wp.istore_n 2 [(0, .inr (.inr 70)), (2, .inl (m28 70 6))] d_M_goOn_155 rfl (by decide) rfl ?_
    exact H30
  · have H27 := H25 c23
    refine Wp.aload_n 0 0 d_M_goOn_133 rfl rfl ?_
    refine Wp.dup d_M_goOn_134 rfl ?_
    refine Wq.getI 7 rfl d_M_goOn_135 fl_M_179 rfl (Or.inl rfl) ?_
    refine Wp.iconst d_M_goOn_138 (by decide) ?_
    obtain ⟨s31, H32⟩ := H27
    refine Wp.iadd d_M_goOn_139 s31 ?_
    refine Wq.putI 7 rfl d_M_goOn_140 fl_M_179 (fun _ _ _ h => by cases h; rfl) rfl rfl rfl (fun m33 hm34 => ?_)
    have H35 := H32 m33 hm34
    refine Wp.goto 119 d_M_goOn_143 (by decide) ?_
    exact H35
theorem s_M_goOn_156 {l : Launch} {G : GT} {d : Nat} {P : MM → Prop} {m : MM} (x2 : Int)  (H : wfM m → inR x2 → (x2 ≥ (m 70 7) → ((inR ((m 70 7) - (m 70 6))) ∧ ((((m 70 7) - (m 70 6)) ≤ 8 → (∃ (e13 : Nat) (P14 : Int → MM → Prop), e13 < d ∧ CI l G Y_M_isKept e13 [.inr (.inl (m 70 10))] m P14 ∧ (∀ z19 m20, P14 z19 m20 → inR z19 → wfM m20 → ((z19 = 0 → (∀ m29, m29 = up m20 70 8 2 → (P m29))) ∧ (¬ (z19 = 0) → (∀ m32, m32 = up m20 70 8 3 → (P m32))))))) ∧ (¬ (((m 70 7) - (m 70 6)) ≤ 8) → (∀ m35, m35 = up m 70 8 1 → (P m35)))))) ∧ (¬ (x2 ≥ (m 70 7)) → ((inR ((m 70 6) + 8)) ∧ ((x2 ≥ ((m 70 6) + 8) → ((inR ((m 70 7) - (m 70 6))) ∧ ((((m 70 7) - (m 70 6)) ≤ 8 → (∃ (e52 : Nat) (P53 : Int → MM → Prop), e52 < d ∧ CI l G Y_M_isKept e52 [.inr (.inl (m 70 10))] m P53 ∧ (∀ z58 m59, P53 z58 m59 → inR z58 → wfM m59 → ((z58 = 0 → (∀ m68, m68 = up m59 70 8 2 → (P m68))) ∧ (¬ (z58 = 0) → (∀ m71, m71 = up m59 70 8 3 → (P m71))))))) ∧ (¬ (((m 70 7) - (m 70 6)) ≤ 8) → (∀ m74, m74 = up m 70 8 1 → (P m74)))))) ∧ (¬ (x2 ≥ ((m 70 6) + 8)) → (∃ (e77 : Nat) (P78 : Int → MM → Prop), e77 < d ∧ CI l G Y_M_sign e77 [.inr (.inr 70), .inl x2] m P78 ∧ (∀ z83 m84, P78 z83 m84 → inR z83 → wfM m84 → (∀ m88, m88 = up m84 70 10 (bLor (bLshl (m 70 10) 8) z83) → ((inR (x2 + 1)) ∧ (Wq l G false Y_M_goOn d (QV P) 156 [(0, .inr (.inr 70)), (2, .inl (x2 + 1))] [] m88)))))))))) : Wq l G false Y_M_goOn d (QV P) 156 [(0, .inr (.inr 70)), (2, .inl x2)] [] m := by
  refine Wp.wf (fun hw _ hl hs => ?_)
  have H0 := H hw (hl _ (List.mem_of_getElem? (i := 1) rfl))
  refine Wp.iload_n 1 2 d_M_goOn_156 rfl rfl ?_
  refine Wp.aload_n 0 0 d_M_goOn_157 rfl rfl ?_
  refine Wq.getI 7 rfl d_M_goOn_158 fl_M_179 rfl (Or.inl rfl) ?_
  obtain ⟨H2, H3⟩ := H0
  refine Wp.icmp_ge 199 d_M_goOn_161 (by decide) (fun c1 => ?_) (fun c1 => ?_)
  · have H4 := H2 c1
    refine Wp.aload_n 0 0 d_M_goOn_199 rfl rfl ?_
    refine Wp.aload_n 0 0 d_M_goOn_200 rfl rfl ?_
    refine Wq.getI 7 rfl d_M_goOn_201 fl_M_179 rfl (Or.inl rfl) ?_
    refine Wp.aload_n 0 0 d_M_goOn_204 rfl rfl ?_
    refine Wq.getI 6 rfl d_M_goOn_205 fl_M_182 rfl (Or.inl rfl) ?_
    obtain ⟨s6, H7⟩ := H4
    refine Wp.isub d_M_goOn_208 s6 ?_
    refine Wp.bipush d_M_goOn_209 (by decide) (by decide) ?_
    obtain ⟨H9, H10⟩ := H7
    refine Wp.icmp_le 218 d_M_goOn_211 (by decide) (fun c8 => ?_) (fun c8 => ?_)
    · have H11 := H9 c8
      refine Wp.aload_n 0 0 d_M_goOn_218 rfl rfl ?_
      refine Wq.getL 10 rfl d_M_goOn_219 fl_M_196 rfl rfl ?_
      obtain ⟨e13, P14, hd15, ho16, H17⟩ := H11
      refine Wq.SI (st := [.inr (.inr 70)]) [.inr (.inl (m 70 10))] d_M_goOn_222 k_M_isKept ml_M_200 rfl  (fun h => by cases h) (Nat.le_of_ble_eq_true rfl) hd15 ho16 (fun z19 m20 hp21 hz22 hw23 => ?_)
      have H18 := H17 z19 m20 hp21 hz22 hw23
      obtain ⟨H25, H26⟩ := H18
      refine Wp.if_eq 232 d_M_goOn_225 (by decide) (fun c24 => ?_) (fun c24 => ?_)
      · have H27 := H25 c24
        refine Wp.iconst d_M_goOn_232 (by decide) ?_
        refine Wq.putI 8 rfl d_M_goOn_233 fl_M_189 (fun _ _ _ h => by cases h; rfl) rfl rfl rfl (fun m29 hm30 => ?_)
        have H31 := H27 m29 hm30
        refine Wp.goto 377 d_M_goOn_236 (by decide) ?_
        exact Wq.vret d_M_goOn_377 rfl H31
      · have H28 := H26 c24
        refine Wp.iconst d_M_goOn_228 (by decide) ?_
        refine Wp.goto 233 d_M_goOn_229 (by decide) ?_
        refine Wq.putI 8 rfl d_M_goOn_233 fl_M_189 (fun _ _ _ h => by cases h; rfl) rfl rfl rfl (fun m32 hm33 => ?_)
        have H34 := H28 m32 hm33
        refine Wp.goto 377 d_M_goOn_236 (by decide) ?_
        exact Wq.vret d_M_goOn_377 rfl H34
    · have H12 := H10 c8
      refine Wp.iconst d_M_goOn_214 (by decide) ?_
      refine Wp.goto 233 d_M_goOn_215 (by decide) ?_
      refine Wq.putI 8 rfl d_M_goOn_233 fl_M_189 (fun _ _ _ h => by cases h; rfl) rfl rfl rfl (fun m35 hm36 => ?_)
      have H37 := H12 m35 hm36
      refine Wp.goto 377 d_M_goOn_236 (by decide) ?_
      exact Wq.vret d_M_goOn_377 rfl H37
  · have H5 := H3 c1
    refine Wp.iload_n 1 2 d_M_goOn_164 rfl rfl ?_
    refine Wp.aload_n 0 0 d_M_goOn_165 rfl rfl ?_
    refine Wq.getI 6 rfl d_M_goOn_166 fl_M_182 rfl (Or.inl rfl) ?_
    refine Wp.bipush d_M_goOn_169 (by decide) (by decide) ?_
    obtain ⟨s38, H39⟩ := H5
    refine Wp.iadd d_M_goOn_171 s38 ?_
    obtain ⟨H41, H42⟩ := H39
    refine Wp.icmp_ge 199 d_M_goOn_172 (by decide) (fun c40 => ?_) (fun c40 => ?_)
    · have H43 := H41 c40
      refine Wp.aload_n 0 0 d_M_goOn_199 rfl rfl ?_
      refine Wp.aload_n 0 0 d_M_goOn_200 rfl rfl ?_
      refine Wq.getI 7 rfl d_M_goOn_201 fl_M_179 rfl (Or.inl rfl) ?_
      refine Wp.aload_n 0 0 d_M_goOn_204 rfl rfl ?_
      refine Wq.getI 6 rfl d_M_goOn_205 fl_M_182 rfl (Or.inl rfl) ?_
      obtain ⟨s45, H46⟩ := H43
      refine Wp.isub d_M_goOn_208 s45 ?_
      refine Wp.bipush d_M_goOn_209 (by decide) (by decide) ?_
      obtain ⟨H48, H49⟩ := H46
      refine Wp.icmp_le 218 d_M_goOn_211 (by decide) (fun c47 => ?_) (fun c47 => ?_)
      · have H50 := H48 c47
        refine Wp.aload_n 0 0 d_M_goOn_218 rfl rfl ?_
        refine Wq.getL 10 rfl d_M_goOn_219 fl_M_196 rfl rfl ?_
        obtain ⟨e52, P53, hd54, ho55, H56⟩ := H50
        refine Wq.SI (st := [.inr (.inr 70)]) [.inr (.inl (m 70 10))] d_M_goOn_222 k_M_isKept ml_M_200 rfl  (fun h => by cases h) (Nat.le_of_ble_eq_true rfl) hd54 ho55 (fun z58 m59 hp60 hz61 hw62 => ?_)
        have H57 := H56 z58 m59 hp60 hz61 hw62
        obtain ⟨H64, H65⟩ := H57
        refine Wp.if_eq 232 d_M_goOn_225 (by decide) (fun c63 => ?_) (fun c63 => ?_)
        · have H66 := H64 c63
          refine Wp.iconst d_M_goOn_232 (by decide) ?_
          refine Wq.putI 8 rfl d_M_goOn_233 fl_M_189 (fun _ _ _ h => by cases h; rfl) rfl rfl rfl (fun m68 hm69 => ?_)
          have H70 := H66 m68 hm69
          refine Wp.goto 377 d_M_goOn_236 (by decide) ?_
          exact Wq.vret d_M_goOn_377 rfl H70
        · have H67 := H65 c63
          refine Wp.iconst d_M_goOn_228 (by decide) ?_
          refine Wp.goto 233 d_M_goOn_229 (by decide) ?_
          refine Wq.putI 8 rfl d_M_goOn_233 fl_M_189 (fun _ _ _ h => by cases h; rfl) rfl rfl rfl (fun m71 hm72 => ?_)
          have H73 := H67 m71 hm72
          refine Wp.goto 377 d_M_goOn_236 (by decide) ?_
          exact Wq.vret d_M_goOn_377 rfl H73
      · have H51 := H49 c47
        refine Wp.iconst d_M_goOn_214 (by decide) ?_
        refine Wp.goto 233 d_M_goOn_215 (by decide) ?_
        refine Wq.putI 8 rfl d_M_goOn_233 fl_M_189 (fun _ _ _ h => by cases h; rfl) rfl rfl rfl (fun m74 hm75 => ?_)
        have H76 := H51 m74 hm75
        refine Wp.goto 377 d_M_goOn_236 (by decide) ?_
        exact Wq.vret d_M_goOn_377 rfl H76
    · have H44 := H42 c40
      refine Wp.aload_n 0 0 d_M_goOn_175 rfl rfl ?_
      refine Wp.aload_n 0 0 d_M_goOn_176 rfl rfl ?_
      refine Wq.getL 10 rfl d_M_goOn_177 fl_M_196 rfl rfl ?_
      refine Wp.bipush d_M_goOn_180 (by decide) (by decide) ?_
      refine Wp.lshl d_M_goOn_182 ?_
      refine Wp.aload_n 0 0 d_M_goOn_183 rfl rfl ?_
      refine Wp.iload_n 1 2 d_M_goOn_184 rfl rfl ?_
      obtain ⟨e77, P78, hd79, ho80, H81⟩ := H44
      refine Wq.VI (st := [.inr (.inl (bLshl (m 70 10) 8)), .inr (.inr 70)]) [.inl x2] d_M_goOn_185 k_M_sign ml_M_185 rfl rfl rfl (fun h => by cases h) (Nat.le_of_ble_eq_true rfl) hd79 ho80 (fun z83 m84 hp85 hz86 hw87 => ?_)
      have H82 := H81 z83 m84 hp85 hz86 hw87
      refine Wp.i2l d_M_goOn_188 ?_
      refine Wp.lor d_M_goOn_189 ?_
      refine Wq.putL 10 rfl d_M_goOn_190 fl_M_196 (fun _ _ _ h => by cases h; rfl) rfl rfl rfl (fun m88 hm89 => ?_)
      have H90 := H82 m88 hm89
      obtain ⟨s91, H92⟩ := H90
      refine Wp.iinc 1 2 [(0, .inr (.inr 70)), (2, .inl (x2 + 1))] d_M_goOn_193 rfl s91 (by decide) rfl ?_
      refine Wp.goto 156 d_M_goOn_196 (by decide) ?_
      exact H92
theorem s_M_goOn_259 {l : Launch} {G : GT} {d : Nat} {P : MM → Prop} {m : MM}   (H : wfM m → ∃ (e1 : Nat) (P2 : Int → MM → Prop), e1 < d ∧ CI l G Y_M_sign e1 [.inr (.inr 70), .inl (m 70 7)] m P2 ∧ (∀ z7 m8, P2 z7 m8 → inR z7 → wfM m8 → (∃ (e12 : Nat) (P13 : Int → MM → Prop), e12 < d ∧ CI l G Y_M_isDigit e12 [.inl z7] m8 P13 ∧ (∀ z18 m19, P13 z18 m19 → inR z18 → wfM m19 → ((z18 = 0 → ((inR ((m19 70 7) - (m19 70 6))) ∧ ((((m19 70 7) - (m19 70 6)) > 4 → (∀ m35, m35 = up m19 70 8 1 → (P m35))) ∧ (¬ (((m19 70 7) - (m19 70 6)) > 4) → (∃ (e38 : Nat) (P39 : Int → MM → Prop), e38 < d ∧ CI l G Y_M_sign e38 [.inr (.inr 70), .inl (m19 70 7)] m19 P39 ∧ (∀ z44 m45, P39 z44 m45 → inR z44 → wfM m45 → (∃ (e49 : Nat) (P50 : Int → MM → Prop), e49 < d ∧ CI l G Y_M_isLetter e49 [.inl z44] m45 P50 ∧ (∀ z55 m56, P50 z55 m56 → inR z55 → wfM m56 → ((z55 = 0 → (∀ m65, m65 = up m56 70 8 4 → (P m65))) ∧ (¬ (z55 = 0) → (∀ m68, m68 = up m56 70 8 1 → (P m68)))))))))))) ∧ (¬ (z18 = 0) → ((inR ((m19 70 7) - (m19 70 6))) ∧ ((((m19 70 7) - (m19 70 6)) ≥ 4 → ((inR ((m19 70 7) + 1)) ∧ (∀ m80, m80 = up m19 70 7 ((m19 70 7) + 1) → (Wq l G false Y_M_goOn d (QV P) 259 [(0, .inr (.inr 70))] [] m80)))) ∧ (¬ (((m19 70 7) - (m19 70 6)) ≥ 4) → ((inR (10 * (m19 70 9))) ∧ (∃ (e85 : Nat) (P86 : Int → MM → Prop), e85 < d ∧ CI l G Y_M_sign e85 [.inr (.inr 70), .inl (m19 70 7)] m19 P86 ∧ (∀ z91 m92, P86 z91 m92 → inR z91 → wfM m92 → ((inR ((10 * (m19 70 9)) + z91)) ∧ ((inR (((10 * (m19 70 9)) + z91) - 48)) ∧ (∀ m100, m100 = up m92 70 9 (((10 * (m19 70 9)) + z91) - 48) → ((inR ((m100 70 7) + 1)) ∧ (∀ m105, m105 = up m100 70 7 ((m100 70 7) + 1) → (Wq l G false Y_M_goOn d (QV P) 259 [(0, .inr (.inr 70))] [] m105)))))))))))))))))) : Wq l G false Y_M_goOn d (QV P) 259 [(0, .inr (.inr 70))] [] m := by
  refine Wp.wf (fun hw _ hl hs => ?_)
  have H0 := H hw
  refine Wp.aload_n 0 0 d_M_goOn_259 rfl rfl ?_
  refine Wp.aload_n 0 0 d_M_goOn_260 rfl rfl ?_
  refine Wq.getI 7 rfl d_M_goOn_261 fl_M_179 rfl (Or.inl rfl) ?_
  obtain ⟨e1, P2, hd3, ho4, H5⟩ := H0
  refine Wq.VI (st := []) [.inl (m 70 7)] d_M_goOn_264 k_M_sign ml_M_185 rfl rfl rfl (fun h => by cases h) (Nat.le_of_ble_eq_true rfl) hd3 ho4 (fun z7 m8 hp9 hz10 hw11 => ?_)
  have H6 := H5 z7 m8 hp9 hz10 hw11
  obtain ⟨e12, P13, hd14, ho15, H16⟩ := H6
  refine Wq.SI (st := []) [.inl z7] d_M_goOn_267 k_M_isDigit ml_M_204 rfl  (fun h => by cases h) (Nat.le_of_ble_eq_true rfl) hd14 ho15 (fun z18 m19 hp20 hz21 hw22 => ?_)
  have H17 := H16 z18 m19 hp20 hz21 hw22
  obtain ⟨H24, H25⟩ := H17
  refine Wp.if_eq 322 d_M_goOn_270 (by decide) (fun c23 => ?_) (fun c23 => ?_)
  · have H26 := H24 c23
    refine Wp.aload_n 0 0 d_M_goOn_322 rfl rfl ?_
    refine Wp.aload_n 0 0 d_M_goOn_323 rfl rfl ?_
    refine Wq.getI 7 rfl d_M_goOn_324 fl_M_179 rfl (Or.inl rfl) ?_
    refine Wp.aload_n 0 0 d_M_goOn_327 rfl rfl ?_
    refine Wq.getI 6 rfl d_M_goOn_328 fl_M_182 rfl (Or.inl rfl) ?_
    obtain ⟨s28, H29⟩ := H26
    refine Wp.isub d_M_goOn_331 s28 ?_
    refine Wp.iconst d_M_goOn_332 (by decide) ?_
    obtain ⟨H31, H32⟩ := H29
    refine Wp.icmp_gt 350 d_M_goOn_333 (by decide) (fun c30 => ?_) (fun c30 => ?_)
    · have H33 := H31 c30
      refine Wp.iconst d_M_goOn_350 (by decide) ?_
      refine Wp.goto 355 d_M_goOn_351 (by decide) ?_
      refine Wq.putI 8 rfl d_M_goOn_355 fl_M_189 (fun _ _ _ h => by cases h; rfl) rfl rfl rfl (fun m35 hm36 => ?_)
      have H37 := H33 m35 hm36
      refine Wp.goto 377 d_M_goOn_358 (by decide) ?_
      exact Wq.vret d_M_goOn_377 rfl H37
    · have H34 := H32 c30
      refine Wp.aload_n 0 0 d_M_goOn_336 rfl rfl ?_
      refine Wp.aload_n 0 0 d_M_goOn_337 rfl rfl ?_
      refine Wq.getI 7 rfl d_M_goOn_338 fl_M_179 rfl (Or.inl rfl) ?_
      obtain ⟨e38, P39, hd40, ho41, H42⟩ := H34
      refine Wq.VI (st := [.inr (.inr 70)]) [.inl (m19 70 7)] d_M_goOn_341 k_M_sign ml_M_185 rfl rfl rfl (fun h => by cases h) (Nat.le_of_ble_eq_true rfl) hd40 ho41 (fun z44 m45 hp46 hz47 hw48 => ?_)
      have H43 := H42 z44 m45 hp46 hz47 hw48
      obtain ⟨e49, P50, hd51, ho52, H53⟩ := H43
      refine Wq.SI (st := [.inr (.inr 70)]) [.inl z44] d_M_goOn_344 k_M_isLetter ml_M_192 rfl  (fun h => by cases h) (Nat.le_of_ble_eq_true rfl) hd51 ho52 (fun z55 m56 hp57 hz58 hw59 => ?_)
      have H54 := H53 z55 m56 hp57 hz58 hw59
      obtain ⟨H61, H62⟩ := H54
      refine Wp.if_eq 354 d_M_goOn_347 (by decide) (fun c60 => ?_) (fun c60 => ?_)
      · have H63 := H61 c60
        refine Wp.iconst d_M_goOn_354 (by decide) ?_
        refine Wq.putI 8 rfl d_M_goOn_355 fl_M_189 (fun _ _ _ h => by cases h; rfl) rfl rfl rfl (fun m65 hm66 => ?_)
        have H67 := H63 m65 hm66
        refine Wp.goto 377 d_M_goOn_358 (by decide) ?_
        exact Wq.vret d_M_goOn_377 rfl H67
      · have H64 := H62 c60
        refine Wp.iconst d_M_goOn_350 (by decide) ?_
        refine Wp.goto 355 d_M_goOn_351 (by decide) ?_
        refine Wq.putI 8 rfl d_M_goOn_355 fl_M_189 (fun _ _ _ h => by cases h; rfl) rfl rfl rfl (fun m68 hm69 => ?_)
        have H70 := H64 m68 hm69
        refine Wp.goto 377 d_M_goOn_358 (by decide) ?_
        exact Wq.vret d_M_goOn_377 rfl H70
  · have H27 := H25 c23
    refine Wp.aload_n 0 0 d_M_goOn_273 rfl rfl ?_
    refine Wq.getI 7 rfl d_M_goOn_274 fl_M_179 rfl (Or.inl rfl) ?_
    refine Wp.aload_n 0 0 d_M_goOn_277 rfl rfl ?_
    refine Wq.getI 6 rfl d_M_goOn_278 fl_M_182 rfl (Or.inl rfl) ?_
    obtain ⟨s71, H72⟩ := H27
    refine Wp.isub d_M_goOn_281 s71 ?_
    refine Wp.iconst d_M_goOn_282 (by decide) ?_
    obtain ⟨H74, H75⟩ := H72
    refine Wp.icmp_ge 309 d_M_goOn_283 (by decide) (fun c73 => ?_) (fun c73 => ?_)
    · have H76 := H74 c73
      refine Wp.aload_n 0 0 d_M_goOn_309 rfl rfl ?_
      refine Wp.dup d_M_goOn_310 rfl ?_
      refine Wq.getI 7 rfl d_M_goOn_311 fl_M_179 rfl (Or.inl rfl) ?_
      refine Wp.iconst d_M_goOn_314 (by decide) ?_
      obtain ⟨s78, H79⟩ := H76
      refine Wp.iadd d_M_goOn_315 s78 ?_
      refine Wq.putI 7 rfl d_M_goOn_316 fl_M_179 (fun _ _ _ h => by cases h; rfl) rfl rfl rfl (fun m80 hm81 => ?_)
      have H82 := H79 m80 hm81
      refine Wp.goto 259 d_M_goOn_319 (by decide) ?_
      exact H82
    · have H77 := H75 c73
      refine Wp.aload_n 0 0 d_M_goOn_286 rfl rfl ?_
      refine Wp.bipush d_M_goOn_287 (by decide) (by decide) ?_
      refine Wp.aload_n 0 0 d_M_goOn_289 rfl rfl ?_
      refine Wq.getI 9 rfl d_M_goOn_290 fl_M_207 rfl (Or.inl rfl) ?_
      obtain ⟨s83, H84⟩ := H77
      refine Wp.imul d_M_goOn_293 s83 ?_
      refine Wp.aload_n 0 0 d_M_goOn_294 rfl rfl ?_
      refine Wp.aload_n 0 0 d_M_goOn_295 rfl rfl ?_
      refine Wq.getI 7 rfl d_M_goOn_296 fl_M_179 rfl (Or.inl rfl) ?_
      obtain ⟨e85, P86, hd87, ho88, H89⟩ := H84
      refine Wq.VI (st := [.inl (10 * (m19 70 9)), .inr (.inr 70)]) [.inl (m19 70 7)] d_M_goOn_299 k_M_sign ml_M_185 rfl rfl rfl (fun h => by cases h) (Nat.le_of_ble_eq_true rfl) hd87 ho88 (fun z91 m92 hp93 hz94 hw95 => ?_)
      have H90 := H89 z91 m92 hp93 hz94 hw95
      obtain ⟨s96, H97⟩ := H90
      refine Wp.iadd d_M_goOn_302 s96 ?_
      refine Wp.bipush d_M_goOn_303 (by decide) (by decide) ?_
      obtain ⟨s98, H99⟩ := H97
      refine Wp.isub d_M_goOn_305 s98 ?_
      refine Wq.putI 9 rfl d_M_goOn_306 fl_M_207 (fun _ _ _ h => by cases h; rfl) rfl rfl rfl (fun m100 hm101 => ?_)
      have H102 := H99 m100 hm101
      refine Wp.aload_n 0 0 d_M_goOn_309 rfl rfl ?_
      refine Wp.dup d_M_goOn_310 rfl ?_
      refine Wq.getI 7 rfl d_M_goOn_311 fl_M_179 rfl (Or.inl rfl) ?_
      refine Wp.iconst d_M_goOn_314 (by decide) ?_
      obtain ⟨s103, H104⟩ := H102
      refine Wp.iadd d_M_goOn_315 s103 ?_
      refine Wq.putI 7 rfl d_M_goOn_316 fl_M_179 (fun _ _ _ h => by cases h; rfl) rfl rfl rfl (fun m105 hm106 => ?_)
      have H107 := H104 m105 hm106
      refine Wp.goto 259 d_M_goOn_319 (by decide) ?_
      exact H107
theorem d_M_sign_0 : decode Y_M_sign.2.1 0 = .ok (.iload_n 1, 1) := by decide +kernel
theorem d_M_sign_1 : decode Y_M_sign.2.1 1 = .ok (.aload_n 0, 1) := by decide +kernel
theorem d_M_sign_2 : decode Y_M_sign.2.1 2 = .ok (.getfield 143, 3) := by decide +kernel
theorem d_M_sign_5 : decode Y_M_sign.2.1 5 = .ok (.if_icmp .ge 16, 3) := by decide +kernel
theorem d_M_sign_8 : decode Y_M_sign.2.1 8 = .ok (.aload_n 0, 1) := by decide +kernel
theorem d_M_sign_9 : decode Y_M_sign.2.1 9 = .ok (.getfield 13, 3) := by decide +kernel
theorem d_M_sign_12 : decode Y_M_sign.2.1 12 = .ok (.iload_n 1, 1) := by decide +kernel
theorem d_M_sign_13 : decode Y_M_sign.2.1 13 = .ok (.baload, 1) := by decide +kernel
theorem d_M_sign_14 : decode Y_M_sign.2.1 14 = .ok (.sipush 255, 3) := by decide +kernel
theorem d_M_sign_17 : decode Y_M_sign.2.1 17 = .ok (.iand, 1) := by decide +kernel
theorem d_M_sign_18 : decode Y_M_sign.2.1 18 = .ok (.goto 4, 3) := by decide +kernel
theorem d_M_sign_21 : decode Y_M_sign.2.1 21 = .ok (.iconst 0, 1) := by decide +kernel
theorem d_M_sign_22 : decode Y_M_sign.2.1 22 = .ok (.ireturn, 1) := by decide +kernel
theorem e_M_sign {l : Launch} {G : GT} {d : Nat} {P : Int → MM → Prop} {m : MM} (x1 : Int)  (H : wfM m → inR x1 → (x1 ≥ (m 70 3) → (P 0 m)) ∧ (¬ (x1 ≥ (m 70 3)) → ((0 ≤ x1 ∧ x1 < (1600 : Int)) ∧ (P (bAnd (m 72 x1) 255) m)))) : CI l G Y_M_sign d [.inr (.inr 70), .inl x1] m P := by
  refine CI.of [(0, .inr (.inr 70)), (1, .inl x1)] k_M_sign.1 (Nat.le_of_ble_eq_true rfl) rfl (Wp.wf (fun hw _ hl hs => ?_))
  have H0 := H hw (hl _ (List.mem_of_getElem? (i := 1) rfl))
  refine Wp.iload_n 1 1 d_M_sign_0 rfl rfl ?_
  refine Wp.aload_n 0 0 d_M_sign_1 rfl rfl ?_
  refine Wq.getI 3 rfl d_M_sign_2 fl_M_143 rfl (Or.inl rfl) ?_
  obtain ⟨H2, H3⟩ := H0
  refine Wp.icmp_ge 21 d_M_sign_5 (by decide) (fun c1 => ?_) (fun c1 => ?_)
  · have H4 := H2 c1
    refine Wp.iconst d_M_sign_21 (by decide) ?_
    exact Wq.iret d_M_sign_22 rfl H4
  · have H5 := H3 c1
    refine Wp.aload_n 0 0 d_M_sign_8 rfl rfl ?_
    refine Wp.getP 72 d_M_sign_9 fl_M_13 rfl rfl rfl ?_
    refine Wp.iload_n 1 1 d_M_sign_12 rfl rfl ?_
    obtain ⟨s6, H7⟩ := H5
    refine Wp.bald d_M_sign_13 rfl (Or.inl rfl) s6.1 s6.2 ?_
    refine Wp.sipush d_M_sign_14 (by decide) (by decide) ?_
    refine Wp.iand d_M_sign_17 ?_
    refine Wp.goto 22 d_M_sign_18 (by decide) ?_
    exact Wq.iret d_M_sign_22 rfl H7
theorem d_M_isLetter_0 : decode Y_M_isLetter.2.1 0 = .ok (.iload_n 0, 1) := by decide +kernel
theorem d_M_isLetter_1 : decode Y_M_isLetter.2.1 1 = .ok (.bipush 97, 2) := by decide +kernel
theorem d_M_isLetter_3 : decode Y_M_isLetter.2.1 3 = .ok (.if_icmp .lt 13, 3) := by decide +kernel
theorem d_M_isLetter_6 : decode Y_M_isLetter.2.1 6 = .ok (.iload_n 0, 1) := by decide +kernel
theorem d_M_isLetter_7 : decode Y_M_isLetter.2.1 7 = .ok (.bipush 122, 2) := by decide +kernel
theorem d_M_isLetter_9 : decode Y_M_isLetter.2.1 9 = .ok (.if_icmp .gt 7, 3) := by decide +kernel
theorem d_M_isLetter_12 : decode Y_M_isLetter.2.1 12 = .ok (.iconst 1, 1) := by decide +kernel
theorem d_M_isLetter_13 : decode Y_M_isLetter.2.1 13 = .ok (.goto 4, 3) := by decide +kernel
theorem d_M_isLetter_16 : decode Y_M_isLetter.2.1 16 = .ok (.iconst 0, 1) := by decide +kernel
theorem d_M_isLetter_17 : decode Y_M_isLetter.2.1 17 = .ok (.ireturn, 1) := by decide +kernel
theorem e_M_isLetter {l : Launch} {G : GT} {d : Nat} {P : Int → MM → Prop} {m : MM} (x0 : Int)  (H : wfM m → inR x0 → (x0 < 97 → (P 0 m)) ∧ (¬ (x0 < 97) → ((x0 > 122 → (P 0 m)) ∧ (¬ (x0 > 122) → (P 1 m))))) : CI l G Y_M_isLetter d [.inl x0] m P := by
  refine CI.of [(0, .inl x0)] k_M_isLetter.1 (Nat.le_of_ble_eq_true rfl) rfl (Wp.wf (fun hw _ hl hs => ?_))
  have H0 := H hw (hl _ (List.mem_of_getElem? (i := 0) rfl))
  refine Wp.iload_n 0 0 d_M_isLetter_0 rfl rfl ?_
  refine Wp.bipush d_M_isLetter_1 (by decide) (by decide) ?_
  obtain ⟨H2, H3⟩ := H0
  refine Wp.icmp_lt 16 d_M_isLetter_3 (by decide) (fun c1 => ?_) (fun c1 => ?_)
  · have H4 := H2 c1
    refine Wp.iconst d_M_isLetter_16 (by decide) ?_
    exact Wq.zret d_M_isLetter_17 rfl (by decide) H4
  · have H5 := H3 c1
    refine Wp.iload_n 0 0 d_M_isLetter_6 rfl rfl ?_
    refine Wp.bipush d_M_isLetter_7 (by decide) (by decide) ?_
    obtain ⟨H7, H8⟩ := H5
    refine Wp.icmp_gt 16 d_M_isLetter_9 (by decide) (fun c6 => ?_) (fun c6 => ?_)
    · have H9 := H7 c6
      refine Wp.iconst d_M_isLetter_16 (by decide) ?_
      exact Wq.zret d_M_isLetter_17 rfl (by decide) H9
    · have H10 := H8 c6
      refine Wp.iconst d_M_isLetter_12 (by decide) ?_
      refine Wp.goto 17 d_M_isLetter_13 (by decide) ?_
      exact Wq.zret d_M_isLetter_17 rfl (by decide) H10
theorem d_M_isKept_0 : decode Y_M_isKept.2.1 0 = .ok (.lload_n 0, 1) := by decide +kernel
theorem d_M_isKept_1 : decode Y_M_isKept.2.1 1 = .ok (.ldc2_w 149, 3) := by decide +kernel
theorem d_M_isKept_4 : decode Y_M_isKept.2.1 4 = .ok (.lcmp, 1) := by decide +kernel
theorem d_M_isKept_5 : decode Y_M_isKept.2.1 5 = .ok (.ifCond .eq 59, 3) := by decide +kernel
theorem d_M_isKept_8 : decode Y_M_isKept.2.1 8 = .ok (.lload_n 0, 1) := by decide +kernel
theorem d_M_isKept_9 : decode Y_M_isKept.2.1 9 = .ok (.ldc2_w 151, 3) := by decide +kernel
theorem d_M_isKept_12 : decode Y_M_isKept.2.1 12 = .ok (.lcmp, 1) := by decide +kernel
theorem d_M_isKept_13 : decode Y_M_isKept.2.1 13 = .ok (.ifCond .eq 51, 3) := by decide +kernel
theorem d_M_isKept_16 : decode Y_M_isKept.2.1 16 = .ok (.lload_n 0, 1) := by decide +kernel
theorem d_M_isKept_17 : decode Y_M_isKept.2.1 17 = .ok (.ldc2_w 153, 3) := by decide +kernel
theorem d_M_isKept_20 : decode Y_M_isKept.2.1 20 = .ok (.lcmp, 1) := by decide +kernel
theorem d_M_isKept_21 : decode Y_M_isKept.2.1 21 = .ok (.ifCond .eq 43, 3) := by decide +kernel
theorem d_M_isKept_24 : decode Y_M_isKept.2.1 24 = .ok (.lload_n 0, 1) := by decide +kernel
theorem d_M_isKept_25 : decode Y_M_isKept.2.1 25 = .ok (.ldc2_w 155, 3) := by decide +kernel
theorem d_M_isKept_28 : decode Y_M_isKept.2.1 28 = .ok (.lcmp, 1) := by decide +kernel
theorem d_M_isKept_29 : decode Y_M_isKept.2.1 29 = .ok (.ifCond .eq 35, 3) := by decide +kernel
theorem d_M_isKept_32 : decode Y_M_isKept.2.1 32 = .ok (.lload_n 0, 1) := by decide +kernel
theorem d_M_isKept_33 : decode Y_M_isKept.2.1 33 = .ok (.ldc2_w 157, 3) := by decide +kernel
theorem d_M_isKept_36 : decode Y_M_isKept.2.1 36 = .ok (.lcmp, 1) := by decide +kernel
theorem d_M_isKept_37 : decode Y_M_isKept.2.1 37 = .ok (.ifCond .eq 27, 3) := by decide +kernel
theorem d_M_isKept_40 : decode Y_M_isKept.2.1 40 = .ok (.lload_n 0, 1) := by decide +kernel
theorem d_M_isKept_41 : decode Y_M_isKept.2.1 41 = .ok (.ldc2_w 159, 3) := by decide +kernel
theorem d_M_isKept_44 : decode Y_M_isKept.2.1 44 = .ok (.lcmp, 1) := by decide +kernel
theorem d_M_isKept_45 : decode Y_M_isKept.2.1 45 = .ok (.ifCond .eq 19, 3) := by decide +kernel
theorem d_M_isKept_48 : decode Y_M_isKept.2.1 48 = .ok (.lload_n 0, 1) := by decide +kernel
theorem d_M_isKept_49 : decode Y_M_isKept.2.1 49 = .ok (.ldc2_w 161, 3) := by decide +kernel
theorem d_M_isKept_52 : decode Y_M_isKept.2.1 52 = .ok (.lcmp, 1) := by decide +kernel
theorem d_M_isKept_53 : decode Y_M_isKept.2.1 53 = .ok (.ifCond .eq 11, 3) := by decide +kernel
theorem d_M_isKept_56 : decode Y_M_isKept.2.1 56 = .ok (.lload_n 0, 1) := by decide +kernel
theorem d_M_isKept_57 : decode Y_M_isKept.2.1 57 = .ok (.ldc2_w 163, 3) := by decide +kernel
theorem d_M_isKept_60 : decode Y_M_isKept.2.1 60 = .ok (.lcmp, 1) := by decide +kernel
theorem d_M_isKept_61 : decode Y_M_isKept.2.1 61 = .ok (.ifCond .ne 7, 3) := by decide +kernel
theorem d_M_isKept_64 : decode Y_M_isKept.2.1 64 = .ok (.iconst 1, 1) := by decide +kernel
theorem d_M_isKept_65 : decode Y_M_isKept.2.1 65 = .ok (.goto 4, 3) := by decide +kernel
theorem d_M_isKept_68 : decode Y_M_isKept.2.1 68 = .ok (.iconst 0, 1) := by decide +kernel
theorem d_M_isKept_69 : decode Y_M_isKept.2.1 69 = .ok (.istore_n 2, 1) := by decide +kernel
theorem d_M_isKept_70 : decode Y_M_isKept.2.1 70 = .ok (.iload_n 2, 1) := by decide +kernel
theorem d_M_isKept_71 : decode Y_M_isKept.2.1 71 = .ok (.ifCond .ne 59, 3) := by decide +kernel
theorem d_M_isKept_74 : decode Y_M_isKept.2.1 74 = .ok (.lload_n 0, 1) := by decide +kernel
theorem d_M_isKept_75 : decode Y_M_isKept.2.1 75 = .ok (.ldc2_w 165, 3) := by decide +kernel
theorem d_M_isKept_78 : decode Y_M_isKept.2.1 78 = .ok (.lcmp, 1) := by decide +kernel
theorem d_M_isKept_79 : decode Y_M_isKept.2.1 79 = .ok (.ifCond .eq 51, 3) := by decide +kernel
theorem d_M_isKept_82 : decode Y_M_isKept.2.1 82 = .ok (.lload_n 0, 1) := by decide +kernel
theorem d_M_isKept_83 : decode Y_M_isKept.2.1 83 = .ok (.ldc2_w 167, 3) := by decide +kernel
theorem d_M_isKept_86 : decode Y_M_isKept.2.1 86 = .ok (.lcmp, 1) := by decide +kernel
theorem d_M_isKept_87 : decode Y_M_isKept.2.1 87 = .ok (.ifCond .eq 43, 3) := by decide +kernel
theorem d_M_isKept_90 : decode Y_M_isKept.2.1 90 = .ok (.lload_n 0, 1) := by decide +kernel
theorem d_M_isKept_91 : decode Y_M_isKept.2.1 91 = .ok (.ldc2_w 169, 3) := by decide +kernel
theorem d_M_isKept_94 : decode Y_M_isKept.2.1 94 = .ok (.lcmp, 1) := by decide +kernel
theorem d_M_isKept_95 : decode Y_M_isKept.2.1 95 = .ok (.ifCond .eq 35, 3) := by decide +kernel
theorem d_M_isKept_98 : decode Y_M_isKept.2.1 98 = .ok (.lload_n 0, 1) := by decide +kernel
theorem d_M_isKept_99 : decode Y_M_isKept.2.1 99 = .ok (.ldc2_w 171, 3) := by decide +kernel
theorem d_M_isKept_102 : decode Y_M_isKept.2.1 102 = .ok (.lcmp, 1) := by decide +kernel
theorem d_M_isKept_103 : decode Y_M_isKept.2.1 103 = .ok (.ifCond .eq 27, 3) := by decide +kernel
theorem d_M_isKept_106 : decode Y_M_isKept.2.1 106 = .ok (.lload_n 0, 1) := by decide +kernel
theorem d_M_isKept_107 : decode Y_M_isKept.2.1 107 = .ok (.ldc2_w 173, 3) := by decide +kernel
theorem d_M_isKept_110 : decode Y_M_isKept.2.1 110 = .ok (.lcmp, 1) := by decide +kernel
theorem d_M_isKept_111 : decode Y_M_isKept.2.1 111 = .ok (.ifCond .eq 19, 3) := by decide +kernel
theorem d_M_isKept_114 : decode Y_M_isKept.2.1 114 = .ok (.lload_n 0, 1) := by decide +kernel
theorem d_M_isKept_115 : decode Y_M_isKept.2.1 115 = .ok (.ldc2_w 175, 3) := by decide +kernel
theorem d_M_isKept_118 : decode Y_M_isKept.2.1 118 = .ok (.lcmp, 1) := by decide +kernel
theorem d_M_isKept_119 : decode Y_M_isKept.2.1 119 = .ok (.ifCond .eq 11, 3) := by decide +kernel
theorem d_M_isKept_122 : decode Y_M_isKept.2.1 122 = .ok (.lload_n 0, 1) := by decide +kernel
theorem d_M_isKept_123 : decode Y_M_isKept.2.1 123 = .ok (.ldc2_w 177, 3) := by decide +kernel
theorem d_M_isKept_126 : decode Y_M_isKept.2.1 126 = .ok (.lcmp, 1) := by decide +kernel
theorem d_M_isKept_127 : decode Y_M_isKept.2.1 127 = .ok (.ifCond .ne 7, 3) := by decide +kernel
theorem d_M_isKept_130 : decode Y_M_isKept.2.1 130 = .ok (.iconst 1, 1) := by decide +kernel
theorem d_M_isKept_131 : decode Y_M_isKept.2.1 131 = .ok (.goto 4, 3) := by decide +kernel
theorem d_M_isKept_134 : decode Y_M_isKept.2.1 134 = .ok (.iconst 0, 1) := by decide +kernel
theorem d_M_isKept_135 : decode Y_M_isKept.2.1 135 = .ok (.ireturn, 1) := by decide +kernel
theorem e_M_isKept {l : Launch} {G : GT} {d : Nat} {P : Int → MM → Prop} {m : MM} (x0 : Int)  (H : wfM m → inL x0 → (x0 = 482854663269 → (Wq l G false Y_M_isKept d (QI P) 69 [(0, .inr (.inl x0))] [.inl 1] m)) ∧ (¬ (x0 = 482854663269) → ((x0 = 448545973363 → (Wq l G false Y_M_isKept d (QI P) 69 [(0, .inr (.inl x0))] [.inl 1] m)) ∧ (¬ (x0 = 448545973363) → ((x0 = 426954290277 → (Wq l G false Y_M_isKept d (QI P) 69 [(0, .inr (.inl x0))] [.inl 1] m)) ∧ (¬ (x0 = 426954290277) → ((x0 = 2003395685 → (Wq l G false Y_M_isKept d (QI P) 69 [(0, .inr (.inl x0))] [.inl 1] m)) ∧ (¬ (x0 = 2003395685) → ((x0 = 431415716206 → (Wq l G false Y_M_isKept d (QI P) 69 [(0, .inr (.inl x0))] [.inl 1] m)) ∧ (¬ (x0 = 431415716206) → ((x0 = 439721159795 → (Wq l G false Y_M_isKept d (QI P) 69 [(0, .inr (.inl x0))] [.inl 1] m)) ∧ (¬ (x0 = 439721159795) → ((x0 = 1819632491 → (Wq l G false Y_M_isKept d (QI P) 69 [(0, .inr (.inl x0))] [.inl 1] m)) ∧ (¬ (x0 = 1819632491) → ((x0 ≠ 1685217655 → (Wq l G false Y_M_isKept d (QI P) 69 [(0, .inr (.inl x0))] [.inl 0] m)) ∧ (¬ (x0 ≠ 1685217655) → (Wq l G false Y_M_isKept d (QI P) 69 [(0, .inr (.inl x0))] [.inl 1] m))))))))))))))))) : CI l G Y_M_isKept d [.inr (.inl x0)] m P := by
  refine CI.of [(0, .inr (.inl x0))] k_M_isKept.1 (Nat.le_of_ble_eq_true rfl) rfl (Wp.wf (fun hw _ hl hs => ?_))
  have H0 := H hw (hl _ (List.mem_of_getElem? (i := 0) rfl))
  refine Wp.lload_n 0 0 d_M_isKept_0 rfl rfl ?_
  refine Wp.ldc2 (z := 482854663269) d_M_isKept_1 kl_M_149 (by decide) (by decide) ?_
  obtain ⟨H2, H3⟩ := H0
  refine Wq.lif_eq 64 d_M_isKept_4 d_M_isKept_5 (by decide) (fun c1 => ?_) (fun c1 => ?_)
  · have H4 := H2 c1
    refine Wp.iconst d_M_isKept_64 (by decide) ?_
    refine Wp.goto 69 d_M_isKept_65 (by decide) ?_
    exact H4
  · have H5 := H3 c1
    refine Wp.lload_n 0 0 d_M_isKept_8 rfl rfl ?_
    refine Wp.ldc2 (z := 448545973363) d_M_isKept_9 kl_M_151 (by decide) (by decide) ?_
    obtain ⟨H7, H8⟩ := H5
    refine Wq.lif_eq 64 d_M_isKept_12 d_M_isKept_13 (by decide) (fun c6 => ?_) (fun c6 => ?_)
    · have H9 := H7 c6
      refine Wp.iconst d_M_isKept_64 (by decide) ?_
      refine Wp.goto 69 d_M_isKept_65 (by decide) ?_
      exact H9
    · have H10 := H8 c6
      refine Wp.lload_n 0 0 d_M_isKept_16 rfl rfl ?_
      refine Wp.ldc2 (z := 426954290277) d_M_isKept_17 kl_M_153 (by decide) (by decide) ?_
      obtain ⟨H12, H13⟩ := H10
      refine Wq.lif_eq 64 d_M_isKept_20 d_M_isKept_21 (by decide) (fun c11 => ?_) (fun c11 => ?_)
      · have H14 := H12 c11
        refine Wp.iconst d_M_isKept_64 (by decide) ?_
        refine Wp.goto 69 d_M_isKept_65 (by decide) ?_
        exact H14
      · have H15 := H13 c11
        refine Wp.lload_n 0 0 d_M_isKept_24 rfl rfl ?_
        refine Wp.ldc2 (z := 2003395685) d_M_isKept_25 kl_M_155 (by decide) (by decide) ?_
        obtain ⟨H17, H18⟩ := H15
        refine Wq.lif_eq 64 d_M_isKept_28 d_M_isKept_29 (by decide) (fun c16 => ?_) (fun c16 => ?_)
        · have H19 := H17 c16
          refine Wp.iconst d_M_isKept_64 (by decide) ?_
          refine Wp.goto 69 d_M_isKept_65 (by decide) ?_
          exact H19
        · have H20 := H18 c16
          refine Wp.lload_n 0 0 d_M_isKept_32 rfl rfl ?_
          refine Wp.ldc2 (z := 431415716206) d_M_isKept_33 kl_M_157 (by decide) (by decide) ?_
          obtain ⟨H22, H23⟩ := H20
          refine Wq.lif_eq 64 d_M_isKept_36 d_M_isKept_37 (by decide) (fun c21 => ?_) (fun c21 => ?_)
          · have H24 := H22 c21
            refine Wp.iconst d_M_isKept_64 (by decide) ?_
            refine Wp.goto 69 d_M_isKept_65 (by decide) ?_
            exact H24
          · have H25 := H23 c21
            refine Wp.lload_n 0 0 d_M_isKept_40 rfl rfl ?_
            refine Wp.ldc2 (z := 439721159795) d_M_isKept_41 kl_M_159 (by decide) (by decide) ?_
            obtain ⟨H27, H28⟩ := H25
            refine Wq.lif_eq 64 d_M_isKept_44 d_M_isKept_45 (by decide) (fun c26 => ?_) (fun c26 => ?_)
            · have H29 := H27 c26
              refine Wp.iconst d_M_isKept_64 (by decide) ?_
              refine Wp.goto 69 d_M_isKept_65 (by decide) ?_
              exact H29
            · have H30 := H28 c26
              refine Wp.lload_n 0 0 d_M_isKept_48 rfl rfl ?_
              refine Wp.ldc2 (z := 1819632491) d_M_isKept_49 kl_M_161 (by decide) (by decide) ?_
              obtain ⟨H32, H33⟩ := H30
              refine Wq.lif_eq 64 d_M_isKept_52 d_M_isKept_53 (by decide) (fun c31 => ?_) (fun c31 => ?_)
              · have H34 := H32 c31
                refine Wp.iconst d_M_isKept_64 (by decide) ?_
                refine Wp.goto 69 d_M_isKept_65 (by decide) ?_
                exact H34
              · have H35 := H33 c31
                refine Wp.lload_n 0 0 d_M_isKept_56 rfl rfl ?_
                refine Wp.ldc2 (z := 1685217655) d_M_isKept_57 kl_M_163 (by decide) (by decide) ?_
                obtain ⟨H37, H38⟩ := H35
                refine Wq.lif_ne 68 d_M_isKept_60 d_M_isKept_61 (by decide) (fun c36 => ?_) (fun c36 => ?_)
                · have H39 := H37 c36
                  refine Wp.iconst d_M_isKept_68 (by decide) ?_
                  exact H39
                · have H40 := H38 c36
                  refine Wp.iconst d_M_isKept_64 (by decide) ?_
                  refine Wp.goto 69 d_M_isKept_65 (by decide) ?_
                  exact H40
theorem s_M_isKept_69 {l : Launch} {G : GT} {d : Nat} {P : Int → MM → Prop} {m : MM} (x0 : Int) (y0 : Int)  (H : wfM m → inL x0 → inR y0 → (y0 ≠ 0 → (P 1 m)) ∧ (¬ (y0 ≠ 0) → ((x0 = 113740958232179 → (P 1 m)) ∧ (¬ (x0 = 113740958232179) → ((x0 = 1651665261 → (P 1 m)) ∧ (¬ (x0 = 1651665261) → ((x0 = 121450625394034 → (P 1 m)) ∧ (¬ (x0 = 121450625394034) → ((x0 = 6578553 → (P 1 m)) ∧ (¬ (x0 = 6578553) → ((x0 = 28530 → (P 1 m)) ∧ (¬ (x0 = 28530) → ((x0 = 6385252 → (P 1 m)) ∧ (¬ (x0 = 6385252) → ((x0 ≠ 7237492 → (P 0 m)) ∧ (¬ (x0 ≠ 7237492) → (P 1 m))))))))))))))))) : Wq l G false Y_M_isKept d (QI P) 69 [(0, .inr (.inl x0))] [.inl y0] m := by
  refine Wp.wf (fun hw _ hl hs => ?_)
  have H0 := H hw (hl _ (List.mem_of_getElem? (i := 0) rfl)) (hs _ (List.mem_of_getElem? (i := 0) rfl))
  refine Wp.istore_n 2 [(0, .inr (.inl x0)), (2, .inl y0)] d_M_isKept_69 rfl (by decide) rfl ?_
  refine Wp.iload_n 1 2 d_M_isKept_70 rfl rfl ?_
  obtain ⟨H2, H3⟩ := H0
  refine Wp.if_ne 130 d_M_isKept_71 (by decide) (fun c1 => ?_) (fun c1 => ?_)
  · have H4 := H2 c1
    refine Wp.iconst d_M_isKept_130 (by decide) ?_
    refine Wp.goto 135 d_M_isKept_131 (by decide) ?_
    exact Wq.zret d_M_isKept_135 rfl (by decide) H4
  · have H5 := H3 c1
    refine Wp.lload_n 0 0 d_M_isKept_74 rfl rfl ?_
    refine Wp.ldc2 (z := 113740958232179) d_M_isKept_75 kl_M_165 (by decide) (by decide) ?_
    obtain ⟨H7, H8⟩ := H5
    refine Wq.lif_eq 130 d_M_isKept_78 d_M_isKept_79 (by decide) (fun c6 => ?_) (fun c6 => ?_)
    · have H9 := H7 c6
      refine Wp.iconst d_M_isKept_130 (by decide) ?_
      refine Wp.goto 135 d_M_isKept_131 (by decide) ?_
      exact Wq.zret d_M_isKept_135 rfl (by decide) H9
    · have H10 := H8 c6
      refine Wp.lload_n 0 0 d_M_isKept_82 rfl rfl ?_
      refine Wp.ldc2 (z := 1651665261) d_M_isKept_83 kl_M_167 (by decide) (by decide) ?_
      obtain ⟨H12, H13⟩ := H10
      refine Wq.lif_eq 130 d_M_isKept_86 d_M_isKept_87 (by decide) (fun c11 => ?_) (fun c11 => ?_)
      · have H14 := H12 c11
        refine Wp.iconst d_M_isKept_130 (by decide) ?_
        refine Wp.goto 135 d_M_isKept_131 (by decide) ?_
        exact Wq.zret d_M_isKept_135 rfl (by decide) H14
      · have H15 := H13 c11
        refine Wp.lload_n 0 0 d_M_isKept_90 rfl rfl ?_
        refine Wp.ldc2 (z := 121450625394034) d_M_isKept_91 kl_M_169 (by decide) (by decide) ?_
        obtain ⟨H17, H18⟩ := H15
        refine Wq.lif_eq 130 d_M_isKept_94 d_M_isKept_95 (by decide) (fun c16 => ?_) (fun c16 => ?_)
        · have H19 := H17 c16
          refine Wp.iconst d_M_isKept_130 (by decide) ?_
          refine Wp.goto 135 d_M_isKept_131 (by decide) ?_
          exact Wq.zret d_M_isKept_135 rfl (by decide) H19
        · have H20 := H18 c16
          refine Wp.lload_n 0 0 d_M_isKept_98 rfl rfl ?_
          refine Wp.ldc2 (z := 6578553) d_M_isKept_99 kl_M_171 (by decide) (by decide) ?_
          obtain ⟨H22, H23⟩ := H20
          refine Wq.lif_eq 130 d_M_isKept_102 d_M_isKept_103 (by decide) (fun c21 => ?_) (fun c21 => ?_)
          · have H24 := H22 c21
            refine Wp.iconst d_M_isKept_130 (by decide) ?_
            refine Wp.goto 135 d_M_isKept_131 (by decide) ?_
            exact Wq.zret d_M_isKept_135 rfl (by decide) H24
          · have H25 := H23 c21
            refine Wp.lload_n 0 0 d_M_isKept_106 rfl rfl ?_
            refine Wp.ldc2 (z := 28530) d_M_isKept_107 kl_M_173 (by decide) (by decide) ?_
            obtain ⟨H27, H28⟩ := H25
            refine Wq.lif_eq 130 d_M_isKept_110 d_M_isKept_111 (by decide) (fun c26 => ?_) (fun c26 => ?_)
            · have H29 := H27 c26
              refine Wp.iconst d_M_isKept_130 (by decide) ?_
              refine Wp.goto 135 d_M_isKept_131 (by decide) ?_
              exact Wq.zret d_M_isKept_135 rfl (by decide) H29
            · have H30 := H28 c26
              refine Wp.lload_n 0 0 d_M_isKept_114 rfl rfl ?_
              refine Wp.ldc2 (z := 6385252) d_M_isKept_115 kl_M_175 (by decide) (by decide) ?_
              obtain ⟨H32, H33⟩ := H30
              refine Wq.lif_eq 130 d_M_isKept_118 d_M_isKept_119 (by decide) (fun c31 => ?_) (fun c31 => ?_)
              · have H34 := H32 c31
                refine Wp.iconst d_M_isKept_130 (by decide) ?_
                refine Wp.goto 135 d_M_isKept_131 (by decide) ?_
                exact Wq.zret d_M_isKept_135 rfl (by decide) H34
              · have H35 := H33 c31
                refine Wp.lload_n 0 0 d_M_isKept_122 rfl rfl ?_
                refine Wp.ldc2 (z := 7237492) d_M_isKept_123 kl_M_177 (by decide) (by decide) ?_
                obtain ⟨H37, H38⟩ := H35
                refine Wq.lif_ne 134 d_M_isKept_126 d_M_isKept_127 (by decide) (fun c36 => ?_) (fun c36 => ?_)
                · have H39 := H37 c36
                  refine Wp.iconst d_M_isKept_134 (by decide) ?_
                  exact Wq.zret d_M_isKept_135 rfl (by decide) H39
                · have H40 := H38 c36
                  refine Wp.iconst d_M_isKept_130 (by decide) ?_
                  refine Wp.goto 135 d_M_isKept_131 (by decide) ?_
                  exact Wq.zret d_M_isKept_135 rfl (by decide) H40
theorem d_M_isDigit_0 : decode Y_M_isDigit.2.1 0 = .ok (.iload_n 0, 1) := by decide +kernel
theorem d_M_isDigit_1 : decode Y_M_isDigit.2.1 1 = .ok (.bipush 48, 2) := by decide +kernel
theorem d_M_isDigit_3 : decode Y_M_isDigit.2.1 3 = .ok (.if_icmp .lt 13, 3) := by decide +kernel
theorem d_M_isDigit_6 : decode Y_M_isDigit.2.1 6 = .ok (.iload_n 0, 1) := by decide +kernel
theorem d_M_isDigit_7 : decode Y_M_isDigit.2.1 7 = .ok (.bipush 57, 2) := by decide +kernel
theorem d_M_isDigit_9 : decode Y_M_isDigit.2.1 9 = .ok (.if_icmp .gt 7, 3) := by decide +kernel
theorem d_M_isDigit_12 : decode Y_M_isDigit.2.1 12 = .ok (.iconst 1, 1) := by decide +kernel
theorem d_M_isDigit_13 : decode Y_M_isDigit.2.1 13 = .ok (.goto 4, 3) := by decide +kernel
theorem d_M_isDigit_16 : decode Y_M_isDigit.2.1 16 = .ok (.iconst 0, 1) := by decide +kernel
theorem d_M_isDigit_17 : decode Y_M_isDigit.2.1 17 = .ok (.ireturn, 1) := by decide +kernel
theorem e_M_isDigit {l : Launch} {G : GT} {d : Nat} {P : Int → MM → Prop} {m : MM} (x0 : Int)  (H : wfM m → inR x0 → (x0 < 48 → (P 0 m)) ∧ (¬ (x0 < 48) → ((x0 > 57 → (P 0 m)) ∧ (¬ (x0 > 57) → (P 1 m))))) : CI l G Y_M_isDigit d [.inl x0] m P := by
  refine CI.of [(0, .inl x0)] k_M_isDigit.1 (Nat.le_of_ble_eq_true rfl) rfl (Wp.wf (fun hw _ hl hs => ?_))
  have H0 := H hw (hl _ (List.mem_of_getElem? (i := 0) rfl))
  refine Wp.iload_n 0 0 d_M_isDigit_0 rfl rfl ?_
  refine Wp.bipush d_M_isDigit_1 (by decide) (by decide) ?_
  obtain ⟨H2, H3⟩ := H0
  refine Wp.icmp_lt 16 d_M_isDigit_3 (by decide) (fun c1 => ?_) (fun c1 => ?_)
  · have H4 := H2 c1
    refine Wp.iconst d_M_isDigit_16 (by decide) ?_
    exact Wq.zret d_M_isDigit_17 rfl (by decide) H4
  · have H5 := H3 c1
    refine Wp.iload_n 0 0 d_M_isDigit_6 rfl rfl ?_
    refine Wp.bipush d_M_isDigit_7 (by decide) (by decide) ?_
    obtain ⟨H7, H8⟩ := H5
    refine Wp.icmp_gt 16 d_M_isDigit_9 (by decide) (fun c6 => ?_) (fun c6 => ?_)
    · have H9 := H7 c6
      refine Wp.iconst d_M_isDigit_16 (by decide) ?_
      exact Wq.zret d_M_isDigit_17 rfl (by decide) H9
    · have H10 := H8 c6
      refine Wp.iconst d_M_isDigit_12 (by decide) ?_
      refine Wp.goto 17 d_M_isDigit_13 (by decide) ?_
      exact Wq.zret d_M_isDigit_17 rfl (by decide) H10
theorem d_M_isSign_0 : decode Y_M_isSign.2.1 0 = .ok (.iload_n 0, 1) := by decide +kernel
theorem d_M_isSign_1 : decode Y_M_isSign.2.1 1 = .ok (.bipush 59, 2) := by decide +kernel
theorem d_M_isSign_3 : decode Y_M_isSign.2.1 3 = .ok (.if_icmp .eq 63, 3) := by decide +kernel
theorem d_M_isSign_6 : decode Y_M_isSign.2.1 6 = .ok (.iload_n 0, 1) := by decide +kernel
theorem d_M_isSign_7 : decode Y_M_isSign.2.1 7 = .ok (.bipush 40, 2) := by decide +kernel
theorem d_M_isSign_9 : decode Y_M_isSign.2.1 9 = .ok (.if_icmp .eq 57, 3) := by decide +kernel
theorem d_M_isSign_12 : decode Y_M_isSign.2.1 12 = .ok (.iload_n 0, 1) := by decide +kernel
theorem d_M_isSign_13 : decode Y_M_isSign.2.1 13 = .ok (.bipush 41, 2) := by decide +kernel
theorem d_M_isSign_15 : decode Y_M_isSign.2.1 15 = .ok (.if_icmp .eq 51, 3) := by decide +kernel
theorem d_M_isSign_18 : decode Y_M_isSign.2.1 18 = .ok (.iload_n 0, 1) := by decide +kernel
theorem d_M_isSign_19 : decode Y_M_isSign.2.1 19 = .ok (.bipush 60, 2) := by decide +kernel
theorem d_M_isSign_21 : decode Y_M_isSign.2.1 21 = .ok (.if_icmp .eq 45, 3) := by decide +kernel
theorem d_M_isSign_24 : decode Y_M_isSign.2.1 24 = .ok (.iload_n 0, 1) := by decide +kernel
theorem d_M_isSign_25 : decode Y_M_isSign.2.1 25 = .ok (.bipush 62, 2) := by decide +kernel
theorem d_M_isSign_27 : decode Y_M_isSign.2.1 27 = .ok (.if_icmp .eq 39, 3) := by decide +kernel
theorem d_M_isSign_30 : decode Y_M_isSign.2.1 30 = .ok (.iload_n 0, 1) := by decide +kernel
theorem d_M_isSign_31 : decode Y_M_isSign.2.1 31 = .ok (.bipush 61, 2) := by decide +kernel
theorem d_M_isSign_33 : decode Y_M_isSign.2.1 33 = .ok (.if_icmp .eq 33, 3) := by decide +kernel
theorem d_M_isSign_36 : decode Y_M_isSign.2.1 36 = .ok (.iload_n 0, 1) := by decide +kernel
theorem d_M_isSign_37 : decode Y_M_isSign.2.1 37 = .ok (.bipush 43, 2) := by decide +kernel
theorem d_M_isSign_39 : decode Y_M_isSign.2.1 39 = .ok (.if_icmp .eq 27, 3) := by decide +kernel
theorem d_M_isSign_42 : decode Y_M_isSign.2.1 42 = .ok (.iload_n 0, 1) := by decide +kernel
theorem d_M_isSign_43 : decode Y_M_isSign.2.1 43 = .ok (.bipush 45, 2) := by decide +kernel
theorem d_M_isSign_45 : decode Y_M_isSign.2.1 45 = .ok (.if_icmp .eq 21, 3) := by decide +kernel
theorem d_M_isSign_48 : decode Y_M_isSign.2.1 48 = .ok (.iload_n 0, 1) := by decide +kernel
theorem d_M_isSign_49 : decode Y_M_isSign.2.1 49 = .ok (.bipush 42, 2) := by decide +kernel
theorem d_M_isSign_51 : decode Y_M_isSign.2.1 51 = .ok (.if_icmp .eq 15, 3) := by decide +kernel
theorem d_M_isSign_54 : decode Y_M_isSign.2.1 54 = .ok (.iload_n 0, 1) := by decide +kernel
theorem d_M_isSign_55 : decode Y_M_isSign.2.1 55 = .ok (.bipush 47, 2) := by decide +kernel
theorem d_M_isSign_57 : decode Y_M_isSign.2.1 57 = .ok (.if_icmp .eq 9, 3) := by decide +kernel
theorem d_M_isSign_60 : decode Y_M_isSign.2.1 60 = .ok (.iload_n 0, 1) := by decide +kernel
theorem d_M_isSign_61 : decode Y_M_isSign.2.1 61 = .ok (.bipush 37, 2) := by decide +kernel
theorem d_M_isSign_63 : decode Y_M_isSign.2.1 63 = .ok (.if_icmp .ne 7, 3) := by decide +kernel
theorem d_M_isSign_66 : decode Y_M_isSign.2.1 66 = .ok (.iconst 1, 1) := by decide +kernel
theorem d_M_isSign_67 : decode Y_M_isSign.2.1 67 = .ok (.goto 4, 3) := by decide +kernel
theorem d_M_isSign_70 : decode Y_M_isSign.2.1 70 = .ok (.iconst 0, 1) := by decide +kernel
theorem d_M_isSign_71 : decode Y_M_isSign.2.1 71 = .ok (.ireturn, 1) := by decide +kernel
theorem e_M_isSign {l : Launch} {G : GT} {d : Nat} {P : Int → MM → Prop} {m : MM} (x0 : Int)  (H : wfM m → inR x0 → (x0 = 59 → (P 1 m)) ∧ (¬ (x0 = 59) → ((x0 = 40 → (P 1 m)) ∧ (¬ (x0 = 40) → ((x0 = 41 → (P 1 m)) ∧ (¬ (x0 = 41) → ((x0 = 60 → (P 1 m)) ∧ (¬ (x0 = 60) → ((x0 = 62 → (P 1 m)) ∧ (¬ (x0 = 62) → ((x0 = 61 → (P 1 m)) ∧ (¬ (x0 = 61) → ((x0 = 43 → (P 1 m)) ∧ (¬ (x0 = 43) → ((x0 = 45 → (P 1 m)) ∧ (¬ (x0 = 45) → ((x0 = 42 → (P 1 m)) ∧ (¬ (x0 = 42) → ((x0 = 47 → (P 1 m)) ∧ (¬ (x0 = 47) → ((x0 ≠ 37 → (P 0 m)) ∧ (¬ (x0 ≠ 37) → (P 1 m))))))))))))))))))))))) : CI l G Y_M_isSign d [.inl x0] m P := by
  refine CI.of [(0, .inl x0)] k_M_isSign.1 (Nat.le_of_ble_eq_true rfl) rfl (Wp.wf (fun hw _ hl hs => ?_))
  have H0 := H hw (hl _ (List.mem_of_getElem? (i := 0) rfl))
  refine Wp.iload_n 0 0 d_M_isSign_0 rfl rfl ?_
  refine Wp.bipush d_M_isSign_1 (by decide) (by decide) ?_
  obtain ⟨H2, H3⟩ := H0
  refine Wp.icmp_eq 66 d_M_isSign_3 (by decide) (fun c1 => ?_) (fun c1 => ?_)
  · have H4 := H2 c1
    refine Wp.iconst d_M_isSign_66 (by decide) ?_
    refine Wp.goto 71 d_M_isSign_67 (by decide) ?_
    exact Wq.zret d_M_isSign_71 rfl (by decide) H4
  · have H5 := H3 c1
    refine Wp.iload_n 0 0 d_M_isSign_6 rfl rfl ?_
    refine Wp.bipush d_M_isSign_7 (by decide) (by decide) ?_
    obtain ⟨H7, H8⟩ := H5
    refine Wp.icmp_eq 66 d_M_isSign_9 (by decide) (fun c6 => ?_) (fun c6 => ?_)
    · have H9 := H7 c6
      refine Wp.iconst d_M_isSign_66 (by decide) ?_
      refine Wp.goto 71 d_M_isSign_67 (by decide) ?_
      exact Wq.zret d_M_isSign_71 rfl (by decide) H9
    · have H10 := H8 c6
      refine Wp.iload_n 0 0 d_M_isSign_12 rfl rfl ?_
      refine Wp.bipush d_M_isSign_13 (by decide) (by decide) ?_
      obtain ⟨H12, H13⟩ := H10
      refine Wp.icmp_eq 66 d_M_isSign_15 (by decide) (fun c11 => ?_) (fun c11 => ?_)
      · have H14 := H12 c11
        refine Wp.iconst d_M_isSign_66 (by decide) ?_
        refine Wp.goto 71 d_M_isSign_67 (by decide) ?_
        exact Wq.zret d_M_isSign_71 rfl (by decide) H14
      · have H15 := H13 c11
        refine Wp.iload_n 0 0 d_M_isSign_18 rfl rfl ?_
        refine Wp.bipush d_M_isSign_19 (by decide) (by decide) ?_
        obtain ⟨H17, H18⟩ := H15
        refine Wp.icmp_eq 66 d_M_isSign_21 (by decide) (fun c16 => ?_) (fun c16 => ?_)
        · have H19 := H17 c16
          refine Wp.iconst d_M_isSign_66 (by decide) ?_
          refine Wp.goto 71 d_M_isSign_67 (by decide) ?_
          exact Wq.zret d_M_isSign_71 rfl (by decide) H19
        · have H20 := H18 c16
          refine Wp.iload_n 0 0 d_M_isSign_24 rfl rfl ?_
          refine Wp.bipush d_M_isSign_25 (by decide) (by decide) ?_
          obtain ⟨H22, H23⟩ := H20
          refine Wp.icmp_eq 66 d_M_isSign_27 (by decide) (fun c21 => ?_) (fun c21 => ?_)
          · have H24 := H22 c21
            refine Wp.iconst d_M_isSign_66 (by decide) ?_
            refine Wp.goto 71 d_M_isSign_67 (by decide) ?_
            exact Wq.zret d_M_isSign_71 rfl (by decide) H24
          · have H25 := H23 c21
            refine Wp.iload_n 0 0 d_M_isSign_30 rfl rfl ?_
            refine Wp.bipush d_M_isSign_31 (by decide) (by decide) ?_
            obtain ⟨H27, H28⟩ := H25
            refine Wp.icmp_eq 66 d_M_isSign_33 (by decide) (fun c26 => ?_) (fun c26 => ?_)
            · have H29 := H27 c26
              refine Wp.iconst d_M_isSign_66 (by decide) ?_
              refine Wp.goto 71 d_M_isSign_67 (by decide) ?_
              exact Wq.zret d_M_isSign_71 rfl (by decide) H29
            · have H30 := H28 c26
              refine Wp.iload_n 0 0 d_M_isSign_36 rfl rfl ?_
              refine Wp.bipush d_M_isSign_37 (by decide) (by decide) ?_
              obtain ⟨H32, H33⟩ := H30
              refine Wp.icmp_eq 66 d_M_isSign_39 (by decide) (fun c31 => ?_) (fun c31 => ?_)
              · have H34 := H32 c31
                refine Wp.iconst d_M_isSign_66 (by decide) ?_
                refine Wp.goto 71 d_M_isSign_67 (by decide) ?_
                exact Wq.zret d_M_isSign_71 rfl (by decide) H34
              · have H35 := H33 c31
                refine Wp.iload_n 0 0 d_M_isSign_42 rfl rfl ?_
                refine Wp.bipush d_M_isSign_43 (by decide) (by decide) ?_
                obtain ⟨H37, H38⟩ := H35
                refine Wp.icmp_eq 66 d_M_isSign_45 (by decide) (fun c36 => ?_) (fun c36 => ?_)
                · have H39 := H37 c36
                  refine Wp.iconst d_M_isSign_66 (by decide) ?_
                  refine Wp.goto 71 d_M_isSign_67 (by decide) ?_
                  exact Wq.zret d_M_isSign_71 rfl (by decide) H39
                · have H40 := H38 c36
                  refine Wp.iload_n 0 0 d_M_isSign_48 rfl rfl ?_
                  refine Wp.bipush d_M_isSign_49 (by decide) (by decide) ?_
                  obtain ⟨H42, H43⟩ := H40
                  refine Wp.icmp_eq 66 d_M_isSign_51 (by decide) (fun c41 => ?_) (fun c41 => ?_)
                  · have H44 := H42 c41
                    refine Wp.iconst d_M_isSign_66 (by decide) ?_
                    refine Wp.goto 71 d_M_isSign_67 (by decide) ?_
                    exact Wq.zret d_M_isSign_71 rfl (by decide) H44
                  · have H45 := H43 c41
                    refine Wp.iload_n 0 0 d_M_isSign_54 rfl rfl ?_
                    refine Wp.bipush d_M_isSign_55 (by decide) (by decide) ?_
                    obtain ⟨H47, H48⟩ := H45
                    refine Wp.icmp_eq 66 d_M_isSign_57 (by decide) (fun c46 => ?_) (fun c46 => ?_)
                    · have H49 := H47 c46
                      refine Wp.iconst d_M_isSign_66 (by decide) ?_
                      refine Wp.goto 71 d_M_isSign_67 (by decide) ?_
                      exact Wq.zret d_M_isSign_71 rfl (by decide) H49
                    · have H50 := H48 c46
                      refine Wp.iload_n 0 0 d_M_isSign_60 rfl rfl ?_
                      refine Wp.bipush d_M_isSign_61 (by decide) (by decide) ?_
                      obtain ⟨H52, H53⟩ := H50
                      refine Wp.icmp_ne 70 d_M_isSign_63 (by decide) (fun c51 => ?_) (fun c51 => ?_)
                      · have H54 := H52 c51
                        refine Wp.iconst d_M_isSign_70 (by decide) ?_
                        exact Wq.zret d_M_isSign_71 rfl (by decide) H54
                      · have H55 := H53 c51
                        refine Wp.iconst d_M_isSign_66 (by decide) ?_
                        refine Wp.goto 71 d_M_isSign_67 (by decide) ?_
                        exact Wq.zret d_M_isSign_71 rfl (by decide) H55
theorem d_M_isGood_0 : decode Y_M_isGood.2.1 0 = .ok (.aload_n 0, 1) := by decide +kernel
theorem d_M_isGood_1 : decode Y_M_isGood.2.1 1 = .ok (.getfield 146, 3) := by decide +kernel
theorem d_M_isGood_4 : decode Y_M_isGood.2.1 4 = .ok (.ifCond .ne 7, 3) := by decide +kernel
theorem d_M_isGood_7 : decode Y_M_isGood.2.1 7 = .ok (.iconst 1, 1) := by decide +kernel
theorem d_M_isGood_8 : decode Y_M_isGood.2.1 8 = .ok (.goto 4, 3) := by decide +kernel
theorem d_M_isGood_11 : decode Y_M_isGood.2.1 11 = .ok (.iconst 0, 1) := by decide +kernel
theorem d_M_isGood_12 : decode Y_M_isGood.2.1 12 = .ok (.ireturn, 1) := by decide +kernel
theorem e_M_isGood {l : Launch} {G : GT} {d : Nat} {P : Int → MM → Prop} {m : MM}   (H : wfM m → ((m 70 4) ≠ 0 → (P 0 m)) ∧ (¬ ((m 70 4) ≠ 0) → (P 1 m))) : CI l G Y_M_isGood d [.inr (.inr 70)] m P := by
  refine CI.of [(0, .inr (.inr 70))] k_M_isGood.1 (Nat.le_of_ble_eq_true rfl) rfl (Wp.wf (fun hw _ hl hs => ?_))
  have H0 := H hw
  refine Wp.aload_n 0 0 d_M_isGood_0 rfl rfl ?_
  refine Wq.getI 4 rfl d_M_isGood_1 fl_M_146 rfl (Or.inl rfl) ?_
  obtain ⟨H2, H3⟩ := H0
  refine Wp.if_ne 11 d_M_isGood_4 (by decide) (fun c1 => ?_) (fun c1 => ?_)
  · have H4 := H2 c1
    refine Wp.iconst d_M_isGood_11 (by decide) ?_
    exact Wq.zret d_M_isGood_12 rfl (by decide) H4
  · have H5 := H3 c1
    refine Wp.iconst d_M_isGood_7 (by decide) ?_
    refine Wp.goto 12 d_M_isGood_8 (by decide) ?_
    exact Wq.zret d_M_isGood_12 rfl (by decide) H5
theorem d_M_readLine_0 : decode Y_M_readLine.2.1 0 = .ok (.aload_n 0, 1) := by decide +kernel
theorem d_M_readLine_1 : decode Y_M_readLine.2.1 1 = .ok (.getfield 196, 3) := by decide +kernel
theorem d_M_readLine_4 : decode Y_M_readLine.2.1 4 = .ok (.lstore_n 1, 1) := by decide +kernel
theorem d_M_readLine_5 : decode Y_M_readLine.2.1 5 = .ok (.aload_n 0, 1) := by decide +kernel
theorem d_M_readLine_6 : decode Y_M_readLine.2.1 6 = .ok (.getfield 189, 3) := by decide +kernel
theorem d_M_readLine_9 : decode Y_M_readLine.2.1 9 = .ok (.iconst 3, 1) := by decide +kernel
theorem d_M_readLine_10 : decode Y_M_readLine.2.1 10 = .ok (.if_icmp .ne 10, 3) := by decide +kernel
theorem d_M_readLine_13 : decode Y_M_readLine.2.1 13 = .ok (.aload_n 0, 1) := by decide +kernel
theorem d_M_readLine_14 : decode Y_M_readLine.2.1 14 = .ok (.invokevirtual 256, 3) := by decide +kernel
theorem d_M_readLine_17 : decode Y_M_readLine.2.1 17 = .ok (.ifCond .eq 7, 3) := by decide +kernel
theorem d_M_readLine_20 : decode Y_M_readLine.2.1 20 = .ok (.aload_n 0, 1) := by decide +kernel
theorem d_M_readLine_21 : decode Y_M_readLine.2.1 21 = .ok (.invokevirtual 224, 3) := by decide +kernel
theorem d_M_readLine_24 : decode Y_M_readLine.2.1 24 = .ok (.aload_n 0, 1) := by decide +kernel
theorem d_M_readLine_25 : decode Y_M_readLine.2.1 25 = .ok (.invokevirtual 217, 3) := by decide +kernel
theorem d_M_readLine_28 : decode Y_M_readLine.2.1 28 = .ok (.ifCond .ne 4, 3) := by decide +kernel
theorem d_M_readLine_31 : decode Y_M_readLine.2.1 31 = .ok (.return_, 1) := by decide +kernel
theorem d_M_readLine_32 : decode Y_M_readLine.2.1 32 = .ok (.aload_n 0, 1) := by decide +kernel
theorem d_M_readLine_33 : decode Y_M_readLine.2.1 33 = .ok (.invokevirtual 221, 3) := by decide +kernel
theorem d_M_readLine_36 : decode Y_M_readLine.2.1 36 = .ok (.lload_n 1, 1) := by decide +kernel
theorem d_M_readLine_37 : decode Y_M_readLine.2.1 37 = .ok (.ldc2_w 149, 3) := by decide +kernel
theorem d_M_readLine_40 : decode Y_M_readLine.2.1 40 = .ok (.lcmp, 1) := by decide +kernel
theorem d_M_readLine_41 : decode Y_M_readLine.2.1 41 = .ok (.ifCond .ne 7, 3) := by decide +kernel
theorem d_M_readLine_44 : decode Y_M_readLine.2.1 44 = .ok (.aload_n 0, 1) := by decide +kernel
theorem d_M_readLine_45 : decode Y_M_readLine.2.1 45 = .ok (.invokevirtual 259, 3) := by decide +kernel
theorem d_M_readLine_48 : decode Y_M_readLine.2.1 48 = .ok (.lload_n 1, 1) := by decide +kernel
theorem d_M_readLine_49 : decode Y_M_readLine.2.1 49 = .ok (.ldc2_w 153, 3) := by decide +kernel
theorem d_M_readLine_52 : decode Y_M_readLine.2.1 52 = .ok (.lcmp, 1) := by decide +kernel
theorem d_M_readLine_53 : decode Y_M_readLine.2.1 53 = .ok (.ifCond .ne 7, 3) := by decide +kernel
theorem d_M_readLine_56 : decode Y_M_readLine.2.1 56 = .ok (.aload_n 0, 1) := by decide +kernel
theorem d_M_readLine_57 : decode Y_M_readLine.2.1 57 = .ok (.invokevirtual 262, 3) := by decide +kernel
theorem d_M_readLine_60 : decode Y_M_readLine.2.1 60 = .ok (.lload_n 1, 1) := by decide +kernel
theorem d_M_readLine_61 : decode Y_M_readLine.2.1 61 = .ok (.ldc2_w 157, 3) := by decide +kernel
theorem d_M_readLine_64 : decode Y_M_readLine.2.1 64 = .ok (.lcmp, 1) := by decide +kernel
theorem d_M_readLine_65 : decode Y_M_readLine.2.1 65 = .ok (.ifCond .ne 7, 3) := by decide +kernel
theorem d_M_readLine_68 : decode Y_M_readLine.2.1 68 = .ok (.aload_n 0, 1) := by decide +kernel
theorem d_M_readLine_69 : decode Y_M_readLine.2.1 69 = .ok (.invokevirtual 265, 3) := by decide +kernel
theorem d_M_readLine_72 : decode Y_M_readLine.2.1 72 = .ok (.lload_n 1, 1) := by decide +kernel
theorem d_M_readLine_73 : decode Y_M_readLine.2.1 73 = .ok (.ldc2_w 159, 3) := by decide +kernel
theorem d_M_readLine_76 : decode Y_M_readLine.2.1 76 = .ok (.lcmp, 1) := by decide +kernel
theorem d_M_readLine_77 : decode Y_M_readLine.2.1 77 = .ok (.ifCond .ne 7, 3) := by decide +kernel
theorem d_M_readLine_80 : decode Y_M_readLine.2.1 80 = .ok (.aload_n 0, 1) := by decide +kernel
theorem d_M_readLine_81 : decode Y_M_readLine.2.1 81 = .ok (.invokevirtual 268, 3) := by decide +kernel
theorem d_M_readLine_84 : decode Y_M_readLine.2.1 84 = .ok (.lload_n 1, 1) := by decide +kernel
theorem d_M_readLine_85 : decode Y_M_readLine.2.1 85 = .ok (.ldc2_w 161, 3) := by decide +kernel
theorem d_M_readLine_88 : decode Y_M_readLine.2.1 88 = .ok (.lcmp, 1) := by decide +kernel
theorem d_M_readLine_89 : decode Y_M_readLine.2.1 89 = .ok (.ifCond .ne 19, 3) := by decide +kernel
theorem d_M_readLine_92 : decode Y_M_readLine.2.1 92 = .ok (.aload_n 0, 1) := by decide +kernel
theorem d_M_readLine_93 : decode Y_M_readLine.2.1 93 = .ok (.getfield 30, 3) := by decide +kernel
theorem d_M_readLine_96 : decode Y_M_readLine.2.1 96 = .ok (.aload_n 0, 1) := by decide +kernel
theorem d_M_readLine_97 : decode Y_M_readLine.2.1 97 = .ok (.getfield 234, 3) := by decide +kernel
theorem d_M_readLine_100 : decode Y_M_readLine.2.1 100 = .ok (.aload_n 0, 1) := by decide +kernel
theorem d_M_readLine_101 : decode Y_M_readLine.2.1 101 = .ok (.iconst 1, 1) := by decide +kernel
theorem d_M_readLine_102 : decode Y_M_readLine.2.1 102 = .ok (.bipush 100, 2) := by decide +kernel
theorem d_M_readLine_104 : decode Y_M_readLine.2.1 104 = .ok (.invokevirtual 271, 3) := by decide +kernel
theorem d_M_readLine_107 : decode Y_M_readLine.2.1 107 = .ok (.iastore, 1) := by decide +kernel
theorem d_M_readLine_108 : decode Y_M_readLine.2.1 108 = .ok (.lload_n 1, 1) := by decide +kernel
theorem d_M_readLine_109 : decode Y_M_readLine.2.1 109 = .ok (.ldc2_w 163, 3) := by decide +kernel
theorem d_M_readLine_112 : decode Y_M_readLine.2.1 112 = .ok (.lcmp, 1) := by decide +kernel
theorem d_M_readLine_113 : decode Y_M_readLine.2.1 113 = .ok (.ifCond .ne 20, 3) := by decide +kernel
theorem d_M_readLine_116 : decode Y_M_readLine.2.1 116 = .ok (.aload_n 0, 1) := by decide +kernel
theorem d_M_readLine_117 : decode Y_M_readLine.2.1 117 = .ok (.getfield 33, 3) := by decide +kernel
theorem d_M_readLine_120 : decode Y_M_readLine.2.1 120 = .ok (.aload_n 0, 1) := by decide +kernel
theorem d_M_readLine_121 : decode Y_M_readLine.2.1 121 = .ok (.getfield 234, 3) := by decide +kernel
theorem d_M_readLine_124 : decode Y_M_readLine.2.1 124 = .ok (.aload_n 0, 1) := by decide +kernel
theorem d_M_readLine_125 : decode Y_M_readLine.2.1 125 = .ok (.iconst 2, 1) := by decide +kernel
theorem d_M_readLine_126 : decode Y_M_readLine.2.1 126 = .ok (.sipush 999, 3) := by decide +kernel
theorem d_M_readLine_129 : decode Y_M_readLine.2.1 129 = .ok (.invokevirtual 271, 3) := by decide +kernel
theorem d_M_readLine_132 : decode Y_M_readLine.2.1 132 = .ok (.iastore, 1) := by decide +kernel
theorem d_M_readLine_133 : decode Y_M_readLine.2.1 133 = .ok (.aload_n 0, 1) := by decide +kernel
theorem d_M_readLine_134 : decode Y_M_readLine.2.1 134 = .ok (.aload_n 0, 1) := by decide +kernel
theorem d_M_readLine_135 : decode Y_M_readLine.2.1 135 = .ok (.bipush 59, 2) := by decide +kernel
theorem d_M_readLine_137 : decode Y_M_readLine.2.1 137 = .ok (.invokevirtual 274, 3) := by decide +kernel
theorem d_M_readLine_140 : decode Y_M_readLine.2.1 140 = .ok (.invokevirtual 277, 3) := by decide +kernel
theorem d_M_readLine_143 : decode Y_M_readLine.2.1 143 = .ok (.return_, 1) := by decide +kernel
theorem e_M_readLine {l : Launch} {G : GT} {d : Nat} {P : MM → Prop} {m : MM}   (H : wfM m → ((m 70 8) ≠ 3 → (∃ (e6 : Nat) (P7 : MM → Prop), e6 < d ∧ CV l G Y_M_misplaced e6 [.inr (.inr 70)] m P7 ∧ (∀ m13, P7 m13 → wfM m13 → (Wq l G false Y_M_readLine d (QV P) 24 [(0, .inr (.inr 70)), (1, .inr (.inl (m 70 10)))] [] m13)))) ∧ (¬ ((m 70 8) ≠ 3) → (∃ (e17 : Nat) (P18 : Int → MM → Prop), e17 < d ∧ CI l G Y_M_isFull e17 [.inr (.inr 70)] m P18 ∧ (∀ z23 m24, P18 z23 m24 → inR z23 → wfM m24 → ((z23 = 0 → (Wq l G false Y_M_readLine d (QV P) 24 [(0, .inr (.inr 70)), (1, .inr (.inl (m 70 10)))] [] m24)) ∧ (¬ (z23 = 0) → (∃ (e33 : Nat) (P34 : MM → Prop), e33 < d ∧ CV l G Y_M_misplaced e33 [.inr (.inr 70)] m24 P34 ∧ (∀ m40, P34 m40 → wfM m40 → (Wq l G false Y_M_readLine d (QV P) 24 [(0, .inr (.inr 70)), (1, .inr (.inl (m 70 10)))] [] m40))))))))) : CV l G Y_M_readLine d [.inr (.inr 70)] m P := by
  refine CV.of [(0, .inr (.inr 70))] k_M_readLine.1 (Nat.le_of_ble_eq_true rfl) rfl (Wp.wf (fun hw _ hl hs => ?_))
  have H0 := H hw
  refine Wp.aload_n 0 0 d_M_readLine_0 rfl rfl ?_
  refine Wq.getL 10 rfl d_M_readLine_1 fl_M_196 rfl rfl ?_
  refine Wp.lstore_n 1 [(0, .inr (.inr 70)), (1, .inr (.inl (m 70 10)))] d_M_readLine_4 rfl (by decide) rfl ?_
  refine Wp.aload_n 0 0 d_M_readLine_5 rfl rfl ?_
  refine Wq.getI 8 rfl d_M_readLine_6 fl_M_189 rfl (Or.inl rfl) ?_
  refine Wp.iconst d_M_readLine_9 (by decide) ?_
  obtain ⟨H2, H3⟩ := H0
  refine Wp.icmp_ne 20 d_M_readLine_10 (by decide) (fun c1 => ?_) (fun c1 => ?_)
  · have H4 := H2 c1
    refine Wp.aload_n 0 0 d_M_readLine_20 rfl rfl ?_
    obtain ⟨e6, P7, hd8, ho9, H10⟩ := H4
    refine Wq.VV (st := []) [] d_M_readLine_21 k_M_misplaced ml_M_224 rfl rfl rfl (fun h => by cases h) (Nat.le_of_ble_eq_true rfl) hd8 ho9 (fun m13 hp14 hw16 => ?_)
    have H11 := H10 m13 hp14 hw16
    exact H11
  · have H5 := H3 c1
    refine Wp.aload_n 0 0 d_M_readLine_13 rfl rfl ?_
    obtain ⟨e17, P18, hd19, ho20, H21⟩ := H5
    refine Wq.VI (st := []) [] d_M_readLine_14 k_M_isFull ml_M_256 rfl rfl rfl (fun h => by cases h) (Nat.le_of_ble_eq_true rfl) hd19 ho20 (fun z23 m24 hp25 hz26 hw27 => ?_)
    have H22 := H21 z23 m24 hp25 hz26 hw27
    obtain ⟨H29, H30⟩ := H22
    refine Wp.if_eq 24 d_M_readLine_17 (by decide) (fun c28 => ?_) (fun c28 => ?_)
    · have H31 := H29 c28
      exact H31
    · have H32 := H30 c28
      refine Wp.aload_n 0 0 d_M_readLine_20 rfl rfl ?_
      obtain ⟨e33, P34, hd35, ho36, H37⟩ := H32
      refine Wq.VV (st := []) [] d_M_readLine_21 k_M_misplaced ml_M_224 rfl rfl rfl (fun h => by cases h) (Nat.le_of_ble_eq_true rfl) hd35 ho36 (fun m40 hp41 hw43 => ?_)
      have H38 := H37 m40 hp41 hw43
      exact H38
theorem s_M_readLine_24 {l : Launch} {G : GT} {d : Nat} {P : MM → Prop} {m : MM} (x1 : Int)  (H : wfM m → inL x1 → ∃ (e1 : Nat) (P2 : Int → MM → Prop), e1 < d ∧ CI l G Y_M_isGood e1 [.inr (.inr 70)] m P2 ∧ (∀ z7 m8, P2 z7 m8 → inR z7 → wfM m8 → ((z7 ≠ 0 → (∃ (e17 : Nat) (P18 : MM → Prop), e17 < d ∧ CV l G Y_M_goOn e17 [.inr (.inr 70)] m8 P18 ∧ (∀ m24, P18 m24 → wfM m24 → ((x1 ≠ 482854663269 → ((x1 ≠ 426954290277 → ((x1 ≠ 431415716206 → ((x1 ≠ 439721159795 → (Wq l G false Y_M_readLine d (QV P) 84 [(0, .inr (.inr 70)), (1, .inr (.inl x1))] [] m24)) ∧ (¬ (x1 ≠ 439721159795) → (∃ (e48 : Nat) (P49 : MM → Prop), e48 < d ∧ CV l G Y_M_readRule e48 [.inr (.inr 70)] m24 P49 ∧ (∀ m55, P49 m55 → wfM m55 → (Wq l G false Y_M_readLine d (QV P) 84 [(0, .inr (.inr 70)), (1, .inr (.inl x1))] [] m55)))))) ∧ (¬ (x1 ≠ 431415716206) → (∃ (e59 : Nat) (P60 : MM → Prop), e59 < d ∧ CV l G Y_M_readDrain e59 [.inr (.inr 70)] m24 P60 ∧ (∀ m66, P60 m66 → wfM m66 → ((x1 ≠ 439721159795 → (Wq l G false Y_M_readLine d (QV P) 84 [(0, .inr (.inr 70)), (1, .inr (.inl x1))] [] m66)) ∧ (¬ (x1 ≠ 439721159795) → (∃ (e75 : Nat) (P76 : MM → Prop), e75 < d ∧ CV l G Y_M_readRule e75 [.inr (.inr 70)] m66 P76 ∧ (∀ m82, P76 m82 → wfM m82 → (Wq l G false Y_M_readLine d (QV P) 84 [(0, .inr (.inr 70)), (1, .inr (.inl x1))] [] m82)))))))))) ∧ (¬ (x1 ≠ 426954290277) → (∃ (e86 : Nat) (P87 : MM → Prop), e86 < d ∧ CV l G Y_M_readChute e86 [.inr (.inr 70)] m24 P87 ∧ (∀ m93, P87 m93 → wfM m93 → ((x1 ≠ 431415716206 → ((x1 ≠ 439721159795 → (Wq l G false Y_M_readLine d (QV P) 84 [(0, .inr (.inr 70)), (1, .inr (.inl x1))] [] m93)) ∧ (¬ (x1 ≠ 439721159795) → (∃ (e107 : Nat) (P108 : MM → Prop), e107 < d ∧ CV l G Y_M_readRule e107 [.inr (.inr 70)] m93 P108 ∧ (∀ m114, P108 m114 → wfM m114 → (Wq l G false Y_M_readLine d (QV P) 84 [(0, .inr (.inr 70)), (1, .inr (.inl x1))] [] m114)))))) ∧ (¬ (x1 ≠ 431415716206) → (∃ (e118 : Nat) (P119 : MM → Prop), e118 < d ∧ CV l G Y_M_readDrain e118 [.inr (.inr 70)] m93 P119 ∧ (∀ m125, P119 m125 → wfM m125 → ((x1 ≠ 439721159795 → (Wq l G false Y_M_readLine d (QV P) 84 [(0, .inr (.inr 70)), (1, .inr (.inl x1))] [] m125)) ∧ (¬ (x1 ≠ 439721159795) → (∃ (e134 : Nat) (P135 : MM → Prop), e134 < d ∧ CV l G Y_M_readRule e134 [.inr (.inr 70)] m125 P135 ∧ (∀ m141, P135 m141 → wfM m141 → (Wq l G false Y_M_readLine d (QV P) 84 [(0, .inr (.inr 70)), (1, .inr (.inl x1))] [] m141)))))))))))))) ∧ (¬ (x1 ≠ 482854663269) → (∃ (e145 : Nat) (P146 : MM → Prop), e145 < d ∧ CV l G Y_M_readPlate e145 [.inr (.inr 70)] m24 P146 ∧ (∀ m152, P146 m152 → wfM m152 → ((x1 ≠ 426954290277 → ((x1 ≠ 431415716206 → ((x1 ≠ 439721159795 → (Wq l G false Y_M_readLine d (QV P) 84 [(0, .inr (.inr 70)), (1, .inr (.inl x1))] [] m152)) ∧ (¬ (x1 ≠ 439721159795) → (∃ (e171 : Nat) (P172 : MM → Prop), e171 < d ∧ CV l G Y_M_readRule e171 [.inr (.inr 70)] m152 P172 ∧ (∀ m178, P172 m178 → wfM m178 → (Wq l G false Y_M_readLine d (QV P) 84 [(0, .inr (.inr 70)), (1, .inr (.inl x1))] [] m178)))))) ∧ (¬ (x1 ≠ 431415716206) → (∃ (e182 : Nat) (P183 : MM → Prop), e182 < d ∧ CV l G Y_M_readDrain e182 [.inr (.inr 70)] m152 P183 ∧ (∀ m189, P183 m189 → wfM m189 → ((x1 ≠ 439721159795 → (Wq l G false Y_M_readLine d (QV P) 84 [(0, .inr (.inr 70)), (1, .inr (.inl x1))] [] m189)) ∧ (¬ (x1 ≠ 439721159795) → (∃ (e198 : Nat) (P199 : MM → Prop), e198 < d ∧ CV l G Y_M_readRule e198 [.inr (.inr 70)] m189 P199 ∧ (∀ m205, P199 m205 → wfM m205 → (Wq l G false Y_M_readLine d (QV P) 84 [(0, .inr (.inr 70)), (1, .inr (.inl x1))] [] m205)))))))))) ∧ (¬ (x1 ≠ 426954290277) → (∃ (e209 : Nat) (P210 : MM → Prop), e209 < d ∧ CV l G Y_M_readChute e209 [.inr (.inr 70)] m152 P210 ∧ (∀ m216, P210 m216 → wfM m216 → ((x1 ≠ 431415716206 → ((x1 ≠ 439721159795 → (Wq l G false Y_M_readLine d (QV P) 84 [(0, .inr (.inr 70)), (1, .inr (.inl x1))] [] m216)) ∧ (¬ (x1 ≠ 439721159795) → (∃ (e230 : Nat) (P231 : MM → Prop), e230 < d ∧ CV l G Y_M_readRule e230 [.inr (.inr 70)] m216 P231 ∧ (∀ m237, P231 m237 → wfM m237 → (Wq l G false Y_M_readLine d (QV P) 84 [(0, .inr (.inr 70)), (1, .inr (.inl x1))] [] m237)))))) ∧ (¬ (x1 ≠ 431415716206) → (∃ (e241 : Nat) (P242 : MM → Prop), e241 < d ∧ CV l G Y_M_readDrain e241 [.inr (.inr 70)] m216 P242 ∧ (∀ m248, P242 m248 → wfM m248 → ((x1 ≠ 439721159795 → (Wq l G false Y_M_readLine d (QV P) 84 [(0, .inr (.inr 70)), (1, .inr (.inl x1))] [] m248)) ∧ (¬ (x1 ≠ 439721159795) → (∃ (e257 : Nat) (P258 : MM → Prop), e257 < d ∧ CV l G Y_M_readRule e257 [.inr (.inr 70)] m248 P258 ∧ (∀ m264, P258 m264 → wfM m264 → (Wq l G false Y_M_readLine d (QV P) 84 [(0, .inr (.inr 70)), (1, .inr (.inl x1))] [] m264)))))))))))))))))))) ∧ (¬ (z7 ≠ 0) → (P m8))))) : Wq l G false Y_M_readLine d (QV P) 24 [(0, .inr (.inr 70)), (1, .inr (.inl x1))] [] m := by
  refine Wp.wf (fun hw _ hl hs => ?_)
  have H0 := H hw (hl _ (List.mem_of_getElem? (i := 1) rfl))
  refine Wp.aload_n 0 0 d_M_readLine_24 rfl rfl ?_
  obtain ⟨e1, P2, hd3, ho4, H5⟩ := H0
  refine Wq.VI (st := []) [] d_M_readLine_25 k_M_isGood ml_M_217 rfl rfl rfl (fun h => by cases h) (Nat.le_of_ble_eq_true rfl) hd3 ho4 (fun z7 m8 hp9 hz10 hw11 => ?_)
  have H6 := H5 z7 m8 hp9 hz10 hw11
  obtain ⟨H13, H14⟩ := H6
  refine Wp.if_ne 32 d_M_readLine_28 (by decide) (fun c12 => ?_) (fun c12 => ?_)
  · have H15 := H13 c12
    refine Wp.aload_n 0 0 d_M_readLine_32 rfl rfl ?_
    obtain ⟨e17, P18, hd19, ho20, H21⟩ := H15
    refine Wq.VV (st := []) [] d_M_readLine_33 k_M_goOn ml_M_221 rfl rfl rfl (fun h => by cases h) (Nat.le_of_ble_eq_true rfl) hd19 ho20 (fun m24 hp25 hw27 => ?_)
    have H22 := H21 m24 hp25 hw27
    refine Wp.lload_n 1 1 d_M_readLine_36 rfl rfl ?_
    refine Wp.ldc2 (z := 482854663269) d_M_readLine_37 kl_M_149 (by decide) (by decide) ?_
    obtain ⟨H29, H30⟩ := H22
    refine Wq.lif_ne 48 d_M_readLine_40 d_M_readLine_41 (by decide) (fun c28 => ?_) (fun c28 => ?_)
    · have H31 := H29 c28
      refine Wp.lload_n 1 1 d_M_readLine_48 rfl rfl ?_
      refine Wp.ldc2 (z := 426954290277) d_M_readLine_49 kl_M_153 (by decide) (by decide) ?_
      obtain ⟨H34, H35⟩ := H31
      refine Wq.lif_ne 60 d_M_readLine_52 d_M_readLine_53 (by decide) (fun c33 => ?_) (fun c33 => ?_)
      · have H36 := H34 c33
        refine Wp.lload_n 1 1 d_M_readLine_60 rfl rfl ?_
        refine Wp.ldc2 (z := 431415716206) d_M_readLine_61 kl_M_157 (by decide) (by decide) ?_
        obtain ⟨H39, H40⟩ := H36
        refine Wq.lif_ne 72 d_M_readLine_64 d_M_readLine_65 (by decide) (fun c38 => ?_) (fun c38 => ?_)
        · have H41 := H39 c38
          refine Wp.lload_n 1 1 d_M_readLine_72 rfl rfl ?_
          refine Wp.ldc2 (z := 439721159795) d_M_readLine_73 kl_M_159 (by decide) (by decide) ?_
          obtain ⟨H44, H45⟩ := H41
          refine Wq.lif_ne 84 d_M_readLine_76 d_M_readLine_77 (by decide) (fun c43 => ?_) (fun c43 => ?_)
          · have H46 := H44 c43
            exact H46
          · have H47 := H45 c43
            refine Wp.aload_n 0 0 d_M_readLine_80 rfl rfl ?_
            obtain ⟨e48, P49, hd50, ho51, H52⟩ := H47
            refine Wq.VV (st := []) [] d_M_readLine_81 k_M_readRule ml_M_268 rfl rfl rfl (fun h => by cases h) (Nat.le_of_ble_eq_true rfl) hd50 ho51 (fun m55 hp56 hw58 => ?_)
            have H53 := H52 m55 hp56 hw58
            exact H53
        · have H42 := H40 c38
          refine Wp.aload_n 0 0 d_M_readLine_68 rfl rfl ?_
          obtain ⟨e59, P60, hd61, ho62, H63⟩ := H42
          refine Wq.VV (st := []) [] d_M_readLine_69 k_M_readDrain ml_M_265 rfl rfl rfl (fun h => by cases h) (Nat.le_of_ble_eq_true rfl) hd61 ho62 (fun m66 hp67 hw69 => ?_)
          have H64 := H63 m66 hp67 hw69
          refine Wp.lload_n 1 1 d_M_readLine_72 rfl rfl ?_
          refine Wp.ldc2 (z := 439721159795) d_M_readLine_73 kl_M_159 (by decide) (by decide) ?_
          obtain ⟨H71, H72⟩ := H64
          refine Wq.lif_ne 84 d_M_readLine_76 d_M_readLine_77 (by decide) (fun c70 => ?_) (fun c70 => ?_)
          · have H73 := H71 c70
            exact H73
          · have H74 := H72 c70
            refine Wp.aload_n 0 0 d_M_readLine_80 rfl rfl ?_
            obtain ⟨e75, P76, hd77, ho78, H79⟩ := H74
            refine Wq.VV (st := []) [] d_M_readLine_81 k_M_readRule ml_M_268 rfl rfl rfl (fun h => by cases h) (Nat.le_of_ble_eq_true rfl) hd77 ho78 (fun m82 hp83 hw85 => ?_)
            have H80 := H79 m82 hp83 hw85
            exact H80
      · have H37 := H35 c33
        refine Wp.aload_n 0 0 d_M_readLine_56 rfl rfl ?_
        obtain ⟨e86, P87, hd88, ho89, H90⟩ := H37
        refine Wq.VV (st := []) [] d_M_readLine_57 k_M_readChute ml_M_262 rfl rfl rfl (fun h => by cases h) (Nat.le_of_ble_eq_true rfl) hd88 ho89 (fun m93 hp94 hw96 => ?_)
        have H91 := H90 m93 hp94 hw96
        refine Wp.lload_n 1 1 d_M_readLine_60 rfl rfl ?_
        refine Wp.ldc2 (z := 431415716206) d_M_readLine_61 kl_M_157 (by decide) (by decide) ?_
        obtain ⟨H98, H99⟩ := H91
        refine Wq.lif_ne 72 d_M_readLine_64 d_M_readLine_65 (by decide) (fun c97 => ?_) (fun c97 => ?_)
        · have H100 := H98 c97
          refine Wp.lload_n 1 1 d_M_readLine_72 rfl rfl ?_
          refine Wp.ldc2 (z := 439721159795) d_M_readLine_73 kl_M_159 (by decide) (by decide) ?_
          obtain ⟨H103, H104⟩ := H100
          refine Wq.lif_ne 84 d_M_readLine_76 d_M_readLine_77 (by decide) (fun c102 => ?_) (fun c102 => ?_)
          · have H105 := H103 c102
            exact H105
          · have H106 := H104 c102
            refine Wp.aload_n 0 0 d_M_readLine_80 rfl rfl ?_
            obtain ⟨e107, P108, hd109, ho110, H111⟩ := H106
            refine Wq.VV (st := []) [] d_M_readLine_81 k_M_readRule ml_M_268 rfl rfl rfl (fun h => by cases h) (Nat.le_of_ble_eq_true rfl) hd109 ho110 (fun m114 hp115 hw117 => ?_)
            have H112 := H111 m114 hp115 hw117
            exact H112
        · have H101 := H99 c97
          refine Wp.aload_n 0 0 d_M_readLine_68 rfl rfl ?_
          obtain ⟨e118, P119, hd120, ho121, H122⟩ := H101
          refine Wq.VV (st := []) [] d_M_readLine_69 k_M_readDrain ml_M_265 rfl rfl rfl (fun h => by cases h) (Nat.le_of_ble_eq_true rfl) hd120 ho121 (fun m125 hp126 hw128 => ?_)
          have H123 := H122 m125 hp126 hw128
          refine Wp.lload_n 1 1 d_M_readLine_72 rfl rfl ?_
          refine Wp.ldc2 (z := 439721159795) d_M_readLine_73 kl_M_159 (by decide) (by decide) ?_
          obtain ⟨H130, H131⟩ := H123
          refine Wq.lif_ne 84 d_M_readLine_76 d_M_readLine_77 (by decide) (fun c129 => ?_) (fun c129 => ?_)
          · have H132 := H130 c129
            exact H132
          · have H133 := H131 c129
            refine Wp.aload_n 0 0 d_M_readLine_80 rfl rfl ?_
            obtain ⟨e134, P135, hd136, ho137, H138⟩ := H133
            refine Wq.VV (st := []) [] d_M_readLine_81 k_M_readRule ml_M_268 rfl rfl rfl (fun h => by cases h) (Nat.le_of_ble_eq_true rfl) hd136 ho137 (fun m141 hp142 hw144 => ?_)
            have H139 := H138 m141 hp142 hw144
            exact H139
    · have H32 := H30 c28
      refine Wp.aload_n 0 0 d_M_readLine_44 rfl rfl ?_
      obtain ⟨e145, P146, hd147, ho148, H149⟩ := H32
      refine Wq.VV (st := []) [] d_M_readLine_45 k_M_readPlate ml_M_259 rfl rfl rfl (fun h => by cases h) (Nat.le_of_ble_eq_true rfl) hd147 ho148 (fun m152 hp153 hw155 => ?_)
      have H150 := H149 m152 hp153 hw155
      refine Wp.lload_n 1 1 d_M_readLine_48 rfl rfl ?_
      refine Wp.ldc2 (z := 426954290277) d_M_readLine_49 kl_M_153 (by decide) (by decide) ?_
      obtain ⟨H157, H158⟩ := H150
      refine Wq.lif_ne 60 d_M_readLine_52 d_M_readLine_53 (by decide) (fun c156 => ?_) (fun c156 => ?_)
      · have H159 := H157 c156
        refine Wp.lload_n 1 1 d_M_readLine_60 rfl rfl ?_
        refine Wp.ldc2 (z := 431415716206) d_M_readLine_61 kl_M_157 (by decide) (by decide) ?_
        obtain ⟨H162, H163⟩ := H159
        refine Wq.lif_ne 72 d_M_readLine_64 d_M_readLine_65 (by decide) (fun c161 => ?_) (fun c161 => ?_)
        · have H164 := H162 c161
          refine Wp.lload_n 1 1 d_M_readLine_72 rfl rfl ?_
          refine Wp.ldc2 (z := 439721159795) d_M_readLine_73 kl_M_159 (by decide) (by decide) ?_
          obtain ⟨H167, H168⟩ := H164
          refine Wq.lif_ne 84 d_M_readLine_76 d_M_readLine_77 (by decide) (fun c166 => ?_) (fun c166 => ?_)
          · have H169 := H167 c166
            exact H169
          · have H170 := H168 c166
            refine Wp.aload_n 0 0 d_M_readLine_80 rfl rfl ?_
            obtain ⟨e171, P172, hd173, ho174, H175⟩ := H170
            refine Wq.VV (st := []) [] d_M_readLine_81 k_M_readRule ml_M_268 rfl rfl rfl (fun h => by cases h) (Nat.le_of_ble_eq_true rfl) hd173 ho174 (fun m178 hp179 hw181 => ?_)
            have H176 := H175 m178 hp179 hw181
            exact H176
        · have H165 := H163 c161
          refine Wp.aload_n 0 0 d_M_readLine_68 rfl rfl ?_
          obtain ⟨e182, P183, hd184, ho185, H186⟩ := H165
          refine Wq.VV (st := []) [] d_M_readLine_69 k_M_readDrain ml_M_265 rfl rfl rfl (fun h => by cases h) (Nat.le_of_ble_eq_true rfl) hd184 ho185 (fun m189 hp190 hw192 => ?_)
          have H187 := H186 m189 hp190 hw192
          refine Wp.lload_n 1 1 d_M_readLine_72 rfl rfl ?_
          refine Wp.ldc2 (z := 439721159795) d_M_readLine_73 kl_M_159 (by decide) (by decide) ?_
          obtain ⟨H194, H195⟩ := H187
          refine Wq.lif_ne 84 d_M_readLine_76 d_M_readLine_77 (by decide) (fun c193 => ?_) (fun c193 => ?_)
          · have H196 := H194 c193
            exact H196
          · have H197 := H195 c193
            refine Wp.aload_n 0 0 d_M_readLine_80 rfl rfl ?_
            obtain ⟨e198, P199, hd200, ho201, H202⟩ := H197
            refine Wq.VV (st := []) [] d_M_readLine_81 k_M_readRule ml_M_268 rfl rfl rfl (fun h => by cases h) (Nat.le_of_ble_eq_true rfl) hd200 ho201 (fun m205 hp206 hw208 => ?_)
            have H203 := H202 m205 hp206 hw208
            exact H203
      · have H160 := H158 c156
        refine Wp.aload_n 0 0 d_M_readLine_56 rfl rfl ?_
        obtain ⟨e209, P210, hd211, ho212, H213⟩ := H160
        refine Wq.VV (st := []) [] d_M_readLine_57 k_M_readChute ml_M_262 rfl rfl rfl (fun h => by cases h) (Nat.le_of_ble_eq_true rfl) hd211 ho212 (fun m216 hp217 hw219 => ?_)
        have H214 := H213 m216 hp217 hw219
        refine Wp.lload_n 1 1 d_M_readLine_60 rfl rfl ?_
        refine Wp.ldc2 (z := 431415716206) d_M_readLine_61 kl_M_157 (by decide) (by decide) ?_
        obtain ⟨H221, H222⟩ := H214
        refine Wq.lif_ne 72 d_M_readLine_64 d_M_readLine_65 (by decide) (fun c220 => ?_) (fun c220 => ?_)
        · have H223 := H221 c220
          refine Wp.lload_n 1 1 d_M_readLine_72 rfl rfl ?_
          refine Wp.ldc2 (z := 439721159795) d_M_readLine_73 kl_M_159 (by decide) (by decide) ?_
          obtain ⟨H226, H227⟩ := H223
          refine Wq.lif_ne 84 d_M_readLine_76 d_M_readLine_77 (by decide) (fun c225 => ?_) (fun c225 => ?_)
          · have H228 := H226 c225
            exact H228
          · have H229 := H227 c225
            refine Wp.aload_n 0 0 d_M_readLine_80 rfl rfl ?_
            obtain ⟨e230, P231, hd232, ho233, H234⟩ := H229
            refine Wq.VV (st := []) [] d_M_readLine_81 k_M_readRule ml_M_268 rfl rfl rfl (fun h => by cases h) (Nat.le_of_ble_eq_true rfl) hd232 ho233 (fun m237 hp238 hw240 => ?_)
            have H235 := H234 m237 hp238 hw240
            exact H235
        · have H224 := H222 c220
          refine Wp.aload_n 0 0 d_M_readLine_68 rfl rfl ?_
          obtain ⟨e241, P242, hd243, ho244, H245⟩ := H224
          refine Wq.VV (st := []) [] d_M_readLine_69 k_M_readDrain ml_M_265 rfl rfl rfl (fun h => by cases h) (Nat.le_of_ble_eq_true rfl) hd243 ho244 (fun m248 hp249 hw251 => ?_)
          have H246 := H245 m248 hp249 hw251
          refine Wp.lload_n 1 1 d_M_readLine_72 rfl rfl ?_
          refine Wp.ldc2 (z := 439721159795) d_M_readLine_73 kl_M_159 (by decide) (by decide) ?_
          obtain ⟨H253, H254⟩ := H246
          refine Wq.lif_ne 84 d_M_readLine_76 d_M_readLine_77 (by decide) (fun c252 => ?_) (fun c252 => ?_)
          · have H255 := H253 c252
            exact H255
          · have H256 := H254 c252
            refine Wp.aload_n 0 0 d_M_readLine_80 rfl rfl ?_
            obtain ⟨e257, P258, hd259, ho260, H261⟩ := H256
            refine Wq.VV (st := []) [] d_M_readLine_81 k_M_readRule ml_M_268 rfl rfl rfl (fun h => by cases h) (Nat.le_of_ble_eq_true rfl) hd259 ho260 (fun m264 hp265 hw267 => ?_)
            have H262 := H261 m264 hp265 hw267
            exact H262
  · have H16 := H14 c12
    exact Wq.vret d_M_readLine_31 rfl H16
theorem s_M_readLine_84 {l : Launch} {G : GT} {d : Nat} {P : MM → Prop} {m : MM} (x1 : Int)  (H : wfM m → inL x1 → (x1 ≠ 1819632491 → ((x1 ≠ 1685217655 → (∃ (e11 : Nat) (P12 : Int → MM → Prop), e11 < d ∧ CI l G Y_M_isSignHere e11 [.inr (.inr 70), .inl 59] m P12 ∧ (∀ z17 m18, P12 z17 m18 → inR z17 → wfM m18 → (∃ (e22 : Nat) (P23 : MM → Prop), e22 < d ∧ CV l G Y_M_must e22 [.inr (.inr 70), .inl z17] m18 P23 ∧ (∀ m29, P23 m29 → wfM m29 → (P m29)))))) ∧ (¬ (x1 ≠ 1685217655) → (∃ (e33 : Nat) (P34 : Int → MM → Prop), e33 < d ∧ CI l G Y_M_once e33 [.inr (.inr 70), .inl 2, .inl 999] m P34 ∧ (∀ z39 m40, P34 z39 m40 → inR z39 → wfM m40 → ((0 ≤ (m 70 29) ∧ (m 70 29) < (2 : Int)) ∧ (∀ m44, m44 = up m40 77 (m 70 29) z39 → (∃ (e49 : Nat) (P50 : Int → MM → Prop), e49 < d ∧ CI l G Y_M_isSignHere e49 [.inr (.inr 70), .inl 59] m44 P50 ∧ (∀ z55 m56, P50 z55 m56 → inR z55 → wfM m56 → (∃ (e60 : Nat) (P61 : MM → Prop), e60 < d ∧ CV l G Y_M_must e60 [.inr (.inr 70), .inl z55] m56 P61 ∧ (∀ m67, P61 m67 → wfM m67 → (P m67)))))))))))) ∧ (¬ (x1 ≠ 1819632491) → (∃ (e73 : Nat) (P74 : Int → MM → Prop), e73 < d ∧ CI l G Y_M_once e73 [.inr (.inr 70), .inl 1, .inl 100] m P74 ∧ (∀ z79 m80, P74 z79 m80 → inR z79 → wfM m80 → ((0 ≤ (m 70 29) ∧ (m 70 29) < (2 : Int)) ∧ (∀ m84, m84 = up m80 76 (m 70 29) z79 → ((x1 ≠ 1685217655 → (∃ (e94 : Nat) (P95 : Int → MM → Prop), e94 < d ∧ CI l G Y_M_isSignHere e94 [.inr (.inr 70), .inl 59] m84 P95 ∧ (∀ z100 m101, P95 z100 m101 → inR z100 → wfM m101 → (∃ (e105 : Nat) (P106 : MM → Prop), e105 < d ∧ CV l G Y_M_must e105 [.inr (.inr 70), .inl z100] m101 P106 ∧ (∀ m112, P106 m112 → wfM m112 → (P m112)))))) ∧ (¬ (x1 ≠ 1685217655) → (∃ (e116 : Nat) (P117 : Int → MM → Prop), e116 < d ∧ CI l G Y_M_once e116 [.inr (.inr 70), .inl 2, .inl 999] m84 P117 ∧ (∀ z122 m123, P117 z122 m123 → inR z122 → wfM m123 → ((0 ≤ (m84 70 29) ∧ (m84 70 29) < (2 : Int)) ∧ (∀ m127, m127 = up m123 77 (m84 70 29) z122 → (∃ (e132 : Nat) (P133 : Int → MM → Prop), e132 < d ∧ CI l G Y_M_isSignHere e132 [.inr (.inr 70), .inl 59] m127 P133 ∧ (∀ z138 m139, P133 z138 m139 → inR z138 → wfM m139 → (∃ (e143 : Nat) (P144 : MM → Prop), e143 < d ∧ CV l G Y_M_must e143 [.inr (.inr 70), .inl z138] m139 P144 ∧ (∀ m150, P144 m150 → wfM m150 → (P m150))))))))))))))))) : Wq l G false Y_M_readLine d (QV P) 84 [(0, .inr (.inr 70)), (1, .inr (.inl x1))] [] m := by
  refine Wp.wf (fun hw _ hl hs => ?_)
  have H0 := H hw (hl _ (List.mem_of_getElem? (i := 1) rfl))
  refine Wp.lload_n 1 1 d_M_readLine_84 rfl rfl ?_
  refine Wp.ldc2 (z := 1819632491) d_M_readLine_85 kl_M_161 (by decide) (by decide) ?_
  obtain ⟨H2, H3⟩ := H0
  refine Wq.lif_ne 108 d_M_readLine_88 d_M_readLine_89 (by decide) (fun c1 => ?_) (fun c1 => ?_)
  · have H4 := H2 c1
    refine Wp.lload_n 1 1 d_M_readLine_108 rfl rfl ?_
    refine Wp.ldc2 (z := 1685217655) d_M_readLine_109 kl_M_163 (by decide) (by decide) ?_
    obtain ⟨H7, H8⟩ := H4
    refine Wq.lif_ne 133 d_M_readLine_112 d_M_readLine_113 (by decide) (fun c6 => ?_) (fun c6 => ?_)
    · have H9 := H7 c6
      refine Wp.aload_n 0 0 d_M_readLine_133 rfl rfl ?_
      refine Wp.aload_n 0 0 d_M_readLine_134 rfl rfl ?_
      refine Wp.bipush d_M_readLine_135 (by decide) (by decide) ?_
      obtain ⟨e11, P12, hd13, ho14, H15⟩ := H9
      refine Wq.VI (st := [.inr (.inr 70)]) [.inl 59] d_M_readLine_137 k_M_isSignHere ml_M_274 rfl rfl rfl (fun h => by cases h) (Nat.le_of_ble_eq_true rfl) hd13 ho14 (fun z17 m18 hp19 hz20 hw21 => ?_)
      have H16 := H15 z17 m18 hp19 hz20 hw21
      obtain ⟨e22, P23, hd24, ho25, H26⟩ := H16
      refine Wq.VV (st := []) [.inl z17] d_M_readLine_140 k_M_must ml_M_277 rfl rfl rfl (fun h => by cases h) (Nat.le_of_ble_eq_true rfl) hd24 ho25 (fun m29 hp30 hw32 => ?_)
      have H27 := H26 m29 hp30 hw32
      exact Wq.vret d_M_readLine_143 rfl H27
    · have H10 := H8 c6
      refine Wp.aload_n 0 0 d_M_readLine_116 rfl rfl ?_
      refine Wp.getP 77 d_M_readLine_117 fl_M_33 rfl rfl rfl ?_
      refine Wp.aload_n 0 0 d_M_readLine_120 rfl rfl ?_
      refine Wq.getI 29 rfl d_M_readLine_121 fl_M_234 rfl (Or.inl rfl) ?_
      refine Wp.aload_n 0 0 d_M_readLine_124 rfl rfl ?_
      refine Wp.iconst d_M_readLine_125 (by decide) ?_
      refine Wp.sipush d_M_readLine_126 (by decide) (by decide) ?_
      obtain ⟨e33, P34, hd35, ho36, H37⟩ := H10
      refine Wq.VI (st := [.inl (m 70 29), .inr (.inr 77)]) [.inl 2, .inl 999] d_M_readLine_129 k_M_once ml_M_271 rfl rfl rfl (fun h => by cases h) (Nat.le_of_ble_eq_true rfl) hd35 ho36 (fun z39 m40 hp41 hz42 hw43 => ?_)
      have H38 := H37 z39 m40 hp41 hz42 hw43
      obtain ⟨s71, H72⟩ := H38
      refine Wq.iast d_M_readLine_132 rfl s71.1 s71.2 (fun m44 hm45 => ?_)
      have H46 := H72 m44 hm45
      refine Wp.aload_n 0 0 d_M_readLine_133 rfl rfl ?_
      refine Wp.aload_n 0 0 d_M_readLine_134 rfl rfl ?_
      refine Wp.bipush d_M_readLine_135 (by decide) (by decide) ?_
      obtain ⟨e49, P50, hd51, ho52, H53⟩ := H46
      refine Wq.VI (st := [.inr (.inr 70)]) [.inl 59] d_M_readLine_137 k_M_isSignHere ml_M_274 rfl rfl rfl (fun h => by cases h) (Nat.le_of_ble_eq_true rfl) hd51 ho52 (fun z55 m56 hp57 hz58 hw59 => ?_)
      have H54 := H53 z55 m56 hp57 hz58 hw59
      obtain ⟨e60, P61, hd62, ho63, H64⟩ := H54
      refine Wq.VV (st := []) [.inl z55] d_M_readLine_140 k_M_must ml_M_277 rfl rfl rfl (fun h => by cases h) (Nat.le_of_ble_eq_true rfl) hd62 ho63 (fun m67 hp68 hw70 => ?_)
      have H65 := H64 m67 hp68 hw70
      exact Wq.vret d_M_readLine_143 rfl H65
  · have H5 := H3 c1
    refine Wp.aload_n 0 0 d_M_readLine_92 rfl rfl ?_
    refine Wp.getP 76 d_M_readLine_93 fl_M_30 rfl rfl rfl ?_
    refine Wp.aload_n 0 0 d_M_readLine_96 rfl rfl ?_
    refine Wq.getI 29 rfl d_M_readLine_97 fl_M_234 rfl (Or.inl rfl) ?_
    refine Wp.aload_n 0 0 d_M_readLine_100 rfl rfl ?_
    refine Wp.iconst d_M_readLine_101 (by decide) ?_
    refine Wp.bipush d_M_readLine_102 (by decide) (by decide) ?_
    obtain ⟨e73, P74, hd75, ho76, H77⟩ := H5
    refine Wq.VI (st := [.inl (m 70 29), .inr (.inr 76)]) [.inl 1, .inl 100] d_M_readLine_104 k_M_once ml_M_271 rfl rfl rfl (fun h => by cases h) (Nat.le_of_ble_eq_true rfl) hd75 ho76 (fun z79 m80 hp81 hz82 hw83 => ?_)
    have H78 := H77 z79 m80 hp81 hz82 hw83
    obtain ⟨s156, H157⟩ := H78
    refine Wq.iast d_M_readLine_107 rfl s156.1 s156.2 (fun m84 hm85 => ?_)
    have H86 := H157 m84 hm85
    refine Wp.lload_n 1 1 d_M_readLine_108 rfl rfl ?_
    refine Wp.ldc2 (z := 1685217655) d_M_readLine_109 kl_M_163 (by decide) (by decide) ?_
    obtain ⟨H90, H91⟩ := H86
    refine Wq.lif_ne 133 d_M_readLine_112 d_M_readLine_113 (by decide) (fun c89 => ?_) (fun c89 => ?_)
    · have H92 := H90 c89
      refine Wp.aload_n 0 0 d_M_readLine_133 rfl rfl ?_
      refine Wp.aload_n 0 0 d_M_readLine_134 rfl rfl ?_
      refine Wp.bipush d_M_readLine_135 (by decide) (by decide) ?_
      obtain ⟨e94, P95, hd96, ho97, H98⟩ := H92
      refine Wq.VI (st := [.inr (.inr 70)]) [.inl 59] d_M_readLine_137 k_M_isSignHere ml_M_274 rfl rfl rfl (fun h => by cases h) (Nat.le_of_ble_eq_true rfl) hd96 ho97 (fun z100 m101 hp102 hz103 hw104 => ?_)
      have H99 := H98 z100 m101 hp102 hz103 hw104
      obtain ⟨e105, P106, hd107, ho108, H109⟩ := H99
      refine Wq.VV (st := []) [.inl z100] d_M_readLine_140 k_M_must ml_M_277 rfl rfl rfl (fun h => by cases h) (Nat.le_of_ble_eq_true rfl) hd107 ho108 (fun m112 hp113 hw115 => ?_)
      have H110 := H109 m112 hp113 hw115
      exact Wq.vret d_M_readLine_143 rfl H110
    · have H93 := H91 c89
      refine Wp.aload_n 0 0 d_M_readLine_116 rfl rfl ?_
      refine Wp.getP 77 d_M_readLine_117 fl_M_33 rfl rfl rfl ?_
      refine Wp.aload_n 0 0 d_M_readLine_120 rfl rfl ?_
      refine Wq.getI 29 rfl d_M_readLine_121 fl_M_234 rfl (Or.inl rfl) ?_
      refine Wp.aload_n 0 0 d_M_readLine_124 rfl rfl ?_
      refine Wp.iconst d_M_readLine_125 (by decide) ?_
      refine Wp.sipush d_M_readLine_126 (by decide) (by decide) ?_
      obtain ⟨e116, P117, hd118, ho119, H120⟩ := H93
      refine Wq.VI (st := [.inl (m84 70 29), .inr (.inr 77)]) [.inl 2, .inl 999] d_M_readLine_129 k_M_once ml_M_271 rfl rfl rfl (fun h => by cases h) (Nat.le_of_ble_eq_true rfl) hd118 ho119 (fun z122 m123 hp124 hz125 hw126 => ?_)
      have H121 := H120 z122 m123 hp124 hz125 hw126
      obtain ⟨s154, H155⟩ := H121
      refine Wq.iast d_M_readLine_132 rfl s154.1 s154.2 (fun m127 hm128 => ?_)
      have H129 := H155 m127 hm128
      refine Wp.aload_n 0 0 d_M_readLine_133 rfl rfl ?_
      refine Wp.aload_n 0 0 d_M_readLine_134 rfl rfl ?_
      refine Wp.bipush d_M_readLine_135 (by decide) (by decide) ?_
      obtain ⟨e132, P133, hd134, ho135, H136⟩ := H129
      refine Wq.VI (st := [.inr (.inr 70)]) [.inl 59] d_M_readLine_137 k_M_isSignHere ml_M_274 rfl rfl rfl (fun h => by cases h) (Nat.le_of_ble_eq_true rfl) hd134 ho135 (fun z138 m139 hp140 hz141 hw142 => ?_)
      have H137 := H136 z138 m139 hp140 hz141 hw142
      obtain ⟨e143, P144, hd145, ho146, H147⟩ := H137
      refine Wq.VV (st := []) [.inl z138] d_M_readLine_140 k_M_must ml_M_277 rfl rfl rfl (fun h => by cases h) (Nat.le_of_ble_eq_true rfl) hd145 ho146 (fun m150 hp151 hw153 => ?_)
      have H148 := H147 m150 hp151 hw153
      exact Wq.vret d_M_readLine_143 rfl H148
theorem d_M_isFull_0 : decode Y_M_isFull.2.1 0 = .ok (.aload_n 0, 1) := by decide +kernel
theorem d_M_isFull_1 : decode Y_M_isFull.2.1 1 = .ok (.ldc2_w 149, 3) := by decide +kernel
theorem d_M_isFull_4 : decode Y_M_isFull.2.1 4 = .ok (.invokevirtual 227, 3) := by decide +kernel
theorem d_M_isFull_7 : decode Y_M_isFull.2.1 7 = .ok (.ifCond .eq 22, 3) := by decide +kernel
theorem d_M_isFull_10 : decode Y_M_isFull.2.1 10 = .ok (.aload_n 0, 1) := by decide +kernel
theorem d_M_isFull_11 : decode Y_M_isFull.2.1 11 = .ok (.getfield 20, 3) := by decide +kernel
theorem d_M_isFull_14 : decode Y_M_isFull.2.1 14 = .ok (.aload_n 0, 1) := by decide +kernel
theorem d_M_isFull_15 : decode Y_M_isFull.2.1 15 = .ok (.getfield 234, 3) := by decide +kernel
theorem d_M_isFull_18 : decode Y_M_isFull.2.1 18 = .ok (.iaload, 1) := by decide +kernel
theorem d_M_isFull_19 : decode Y_M_isFull.2.1 19 = .ok (.iconst 5, 1) := by decide +kernel
theorem d_M_isFull_20 : decode Y_M_isFull.2.1 20 = .ok (.if_icmp .ne 7, 3) := by decide +kernel
theorem d_M_isFull_23 : decode Y_M_isFull.2.1 23 = .ok (.iconst 1, 1) := by decide +kernel
theorem d_M_isFull_24 : decode Y_M_isFull.2.1 24 = .ok (.goto 4, 3) := by decide +kernel
theorem d_M_isFull_27 : decode Y_M_isFull.2.1 27 = .ok (.iconst 0, 1) := by decide +kernel
theorem d_M_isFull_28 : decode Y_M_isFull.2.1 28 = .ok (.ireturn, 1) := by decide +kernel
theorem d_M_isFull_29 : decode Y_M_isFull.2.1 29 = .ok (.aload_n 0, 1) := by decide +kernel
theorem d_M_isFull_30 : decode Y_M_isFull.2.1 30 = .ok (.ldc2_w 153, 3) := by decide +kernel
theorem d_M_isFull_33 : decode Y_M_isFull.2.1 33 = .ok (.invokevirtual 227, 3) := by decide +kernel
theorem d_M_isFull_36 : decode Y_M_isFull.2.1 36 = .ok (.ifCond .ne 13, 3) := by decide +kernel
theorem d_M_isFull_39 : decode Y_M_isFull.2.1 39 = .ok (.aload_n 0, 1) := by decide +kernel
theorem d_M_isFull_40 : decode Y_M_isFull.2.1 40 = .ok (.ldc2_w 157, 3) := by decide +kernel
theorem d_M_isFull_43 : decode Y_M_isFull.2.1 43 = .ok (.invokevirtual 227, 3) := by decide +kernel
theorem d_M_isFull_46 : decode Y_M_isFull.2.1 46 = .ok (.ifCond .eq 5, 3) := by decide +kernel
theorem d_M_isFull_49 : decode Y_M_isFull.2.1 49 = .ok (.iconst 0, 1) := by decide +kernel
theorem d_M_isFull_50 : decode Y_M_isFull.2.1 50 = .ok (.ireturn, 1) := by decide +kernel
theorem d_M_isFull_51 : decode Y_M_isFull.2.1 51 = .ok (.aload_n 0, 1) := by decide +kernel
theorem d_M_isFull_52 : decode Y_M_isFull.2.1 52 = .ok (.ldc2_w 159, 3) := by decide +kernel
theorem d_M_isFull_55 : decode Y_M_isFull.2.1 55 = .ok (.invokevirtual 227, 3) := by decide +kernel
theorem d_M_isFull_58 : decode Y_M_isFull.2.1 58 = .ok (.ifCond .eq 17, 3) := by decide +kernel
theorem d_M_isFull_61 : decode Y_M_isFull.2.1 61 = .ok (.aload_n 0, 1) := by decide +kernel
theorem d_M_isFull_62 : decode Y_M_isFull.2.1 62 = .ok (.getfield 36, 3) := by decide +kernel
theorem d_M_isFull_65 : decode Y_M_isFull.2.1 65 = .ok (.aload_n 0, 1) := by decide +kernel
theorem d_M_isFull_66 : decode Y_M_isFull.2.1 66 = .ok (.getfield 234, 3) := by decide +kernel
theorem d_M_isFull_69 : decode Y_M_isFull.2.1 69 = .ok (.iaload, 1) := by decide +kernel
theorem d_M_isFull_70 : decode Y_M_isFull.2.1 70 = .ok (.iconst 0, 1) := by decide +kernel
theorem d_M_isFull_71 : decode Y_M_isFull.2.1 71 = .ok (.invokestatic 252, 3) := by decide +kernel
theorem d_M_isFull_74 : decode Y_M_isFull.2.1 74 = .ok (.ireturn, 1) := by decide +kernel
theorem d_M_isFull_75 : decode Y_M_isFull.2.1 75 = .ok (.aload_n 0, 1) := by decide +kernel
theorem d_M_isFull_76 : decode Y_M_isFull.2.1 76 = .ok (.ldc2_w 161, 3) := by decide +kernel
theorem d_M_isFull_79 : decode Y_M_isFull.2.1 79 = .ok (.invokevirtual 227, 3) := by decide +kernel
theorem d_M_isFull_82 : decode Y_M_isFull.2.1 82 = .ok (.ifCond .eq 17, 3) := by decide +kernel
theorem d_M_isFull_85 : decode Y_M_isFull.2.1 85 = .ok (.aload_n 0, 1) := by decide +kernel
theorem d_M_isFull_86 : decode Y_M_isFull.2.1 86 = .ok (.getfield 36, 3) := by decide +kernel
theorem d_M_isFull_89 : decode Y_M_isFull.2.1 89 = .ok (.aload_n 0, 1) := by decide +kernel
theorem d_M_isFull_90 : decode Y_M_isFull.2.1 90 = .ok (.getfield 234, 3) := by decide +kernel
theorem d_M_isFull_93 : decode Y_M_isFull.2.1 93 = .ok (.iaload, 1) := by decide +kernel
theorem d_M_isFull_94 : decode Y_M_isFull.2.1 94 = .ok (.iconst 1, 1) := by decide +kernel
theorem d_M_isFull_95 : decode Y_M_isFull.2.1 95 = .ok (.invokestatic 252, 3) := by decide +kernel
theorem d_M_isFull_98 : decode Y_M_isFull.2.1 98 = .ok (.ireturn, 1) := by decide +kernel
theorem d_M_isFull_99 : decode Y_M_isFull.2.1 99 = .ok (.aload_n 0, 1) := by decide +kernel
theorem d_M_isFull_100 : decode Y_M_isFull.2.1 100 = .ok (.ldc2_w 163, 3) := by decide +kernel
theorem d_M_isFull_103 : decode Y_M_isFull.2.1 103 = .ok (.invokevirtual 227, 3) := by decide +kernel
theorem d_M_isFull_106 : decode Y_M_isFull.2.1 106 = .ok (.ifCond .eq 19, 3) := by decide +kernel
theorem d_M_isFull_109 : decode Y_M_isFull.2.1 109 = .ok (.aload_n 0, 1) := by decide +kernel
theorem d_M_isFull_110 : decode Y_M_isFull.2.1 110 = .ok (.getfield 36, 3) := by decide +kernel
theorem d_M_isFull_113 : decode Y_M_isFull.2.1 113 = .ok (.aload_n 0, 1) := by decide +kernel
theorem d_M_isFull_114 : decode Y_M_isFull.2.1 114 = .ok (.getfield 234, 3) := by decide +kernel
theorem d_M_isFull_117 : decode Y_M_isFull.2.1 117 = .ok (.iaload, 1) := by decide +kernel
theorem d_M_isFull_118 : decode Y_M_isFull.2.1 118 = .ok (.iconst 2, 1) := by decide +kernel
theorem d_M_isFull_119 : decode Y_M_isFull.2.1 119 = .ok (.invokestatic 252, 3) := by decide +kernel
theorem d_M_isFull_122 : decode Y_M_isFull.2.1 122 = .ok (.ifCond .eq 7, 3) := by decide +kernel
theorem d_M_isFull_125 : decode Y_M_isFull.2.1 125 = .ok (.iconst 1, 1) := by decide +kernel
theorem d_M_isFull_126 : decode Y_M_isFull.2.1 126 = .ok (.goto 4, 3) := by decide +kernel
theorem d_M_isFull_129 : decode Y_M_isFull.2.1 129 = .ok (.iconst 0, 1) := by decide +kernel
theorem d_M_isFull_130 : decode Y_M_isFull.2.1 130 = .ok (.ireturn, 1) := by decide +kernel
theorem e_M_isFull {l : Launch} {G : GT} {d : Nat} {P : Int → MM → Prop} {m : MM}   (H : wfM m → ∃ (e1 : Nat) (P2 : Int → MM → Prop), e1 < d ∧ CI l G Y_M_isWord e1 [.inr (.inr 70), .inr (.inl 482854663269)] m P2 ∧ (∀ z7 m8, P2 z7 m8 → inR z7 → wfM m8 → ((z7 = 0 → (∃ (e17 : Nat) (P18 : Int → MM → Prop), e17 < d ∧ CI l G Y_M_isWord e17 [.inr (.inr 70), .inr (.inl 426954290277)] m8 P18 ∧ (∀ z23 m24, P18 z23 m24 → inR z23 → wfM m24 → ((z23 ≠ 0 → (P 0 m24)) ∧ (¬ (z23 ≠ 0) → (∃ (e33 : Nat) (P34 : Int → MM → Prop), e33 < d ∧ CI l G Y_M_isWord e33 [.inr (.inr 70), .inr (.inl 431415716206)] m24 P34 ∧ (∀ z39 m40, P34 z39 m40 → inR z39 → wfM m40 → ((z39 = 0 → (∃ (e49 : Nat) (P50 : Int → MM → Prop), e49 < d ∧ CI l G Y_M_isWord e49 [.inr (.inr 70), .inr (.inl 439721159795)] m40 P50 ∧ (∀ z55 m56, P50 z55 m56 → inR z55 → wfM m56 → ((z55 = 0 → (∃ (e65 : Nat) (P66 : Int → MM → Prop), e65 < d ∧ CI l G Y_M_isWord e65 [.inr (.inr 70), .inr (.inl 1819632491)] m56 P66 ∧ (∀ z71 m72, P66 z71 m72 → inR z71 → wfM m72 → ((z71 = 0 → (∃ (e81 : Nat) (P82 : Int → MM → Prop), e81 < d ∧ CI l G Y_M_isWord e81 [.inr (.inr 70), .inr (.inl 1685217655)] m72 P82 ∧ (∀ z87 m88, P82 z87 m88 → inR z87 → wfM m88 → ((z87 = 0 → (P 1 m88)) ∧ (¬ (z87 = 0) → ((0 ≤ (m88 70 29) ∧ (m88 70 29) < (2 : Int)) ∧ (∃ (e99 : Nat) (P100 : Int → MM → Prop), e99 < d ∧ CI l G Y_M_bit e99 [.inl (m88 78 (m88 70 29)), .inl 2] m88 P100 ∧ (∀ z105 m106, P100 z105 m106 → inR z105 → wfM m106 → ((z105 = 0 → (P 0 m106)) ∧ (¬ (z105 = 0) → (P 1 m106))))))))))) ∧ (¬ (z71 = 0) → ((0 ≤ (m72 70 29) ∧ (m72 70 29) < (2 : Int)) ∧ (∃ (e117 : Nat) (P118 : Int → MM → Prop), e117 < d ∧ CI l G Y_M_bit e117 [.inl (m72 78 (m72 70 29)), .inl 1] m72 P118 ∧ (∀ z123 m124, P118 z123 m124 → inR z123 → wfM m124 → ((z123 = 0 ∨ z123 = 1) ∧ P z123 m124))))))))) ∧ (¬ (z55 = 0) → ((0 ≤ (m56 70 29) ∧ (m56 70 29) < (2 : Int)) ∧ (∃ (e130 : Nat) (P131 : Int → MM → Prop), e130 < d ∧ CI l G Y_M_bit e130 [.inl (m56 78 (m56 70 29)), .inl 0] m56 P131 ∧ (∀ z136 m137, P131 z136 m137 → inR z136 → wfM m137 → ((z136 = 0 ∨ z136 = 1) ∧ P z136 m137))))))))) ∧ (¬ (z39 = 0) → (P 0 m40)))))))))) ∧ (¬ (z7 = 0) → ((0 ≤ (m8 70 29) ∧ (m8 70 29) < (2 : Int)) ∧ (((m8 73 (m8 70 29)) ≠ 5 → (P 0 m8)) ∧ (¬ ((m8 73 (m8 70 29)) ≠ 5) → (P 1 m8)))))))) : CI l G Y_M_isFull d [.inr (.inr 70)] m P := by
  refine CI.of [(0, .inr (.inr 70))] k_M_isFull.1 (Nat.le_of_ble_eq_true rfl) rfl (Wp.wf (fun hw _ hl hs => ?_))
  have H0 := H hw
  refine Wp.aload_n 0 0 d_M_isFull_0 rfl rfl ?_
  refine Wp.ldc2 (z := 482854663269) d_M_isFull_1 kl_M_149 (by decide) (by decide) ?_
  obtain ⟨e1, P2, hd3, ho4, H5⟩ := H0
  refine Wq.VI (st := []) [.inr (.inl 482854663269)] d_M_isFull_4 k_M_isWord ml_M_227 rfl rfl rfl (fun h => by cases h) (Nat.le_of_ble_eq_true rfl) hd3 ho4 (fun z7 m8 hp9 hz10 hw11 => ?_)
  have H6 := H5 z7 m8 hp9 hz10 hw11
  obtain ⟨H13, H14⟩ := H6
  refine Wp.if_eq 29 d_M_isFull_7 (by decide) (fun c12 => ?_) (fun c12 => ?_)
  · have H15 := H13 c12
    refine Wp.aload_n 0 0 d_M_isFull_29 rfl rfl ?_
    refine Wp.ldc2 (z := 426954290277) d_M_isFull_30 kl_M_153 (by decide) (by decide) ?_
    obtain ⟨e17, P18, hd19, ho20, H21⟩ := H15
    refine Wq.VI (st := []) [.inr (.inl 426954290277)] d_M_isFull_33 k_M_isWord ml_M_227 rfl rfl rfl (fun h => by cases h) (Nat.le_of_ble_eq_true rfl) hd19 ho20 (fun z23 m24 hp25 hz26 hw27 => ?_)
    have H22 := H21 z23 m24 hp25 hz26 hw27
    obtain ⟨H29, H30⟩ := H22
    refine Wp.if_ne 49 d_M_isFull_36 (by decide) (fun c28 => ?_) (fun c28 => ?_)
    · have H31 := H29 c28
      refine Wp.iconst d_M_isFull_49 (by decide) ?_
      exact Wq.zret d_M_isFull_50 rfl (by decide) H31
    · have H32 := H30 c28
      refine Wp.aload_n 0 0 d_M_isFull_39 rfl rfl ?_
      refine Wp.ldc2 (z := 431415716206) d_M_isFull_40 kl_M_157 (by decide) (by decide) ?_
      obtain ⟨e33, P34, hd35, ho36, H37⟩ := H32
      refine Wq.VI (st := []) [.inr (.inl 431415716206)] d_M_isFull_43 k_M_isWord ml_M_227 rfl rfl rfl (fun h => by cases h) (Nat.le_of_ble_eq_true rfl) hd35 ho36 (fun z39 m40 hp41 hz42 hw43 => ?_)
      have H38 := H37 z39 m40 hp41 hz42 hw43
      obtain ⟨H45, H46⟩ := H38
      refine Wp.if_eq 51 d_M_isFull_46 (by decide) (fun c44 => ?_) (fun c44 => ?_)
      · have H47 := H45 c44
        refine Wp.aload_n 0 0 d_M_isFull_51 rfl rfl ?_
        refine Wp.ldc2 (z := 439721159795) d_M_isFull_52 kl_M_159 (by decide) (by decide) ?_
        obtain ⟨e49, P50, hd51, ho52, H53⟩ := H47
        refine Wq.VI (st := []) [.inr (.inl 439721159795)] d_M_isFull_55 k_M_isWord ml_M_227 rfl rfl rfl (fun h => by cases h) (Nat.le_of_ble_eq_true rfl) hd51 ho52 (fun z55 m56 hp57 hz58 hw59 => ?_)
        have H54 := H53 z55 m56 hp57 hz58 hw59
        obtain ⟨H61, H62⟩ := H54
        refine Wp.if_eq 75 d_M_isFull_58 (by decide) (fun c60 => ?_) (fun c60 => ?_)
        · have H63 := H61 c60
          refine Wp.aload_n 0 0 d_M_isFull_75 rfl rfl ?_
          refine Wp.ldc2 (z := 1819632491) d_M_isFull_76 kl_M_161 (by decide) (by decide) ?_
          obtain ⟨e65, P66, hd67, ho68, H69⟩ := H63
          refine Wq.VI (st := []) [.inr (.inl 1819632491)] d_M_isFull_79 k_M_isWord ml_M_227 rfl rfl rfl (fun h => by cases h) (Nat.le_of_ble_eq_true rfl) hd67 ho68 (fun z71 m72 hp73 hz74 hw75 => ?_)
          have H70 := H69 z71 m72 hp73 hz74 hw75
          obtain ⟨H77, H78⟩ := H70
          refine Wp.if_eq 99 d_M_isFull_82 (by decide) (fun c76 => ?_) (fun c76 => ?_)
          · have H79 := H77 c76
            refine Wp.aload_n 0 0 d_M_isFull_99 rfl rfl ?_
            refine Wp.ldc2 (z := 1685217655) d_M_isFull_100 kl_M_163 (by decide) (by decide) ?_
            obtain ⟨e81, P82, hd83, ho84, H85⟩ := H79
            refine Wq.VI (st := []) [.inr (.inl 1685217655)] d_M_isFull_103 k_M_isWord ml_M_227 rfl rfl rfl (fun h => by cases h) (Nat.le_of_ble_eq_true rfl) hd83 ho84 (fun z87 m88 hp89 hz90 hw91 => ?_)
            have H86 := H85 z87 m88 hp89 hz90 hw91
            obtain ⟨H93, H94⟩ := H86
            refine Wp.if_eq 125 d_M_isFull_106 (by decide) (fun c92 => ?_) (fun c92 => ?_)
            · have H95 := H93 c92
              refine Wp.iconst d_M_isFull_125 (by decide) ?_
              refine Wp.goto 130 d_M_isFull_126 (by decide) ?_
              exact Wq.zret d_M_isFull_130 rfl (by decide) H95
            · have H96 := H94 c92
              refine Wp.aload_n 0 0 d_M_isFull_109 rfl rfl ?_
              refine Wp.getP 78 d_M_isFull_110 fl_M_36 rfl rfl rfl ?_
              refine Wp.aload_n 0 0 d_M_isFull_113 rfl rfl ?_
              refine Wq.getI 29 rfl d_M_isFull_114 fl_M_234 rfl (Or.inl rfl) ?_
              obtain ⟨s97, H98⟩ := H96
              refine Wp.iald d_M_isFull_117 rfl (Or.inl rfl) s97.1 s97.2 ?_
              refine Wp.iconst d_M_isFull_118 (by decide) ?_
              obtain ⟨e99, P100, hd101, ho102, H103⟩ := H98
              refine Wq.SI (st := []) [.inl (m88 78 (m88 70 29)), .inl 2] d_M_isFull_119 k_M_bit ml_M_252 rfl  (fun h => by cases h) (Nat.le_of_ble_eq_true rfl) hd101 ho102 (fun z105 m106 hp107 hz108 hw109 => ?_)
              have H104 := H103 z105 m106 hp107 hz108 hw109
              obtain ⟨H111, H112⟩ := H104
              refine Wp.if_eq 129 d_M_isFull_122 (by decide) (fun c110 => ?_) (fun c110 => ?_)
              · have H113 := H111 c110
                refine Wp.iconst d_M_isFull_129 (by decide) ?_
                exact Wq.zret d_M_isFull_130 rfl (by decide) H113
              · have H114 := H112 c110
                refine Wp.iconst d_M_isFull_125 (by decide) ?_
                refine Wp.goto 130 d_M_isFull_126 (by decide) ?_
                exact Wq.zret d_M_isFull_130 rfl (by decide) H114
          · have H80 := H78 c76
            refine Wp.aload_n 0 0 d_M_isFull_85 rfl rfl ?_
            refine Wp.getP 78 d_M_isFull_86 fl_M_36 rfl rfl rfl ?_
            refine Wp.aload_n 0 0 d_M_isFull_89 rfl rfl ?_
            refine Wq.getI 29 rfl d_M_isFull_90 fl_M_234 rfl (Or.inl rfl) ?_
            obtain ⟨s115, H116⟩ := H80
            refine Wp.iald d_M_isFull_93 rfl (Or.inl rfl) s115.1 s115.2 ?_
            refine Wp.iconst d_M_isFull_94 (by decide) ?_
            obtain ⟨e117, P118, hd119, ho120, H121⟩ := H116
            refine Wq.SI (st := []) [.inl (m72 78 (m72 70 29)), .inl 1] d_M_isFull_95 k_M_bit ml_M_252 rfl  (fun h => by cases h) (Nat.le_of_ble_eq_true rfl) hd119 ho120 (fun z123 m124 hp125 hz126 hw127 => ?_)
            have H122 := H121 z123 m124 hp125 hz126 hw127
            exact Wq.zret d_M_isFull_98 rfl H122.1 H122.2
        · have H64 := H62 c60
          refine Wp.aload_n 0 0 d_M_isFull_61 rfl rfl ?_
          refine Wp.getP 78 d_M_isFull_62 fl_M_36 rfl rfl rfl ?_
          refine Wp.aload_n 0 0 d_M_isFull_65 rfl rfl ?_
          refine Wq.getI 29 rfl d_M_isFull_66 fl_M_234 rfl (Or.inl rfl) ?_
          obtain ⟨s128, H129⟩ := H64
          refine Wp.iald d_M_isFull_69 rfl (Or.inl rfl) s128.1 s128.2 ?_
          refine Wp.iconst d_M_isFull_70 (by decide) ?_
          obtain ⟨e130, P131, hd132, ho133, H134⟩ := H129
          refine Wq.SI (st := []) [.inl (m56 78 (m56 70 29)), .inl 0] d_M_isFull_71 k_M_bit ml_M_252 rfl  (fun h => by cases h) (Nat.le_of_ble_eq_true rfl) hd132 ho133 (fun z136 m137 hp138 hz139 hw140 => ?_)
          have H135 := H134 z136 m137 hp138 hz139 hw140
          exact Wq.zret d_M_isFull_74 rfl H135.1 H135.2
      · have H48 := H46 c44
        refine Wp.iconst d_M_isFull_49 (by decide) ?_
        exact Wq.zret d_M_isFull_50 rfl (by decide) H48
  · have H16 := H14 c12
    refine Wp.aload_n 0 0 d_M_isFull_10 rfl rfl ?_
    refine Wp.getP 73 d_M_isFull_11 fl_M_20 rfl rfl rfl ?_
    refine Wp.aload_n 0 0 d_M_isFull_14 rfl rfl ?_
    refine Wq.getI 29 rfl d_M_isFull_15 fl_M_234 rfl (Or.inl rfl) ?_
    obtain ⟨s141, H142⟩ := H16
    refine Wp.iald d_M_isFull_18 rfl (Or.inl rfl) s141.1 s141.2 ?_
    refine Wp.iconst d_M_isFull_19 (by decide) ?_
    obtain ⟨H144, H145⟩ := H142
    refine Wp.icmp_ne 27 d_M_isFull_20 (by decide) (fun c143 => ?_) (fun c143 => ?_)
    · have H146 := H144 c143
      refine Wp.iconst d_M_isFull_27 (by decide) ?_
      exact Wq.zret d_M_isFull_28 rfl (by decide) H146
    · have H147 := H145 c143
      refine Wp.iconst d_M_isFull_23 (by decide) ?_
      refine Wp.goto 28 d_M_isFull_24 (by decide) ?_
      exact Wq.zret d_M_isFull_28 rfl (by decide) H147
theorem d_M_isWord_0 : decode Y_M_isWord.2.1 0 = .ok (.aload_n 0, 1) := by decide +kernel
theorem d_M_isWord_1 : decode Y_M_isWord.2.1 1 = .ok (.getfield 189, 3) := by decide +kernel
theorem d_M_isWord_4 : decode Y_M_isWord.2.1 4 = .ok (.iconst 3, 1) := by decide +kernel
theorem d_M_isWord_5 : decode Y_M_isWord.2.1 5 = .ok (.if_icmp .ne 16, 3) := by decide +kernel
theorem d_M_isWord_8 : decode Y_M_isWord.2.1 8 = .ok (.aload_n 0, 1) := by decide +kernel
theorem d_M_isWord_9 : decode Y_M_isWord.2.1 9 = .ok (.getfield 196, 3) := by decide +kernel
theorem d_M_isWord_12 : decode Y_M_isWord.2.1 12 = .ok (.lload_n 1, 1) := by decide +kernel
theorem d_M_isWord_13 : decode Y_M_isWord.2.1 13 = .ok (.lcmp, 1) := by decide +kernel
theorem d_M_isWord_14 : decode Y_M_isWord.2.1 14 = .ok (.ifCond .ne 7, 3) := by decide +kernel
theorem d_M_isWord_17 : decode Y_M_isWord.2.1 17 = .ok (.iconst 1, 1) := by decide +kernel
theorem d_M_isWord_18 : decode Y_M_isWord.2.1 18 = .ok (.goto 4, 3) := by decide +kernel
theorem d_M_isWord_21 : decode Y_M_isWord.2.1 21 = .ok (.iconst 0, 1) := by decide +kernel
theorem d_M_isWord_22 : decode Y_M_isWord.2.1 22 = .ok (.ireturn, 1) := by decide +kernel
theorem e_M_isWord {l : Launch} {G : GT} {d : Nat} {P : Int → MM → Prop} {m : MM} (x1 : Int)  (H : wfM m → inL x1 → ((m 70 8) ≠ 3 → (P 0 m)) ∧ (¬ ((m 70 8) ≠ 3) → (((m 70 10) ≠ x1 → (P 0 m)) ∧ (¬ ((m 70 10) ≠ x1) → (P 1 m))))) : CI l G Y_M_isWord d [.inr (.inr 70), .inr (.inl x1)] m P := by
  refine CI.of [(0, .inr (.inr 70)), (1, .inr (.inl x1))] k_M_isWord.1 (Nat.le_of_ble_eq_true rfl) rfl (Wp.wf (fun hw _ hl hs => ?_))
  have H0 := H hw (hl _ (List.mem_of_getElem? (i := 1) rfl))
  refine Wp.aload_n 0 0 d_M_isWord_0 rfl rfl ?_
  refine Wq.getI 8 rfl d_M_isWord_1 fl_M_189 rfl (Or.inl rfl) ?_
  refine Wp.iconst d_M_isWord_4 (by decide) ?_
  obtain ⟨H2, H3⟩ := H0
  refine Wp.icmp_ne 21 d_M_isWord_5 (by decide) (fun c1 => ?_) (fun c1 => ?_)
  · have H4 := H2 c1
    refine Wp.iconst d_M_isWord_21 (by decide) ?_
    exact Wq.zret d_M_isWord_22 rfl (by decide) H4
  · have H5 := H3 c1
    refine Wp.aload_n 0 0 d_M_isWord_8 rfl rfl ?_
    refine Wq.getL 10 rfl d_M_isWord_9 fl_M_196 rfl rfl ?_
    refine Wp.lload_n 1 1 d_M_isWord_12 rfl rfl ?_
    obtain ⟨H7, H8⟩ := H5
    refine Wq.lif_ne 21 d_M_isWord_13 d_M_isWord_14 (by decide) (fun c6 => ?_) (fun c6 => ?_)
    · have H9 := H7 c6
      refine Wp.iconst d_M_isWord_21 (by decide) ?_
      exact Wq.zret d_M_isWord_22 rfl (by decide) H9
    · have H10 := H8 c6
      refine Wp.iconst d_M_isWord_17 (by decide) ?_
      refine Wp.goto 22 d_M_isWord_18 (by decide) ?_
      exact Wq.zret d_M_isWord_22 rfl (by decide) H10
theorem d_M_misplaced_0 : decode Y_M_misplaced.2.1 0 = .ok (.aload_n 0, 1) := by decide +kernel
theorem d_M_misplaced_1 : decode Y_M_misplaced.2.1 1 = .ok (.aload_n 0, 1) := by decide +kernel
theorem d_M_misplaced_2 : decode Y_M_misplaced.2.1 2 = .ok (.getfield 189, 3) := by decide +kernel
theorem d_M_misplaced_5 : decode Y_M_misplaced.2.1 5 = .ok (.iconst 1, 1) := by decide +kernel
theorem d_M_misplaced_6 : decode Y_M_misplaced.2.1 6 = .ok (.if_icmp .ne 7, 3) := by decide +kernel
theorem d_M_misplaced_9 : decode Y_M_misplaced.2.1 9 = .ok (.iconst 1, 1) := by decide +kernel
theorem d_M_misplaced_10 : decode Y_M_misplaced.2.1 10 = .ok (.goto 4, 3) := by decide +kernel
theorem d_M_misplaced_13 : decode Y_M_misplaced.2.1 13 = .ok (.iconst 2, 1) := by decide +kernel
theorem d_M_misplaced_14 : decode Y_M_misplaced.2.1 14 = .ok (.aload_n 0, 1) := by decide +kernel
theorem d_M_misplaced_15 : decode Y_M_misplaced.2.1 15 = .ok (.getfield 182, 3) := by decide +kernel
theorem d_M_misplaced_18 : decode Y_M_misplaced.2.1 18 = .ok (.invokevirtual 213, 3) := by decide +kernel
theorem d_M_misplaced_21 : decode Y_M_misplaced.2.1 21 = .ok (.return_, 1) := by decide +kernel
theorem e_M_misplaced {l : Launch} {G : GT} {d : Nat} {P : MM → Prop} {m : MM}   (H : wfM m → ((m 70 8) ≠ 1 → (∃ (e6 : Nat) (P7 : MM → Prop), e6 < d ∧ CV l G Y_M_fails e6 [.inr (.inr 70), .inl 2, .inl (m 70 6)] m P7 ∧ (∀ m13, P7 m13 → wfM m13 → (P m13)))) ∧ (¬ ((m 70 8) ≠ 1) → (∃ (e17 : Nat) (P18 : MM → Prop), e17 < d ∧ CV l G Y_M_fails e17 [.inr (.inr 70), .inl 1, .inl (m 70 6)] m P18 ∧ (∀ m24, P18 m24 → wfM m24 → (P m24))))) : CV l G Y_M_misplaced d [.inr (.inr 70)] m P := by
  refine CV.of [(0, .inr (.inr 70))] k_M_misplaced.1 (Nat.le_of_ble_eq_true rfl) rfl (Wp.wf (fun hw _ hl hs => ?_))
  have H0 := H hw
  refine Wp.aload_n 0 0 d_M_misplaced_0 rfl rfl ?_
  refine Wp.aload_n 0 0 d_M_misplaced_1 rfl rfl ?_
  refine Wq.getI 8 rfl d_M_misplaced_2 fl_M_189 rfl (Or.inl rfl) ?_
  refine Wp.iconst d_M_misplaced_5 (by decide) ?_
  obtain ⟨H2, H3⟩ := H0
  refine Wp.icmp_ne 13 d_M_misplaced_6 (by decide) (fun c1 => ?_) (fun c1 => ?_)
  · have H4 := H2 c1
    refine Wp.iconst d_M_misplaced_13 (by decide) ?_
    refine Wp.aload_n 0 0 d_M_misplaced_14 rfl rfl ?_
    refine Wq.getI 6 rfl d_M_misplaced_15 fl_M_182 rfl (Or.inl rfl) ?_
    obtain ⟨e6, P7, hd8, ho9, H10⟩ := H4
    refine Wq.VV (st := []) [.inl 2, .inl (m 70 6)] d_M_misplaced_18 k_M_fails ml_M_213 rfl rfl rfl (fun h => by cases h) (Nat.le_of_ble_eq_true rfl) hd8 ho9 (fun m13 hp14 hw16 => ?_)
    have H11 := H10 m13 hp14 hw16
    exact Wq.vret d_M_misplaced_21 rfl H11
  · have H5 := H3 c1
    refine Wp.iconst d_M_misplaced_9 (by decide) ?_
    refine Wp.goto 14 d_M_misplaced_10 (by decide) ?_
    refine Wp.aload_n 0 0 d_M_misplaced_14 rfl rfl ?_
    refine Wq.getI 6 rfl d_M_misplaced_15 fl_M_182 rfl (Or.inl rfl) ?_
    obtain ⟨e17, P18, hd19, ho20, H21⟩ := H5
    refine Wq.VV (st := []) [.inl 1, .inl (m 70 6)] d_M_misplaced_18 k_M_fails ml_M_213 rfl rfl rfl (fun h => by cases h) (Nat.le_of_ble_eq_true rfl) hd19 ho20 (fun m24 hp25 hw27 => ?_)
    have H22 := H21 m24 hp25 hw27
    exact Wq.vret d_M_misplaced_21 rfl H22
theorem d_M_fails_0 : decode Y_M_fails.2.1 0 = .ok (.aload_n 0, 1) := by decide +kernel
theorem d_M_fails_1 : decode Y_M_fails.2.1 1 = .ok (.getfield 146, 3) := by decide +kernel
theorem d_M_fails_4 : decode Y_M_fails.2.1 4 = .ok (.ifCond .le 4, 3) := by decide +kernel
theorem d_M_fails_7 : decode Y_M_fails.2.1 7 = .ok (.return_, 1) := by decide +kernel
theorem d_M_fails_8 : decode Y_M_fails.2.1 8 = .ok (.aload_n 0, 1) := by decide +kernel
theorem d_M_fails_9 : decode Y_M_fails.2.1 9 = .ok (.iload_n 1, 1) := by decide +kernel
theorem d_M_fails_10 : decode Y_M_fails.2.1 10 = .ok (.putfield 146, 3) := by decide +kernel
theorem d_M_fails_13 : decode Y_M_fails.2.1 13 = .ok (.aload_n 0, 1) := by decide +kernel
theorem d_M_fails_14 : decode Y_M_fails.2.1 14 = .ok (.iload_n 2, 1) := by decide +kernel
theorem d_M_fails_15 : decode Y_M_fails.2.1 15 = .ok (.putfield 16, 3) := by decide +kernel
theorem d_M_fails_18 : decode Y_M_fails.2.1 18 = .ok (.return_, 1) := by decide +kernel
theorem e_M_fails {l : Launch} {G : GT} {d : Nat} {P : MM → Prop} {m : MM} (x1 : Int) (x2 : Int)  (H : wfM m → inR x1 → inR x2 → ((m 70 4) ≤ 0 → (∀ m6, m6 = up m 70 4 x1 → (∀ m9, m9 = up m6 70 5 x2 → (P m9)))) ∧ (¬ ((m 70 4) ≤ 0) → (P m))) : CV l G Y_M_fails d [.inr (.inr 70), .inl x1, .inl x2] m P := by
  refine CV.of [(0, .inr (.inr 70)), (1, .inl x1), (2, .inl x2)] k_M_fails.1 (Nat.le_of_ble_eq_true rfl) rfl (Wp.wf (fun hw _ hl hs => ?_))
  have H0 := H hw (hl _ (List.mem_of_getElem? (i := 1) rfl)) (hl _ (List.mem_of_getElem? (i := 2) rfl))
  refine Wp.aload_n 0 0 d_M_fails_0 rfl rfl ?_
  refine Wq.getI 4 rfl d_M_fails_1 fl_M_146 rfl (Or.inl rfl) ?_
  obtain ⟨H2, H3⟩ := H0
  refine Wp.if_le 8 d_M_fails_4 (by decide) (fun c1 => ?_) (fun c1 => ?_)
  · have H4 := H2 c1
    refine Wp.aload_n 0 0 d_M_fails_8 rfl rfl ?_
    refine Wp.iload_n 1 1 d_M_fails_9 rfl rfl ?_
    refine Wq.putI 4 rfl d_M_fails_10 fl_M_146 (fun _ _ _ h => by cases h; rfl) rfl rfl rfl (fun m6 hm7 => ?_)
    have H8 := H4 m6 hm7
    refine Wp.aload_n 0 0 d_M_fails_13 rfl rfl ?_
    refine Wp.iload_n 2 2 d_M_fails_14 rfl rfl ?_
    refine Wq.putI 5 rfl d_M_fails_15 fl_M_16 (fun _ _ _ h => by cases h; rfl) rfl rfl rfl (fun m9 hm10 => ?_)
    have H11 := H8 m9 hm10
    exact Wq.vret d_M_fails_18 rfl H11
  · have H5 := H3 c1
    exact Wq.vret d_M_fails_7 rfl H5
theorem d_M_readPlate_0 : decode Y_M_readPlate.2.1 0 = .ok (.iconst 5, 1) := by decide +kernel
theorem d_M_readPlate_1 : decode Y_M_readPlate.2.1 1 = .ok (.aload_n 0, 1) := by decide +kernel
theorem d_M_readPlate_2 : decode Y_M_readPlate.2.1 2 = .ok (.getfield 234, 3) := by decide +kernel
theorem d_M_readPlate_5 : decode Y_M_readPlate.2.1 5 = .ok (.imul, 1) := by decide +kernel
theorem d_M_readPlate_6 : decode Y_M_readPlate.2.1 6 = .ok (.aload_n 0, 1) := by decide +kernel
theorem d_M_readPlate_7 : decode Y_M_readPlate.2.1 7 = .ok (.getfield 20, 3) := by decide +kernel
theorem d_M_readPlate_10 : decode Y_M_readPlate.2.1 10 = .ok (.aload_n 0, 1) := by decide +kernel
theorem d_M_readPlate_11 : decode Y_M_readPlate.2.1 11 = .ok (.getfield 234, 3) := by decide +kernel
theorem d_M_readPlate_14 : decode Y_M_readPlate.2.1 14 = .ok (.iaload, 1) := by decide +kernel
theorem d_M_readPlate_15 : decode Y_M_readPlate.2.1 15 = .ok (.iadd, 1) := by decide +kernel
theorem d_M_readPlate_16 : decode Y_M_readPlate.2.1 16 = .ok (.istore_n 1, 1) := by decide +kernel
theorem d_M_readPlate_17 : decode Y_M_readPlate.2.1 17 = .ok (.aload_n 0, 1) := by decide +kernel
theorem d_M_readPlate_18 : decode Y_M_readPlate.2.1 18 = .ok (.invokevirtual 281, 3) := by decide +kernel
theorem d_M_readPlate_21 : decode Y_M_readPlate.2.1 21 = .ok (.ifCond .lt 12, 3) := by decide +kernel
theorem d_M_readPlate_24 : decode Y_M_readPlate.2.1 24 = .ok (.aload_n 0, 1) := by decide +kernel
theorem d_M_readPlate_25 : decode Y_M_readPlate.2.1 25 = .ok (.iconst 3, 1) := by decide +kernel
theorem d_M_readPlate_26 : decode Y_M_readPlate.2.1 26 = .ok (.aload_n 0, 1) := by decide +kernel
theorem d_M_readPlate_27 : decode Y_M_readPlate.2.1 27 = .ok (.getfield 182, 3) := by decide +kernel
theorem d_M_readPlate_30 : decode Y_M_readPlate.2.1 30 = .ok (.invokevirtual 213, 3) := by decide +kernel
theorem d_M_readPlate_33 : decode Y_M_readPlate.2.1 33 = .ok (.aload_n 0, 1) := by decide +kernel
theorem d_M_readPlate_34 : decode Y_M_readPlate.2.1 34 = .ok (.getfield 54, 3) := by decide +kernel
theorem d_M_readPlate_37 : decode Y_M_readPlate.2.1 37 = .ok (.iload_n 1, 1) := by decide +kernel
theorem d_M_readPlate_38 : decode Y_M_readPlate.2.1 38 = .ok (.aload_n 0, 1) := by decide +kernel
theorem d_M_readPlate_39 : decode Y_M_readPlate.2.1 39 = .ok (.getfield 196, 3) := by decide +kernel
theorem d_M_readPlate_42 : decode Y_M_readPlate.2.1 42 = .ok (.lastore, 1) := by decide +kernel
theorem d_M_readPlate_43 : decode Y_M_readPlate.2.1 43 = .ok (.aload_n 0, 1) := by decide +kernel
theorem d_M_readPlate_44 : decode Y_M_readPlate.2.1 44 = .ok (.aload_n 0, 1) := by decide +kernel
theorem d_M_readPlate_45 : decode Y_M_readPlate.2.1 45 = .ok (.getfield 189, 3) := by decide +kernel
theorem d_M_readPlate_48 : decode Y_M_readPlate.2.1 48 = .ok (.iconst 2, 1) := by decide +kernel
theorem d_M_readPlate_49 : decode Y_M_readPlate.2.1 49 = .ok (.if_icmp .ne 7, 3) := by decide +kernel
theorem d_M_readPlate_52 : decode Y_M_readPlate.2.1 52 = .ok (.iconst 1, 1) := by decide +kernel
theorem d_M_readPlate_53 : decode Y_M_readPlate.2.1 53 = .ok (.goto 4, 3) := by decide +kernel
theorem d_M_readPlate_56 : decode Y_M_readPlate.2.1 56 = .ok (.iconst 0, 1) := by decide +kernel
theorem d_M_readPlate_57 : decode Y_M_readPlate.2.1 57 = .ok (.invokevirtual 277, 3) := by decide +kernel
theorem d_M_readPlate_60 : decode Y_M_readPlate.2.1 60 = .ok (.aload_n 0, 1) := by decide +kernel
theorem d_M_readPlate_61 : decode Y_M_readPlate.2.1 61 = .ok (.getfield 39, 3) := by decide +kernel
theorem d_M_readPlate_64 : decode Y_M_readPlate.2.1 64 = .ok (.iload_n 1, 1) := by decide +kernel
theorem d_M_readPlate_65 : decode Y_M_readPlate.2.1 65 = .ok (.aload_n 0, 1) := by decide +kernel
theorem d_M_readPlate_66 : decode Y_M_readPlate.2.1 66 = .ok (.ldc2_w 151, 3) := by decide +kernel
theorem d_M_readPlate_69 : decode Y_M_readPlate.2.1 69 = .ok (.iconst 0, 1) := by decide +kernel
theorem d_M_readPlate_70 : decode Y_M_readPlate.2.1 70 = .ok (.bipush 99, 2) := by decide +kernel
theorem d_M_readPlate_72 : decode Y_M_readPlate.2.1 72 = .ok (.iconst 0, 1) := by decide +kernel
theorem d_M_readPlate_73 : decode Y_M_readPlate.2.1 73 = .ok (.invokevirtual 285, 3) := by decide +kernel
theorem d_M_readPlate_76 : decode Y_M_readPlate.2.1 76 = .ok (.iastore, 1) := by decide +kernel
theorem d_M_readPlate_77 : decode Y_M_readPlate.2.1 77 = .ok (.aload_n 0, 1) := by decide +kernel
theorem d_M_readPlate_78 : decode Y_M_readPlate.2.1 78 = .ok (.getfield 20, 3) := by decide +kernel
theorem d_M_readPlate_81 : decode Y_M_readPlate.2.1 81 = .ok (.aload_n 0, 1) := by decide +kernel
theorem d_M_readPlate_82 : decode Y_M_readPlate.2.1 82 = .ok (.getfield 234, 3) := by decide +kernel
theorem d_M_readPlate_85 : decode Y_M_readPlate.2.1 85 = .ok (.dup2, 1) := by decide +kernel
theorem d_M_readPlate_86 : decode Y_M_readPlate.2.1 86 = .ok (.iaload, 1) := by decide +kernel
theorem d_M_readPlate_87 : decode Y_M_readPlate.2.1 87 = .ok (.iconst 1, 1) := by decide +kernel
theorem d_M_readPlate_88 : decode Y_M_readPlate.2.1 88 = .ok (.iadd, 1) := by decide +kernel
theorem d_M_readPlate_89 : decode Y_M_readPlate.2.1 89 = .ok (.iastore, 1) := by decide +kernel
theorem d_M_readPlate_90 : decode Y_M_readPlate.2.1 90 = .ok (.return_, 1) := by decide +kernel
theorem e_M_readPlate {l : Launch} {G : GT} {d : Nat} {P : MM → Prop} {m : MM}   (H : wfM m → (inR (5 * (m 70 29))) ∧ ((0 ≤ (m 70 29) ∧ (m 70 29) < (2 : Int)) ∧ ((inR ((5 * (m 70 29)) + (m 73 (m 70 29)))) ∧ (∃ (e7 : Nat) (P8 : Int → MM → Prop), e7 < d ∧ CI l G Y_M_plateHere e7 [.inr (.inr 70)] m P8 ∧ (∀ z13 m14, P8 z13 m14 → inR z13 → wfM m14 → ((z13 < 0 → (Wq l G false Y_M_readPlate d (QV P) 33 [(0, .inr (.inr 70)), (1, .inl ((5 * (m 70 29)) + (m 73 (m 70 29))))] [] m14)) ∧ (¬ (z13 < 0) → (∃ (e23 : Nat) (P24 : MM → Prop), e23 < d ∧ CV l G Y_M_fails e23 [.inr (.inr 70), .inl 3, .inl (m14 70 6)] m14 P24 ∧ (∀ m30, P24 m30 → wfM m30 → (Wq l G false Y_M_readPlate d (QV P) 33 [(0, .inr (.inr 70)), (1, .inl ((5 * (m 70 29)) + (m 73 (m 70 29))))] [] m30)))))))))) : CV l G Y_M_readPlate d [.inr (.inr 70)] m P := by
  refine CV.of [(0, .inr (.inr 70))] k_M_readPlate.1 (Nat.le_of_ble_eq_true rfl) rfl (Wp.wf (fun hw _ hl hs => ?_))
  have H0 := H hw
  refine Wp.iconst d_M_readPlate_0 (by decide) ?_
  refine Wp.aload_n 0 0 d_M_readPlate_1 rfl rfl ?_
  refine Wq.getI 29 rfl d_M_readPlate_2 fl_M_234 rfl (Or.inl rfl) ?_
  obtain ⟨s1, H2⟩ := H0
  refine Wp.imul d_M_readPlate_5 s1 ?_
  refine Wp.aload_n 0 0 d_M_readPlate_6 rfl rfl ?_
  refine Wp.getP 73 d_M_readPlate_7 fl_M_20 rfl rfl rfl ?_
  refine Wp.aload_n 0 0 d_M_readPlate_10 rfl rfl ?_
  refine Wq.getI 29 rfl d_M_readPlate_11 fl_M_234 rfl (Or.inl rfl) ?_
  obtain ⟨s3, H4⟩ := H2
  refine Wp.iald d_M_readPlate_14 rfl (Or.inl rfl) s3.1 s3.2 ?_
  obtain ⟨s5, H6⟩ := H4
  refine Wp.iadd d_M_readPlate_15 s5 ?_
  refine Wp.istore_n 1 [(0, .inr (.inr 70)), (1, .inl ((5 * (m 70 29)) + (m 73 (m 70 29))))] d_M_readPlate_16 rfl (by decide) rfl ?_
  refine Wp.aload_n 0 0 d_M_readPlate_17 rfl rfl ?_
  obtain ⟨e7, P8, hd9, ho10, H11⟩ := H6
  refine Wq.VI (st := []) [] d_M_readPlate_18 k_M_plateHere ml_M_281 rfl rfl rfl (fun h => by cases h) (Nat.le_of_ble_eq_true rfl) hd9 ho10 (fun z13 m14 hp15 hz16 hw17 => ?_)
  have H12 := H11 z13 m14 hp15 hz16 hw17
  obtain ⟨H19, H20⟩ := H12
  refine Wp.if_lt 33 d_M_readPlate_21 (by decide) (fun c18 => ?_) (fun c18 => ?_)
  · have H21 := H19 c18
    exact H21
  · have H22 := H20 c18
    refine Wp.aload_n 0 0 d_M_readPlate_24 rfl rfl ?_
    refine Wp.iconst d_M_readPlate_25 (by decide) ?_
    refine Wp.aload_n 0 0 d_M_readPlate_26 rfl rfl ?_
    refine Wq.getI 6 rfl d_M_readPlate_27 fl_M_182 rfl (Or.inl rfl) ?_
    obtain ⟨e23, P24, hd25, ho26, H27⟩ := H22
    refine Wq.VV (st := []) [.inl 3, .inl (m14 70 6)] d_M_readPlate_30 k_M_fails ml_M_213 rfl rfl rfl (fun h => by cases h) (Nat.le_of_ble_eq_true rfl) hd25 ho26 (fun m30 hp31 hw33 => ?_)
    have H28 := H27 m30 hp31 hw33
    exact H28
theorem s_M_readPlate_33 {l : Launch} {G : GT} {d : Nat} {P : MM → Prop} {m : MM} (x1 : Int)  (H : wfM m → inR x1 → (0 ≤ x1 ∧ x1 < (10 : Int)) ∧ (∀ m1, m1 = up m 84 x1 (m 70 10) → (((m1 70 8) ≠ 2 → (∃ (e11 : Nat) (P12 : MM → Prop), e11 < d ∧ CV l G Y_M_must e11 [.inr (.inr 70), .inl 0] m1 P12 ∧ (∀ m18, P12 m18 → wfM m18 → (∃ (e22 : Nat) (P23 : Int → MM → Prop), e22 < d ∧ CI l G Y_M_perhaps e22 [.inr (.inr 70), .inr (.inl 448545973363), .inl 0, .inl 99, .inl 0] m18 P23 ∧ (∀ z28 m29, P23 z28 m29 → inR z28 → wfM m29 → ((0 ≤ x1 ∧ x1 < (10 : Int)) ∧ (∀ m33, m33 = up m29 79 x1 z28 → ((0 ≤ (m33 70 29) ∧ (m33 70 29) < (2 : Int)) ∧ ((inR ((m33 73 (m33 70 29)) + 1)) ∧ ((0 ≤ (m33 70 29) ∧ (m33 70 29) < (2 : Int)) ∧ (∀ m42, m42 = up m33 73 (m33 70 29) ((m33 73 (m33 70 29)) + 1) → (P m42)))))))))))) ∧ (¬ ((m1 70 8) ≠ 2) → (∃ (e51 : Nat) (P52 : MM → Prop), e51 < d ∧ CV l G Y_M_must e51 [.inr (.inr 70), .inl 1] m1 P52 ∧ (∀ m58, P52 m58 → wfM m58 → (∃ (e62 : Nat) (P63 : Int → MM → Prop), e62 < d ∧ CI l G Y_M_perhaps e62 [.inr (.inr 70), .inr (.inl 448545973363), .inl 0, .inl 99, .inl 0] m58 P63 ∧ (∀ z68 m69, P63 z68 m69 → inR z68 → wfM m69 → ((0 ≤ x1 ∧ x1 < (10 : Int)) ∧ (∀ m73, m73 = up m69 79 x1 z68 → ((0 ≤ (m73 70 29) ∧ (m73 70 29) < (2 : Int)) ∧ ((inR ((m73 73 (m73 70 29)) + 1)) ∧ ((0 ≤ (m73 70 29) ∧ (m73 70 29) < (2 : Int)) ∧ (∀ m82, m82 = up m73 73 (m73 70 29) ((m73 73 (m73 70 29)) + 1) → (P m82))))))))))))))) : Wq l G false Y_M_readPlate d (QV P) 33 [(0, .inr (.inr 70)), (1, .inl x1)] [] m := by
  refine Wp.wf (fun hw _ hl hs => ?_)
  have H0 := H hw (hl _ (List.mem_of_getElem? (i := 1) rfl))
  refine Wp.aload_n 0 0 d_M_readPlate_33 rfl rfl ?_
  refine Wp.getP 84 d_M_readPlate_34 fl_M_54 rfl rfl rfl ?_
  refine Wp.iload_n 1 1 d_M_readPlate_37 rfl rfl ?_
  refine Wp.aload_n 0 0 d_M_readPlate_38 rfl rfl ?_
  refine Wq.getL 10 rfl d_M_readPlate_39 fl_M_196 rfl rfl ?_
  obtain ⟨s91, H92⟩ := H0
  refine Wq.last d_M_readPlate_42 rfl s91.1 s91.2 (fun m1 hm2 => ?_)
  have H3 := H92 m1 hm2
  refine Wp.aload_n 0 0 d_M_readPlate_43 rfl rfl ?_
  refine Wp.aload_n 0 0 d_M_readPlate_44 rfl rfl ?_
  refine Wq.getI 8 rfl d_M_readPlate_45 fl_M_189 rfl (Or.inl rfl) ?_
  refine Wp.iconst d_M_readPlate_48 (by decide) ?_
  obtain ⟨H7, H8⟩ := H3
  refine Wp.icmp_ne 56 d_M_readPlate_49 (by decide) (fun c6 => ?_) (fun c6 => ?_)
  · have H9 := H7 c6
    refine Wp.iconst d_M_readPlate_56 (by decide) ?_
    obtain ⟨e11, P12, hd13, ho14, H15⟩ := H9
    refine Wq.VV (st := []) [.inl 0] d_M_readPlate_57 k_M_must ml_M_277 rfl rfl rfl (fun h => by cases h) (Nat.le_of_ble_eq_true rfl) hd13 ho14 (fun m18 hp19 hw21 => ?_)
    have H16 := H15 m18 hp19 hw21
    refine Wp.aload_n 0 0 d_M_readPlate_60 rfl rfl ?_
    refine Wp.getP 79 d_M_readPlate_61 fl_M_39 rfl rfl rfl ?_
    refine Wp.iload_n 1 1 d_M_readPlate_64 rfl rfl ?_
    refine Wp.aload_n 0 0 d_M_readPlate_65 rfl rfl ?_
    refine Wp.ldc2 (z := 448545973363) d_M_readPlate_66 kl_M_151 (by decide) (by decide) ?_
    refine Wp.iconst d_M_readPlate_69 (by decide) ?_
    refine Wp.bipush d_M_readPlate_70 (by decide) (by decide) ?_
    refine Wp.iconst d_M_readPlate_72 (by decide) ?_
    obtain ⟨e22, P23, hd24, ho25, H26⟩ := H16
    refine Wq.VI (st := [.inl x1, .inr (.inr 79)]) [.inr (.inl 448545973363), .inl 0, .inl 99, .inl 0] d_M_readPlate_73 k_M_perhaps ml_M_285 rfl rfl rfl (fun h => by cases h) (Nat.le_of_ble_eq_true rfl) hd24 ho25 (fun z28 m29 hp30 hz31 hw32 => ?_)
    have H27 := H26 z28 m29 hp30 hz31 hw32
    obtain ⟨s49, H50⟩ := H27
    refine Wq.iast d_M_readPlate_76 rfl s49.1 s49.2 (fun m33 hm34 => ?_)
    have H35 := H50 m33 hm34
    refine Wp.aload_n 0 0 d_M_readPlate_77 rfl rfl ?_
    refine Wp.getP 73 d_M_readPlate_78 fl_M_20 rfl rfl rfl ?_
    refine Wp.aload_n 0 0 d_M_readPlate_81 rfl rfl ?_
    refine Wq.getI 29 rfl d_M_readPlate_82 fl_M_234 rfl (Or.inl rfl) ?_
    refine Wp.dup2 d_M_readPlate_85 rfl rfl ?_
    obtain ⟨s38, H39⟩ := H35
    refine Wp.iald d_M_readPlate_86 rfl (Or.inl rfl) s38.1 s38.2 ?_
    refine Wp.iconst d_M_readPlate_87 (by decide) ?_
    obtain ⟨s40, H41⟩ := H39
    refine Wp.iadd d_M_readPlate_88 s40 ?_
    obtain ⟨s47, H48⟩ := H41
    refine Wq.iast d_M_readPlate_89 rfl s47.1 s47.2 (fun m42 hm43 => ?_)
    have H44 := H48 m42 hm43
    exact Wq.vret d_M_readPlate_90 rfl H44
  · have H10 := H8 c6
    refine Wp.iconst d_M_readPlate_52 (by decide) ?_
    refine Wp.goto 57 d_M_readPlate_53 (by decide) ?_
    obtain ⟨e51, P52, hd53, ho54, H55⟩ := H10
    refine Wq.VV (st := []) [.inl 1] d_M_readPlate_57 k_M_must ml_M_277 rfl rfl rfl (fun h => by cases h) (Nat.le_of_ble_eq_true rfl) hd53 ho54 (fun m58 hp59 hw61 => ?_)
    have H56 := H55 m58 hp59 hw61
    refine Wp.aload_n 0 0 d_M_readPlate_60 rfl rfl ?_
    refine Wp.getP 79 d_M_readPlate_61 fl_M_39 rfl rfl rfl ?_
    refine Wp.iload_n 1 1 d_M_readPlate_64 rfl rfl ?_
    refine Wp.aload_n 0 0 d_M_readPlate_65 rfl rfl ?_
    refine Wp.ldc2 (z := 448545973363) d_M_readPlate_66 kl_M_151 (by decide) (by decide) ?_
    refine Wp.iconst d_M_readPlate_69 (by decide) ?_
    refine Wp.bipush d_M_readPlate_70 (by decide) (by decide) ?_
    refine Wp.iconst d_M_readPlate_72 (by decide) ?_
    obtain ⟨e62, P63, hd64, ho65, H66⟩ := H56
    refine Wq.VI (st := [.inl x1, .inr (.inr 79)]) [.inr (.inl 448545973363), .inl 0, .inl 99, .inl 0] d_M_readPlate_73 k_M_perhaps ml_M_285 rfl rfl rfl (fun h => by cases h) (Nat.le_of_ble_eq_true rfl) hd64 ho65 (fun z68 m69 hp70 hz71 hw72 => ?_)
    have H67 := H66 z68 m69 hp70 hz71 hw72
    obtain ⟨s89, H90⟩ := H67
    refine Wq.iast d_M_readPlate_76 rfl s89.1 s89.2 (fun m73 hm74 => ?_)
    have H75 := H90 m73 hm74
    refine Wp.aload_n 0 0 d_M_readPlate_77 rfl rfl ?_
    refine Wp.getP 73 d_M_readPlate_78 fl_M_20 rfl rfl rfl ?_
    refine Wp.aload_n 0 0 d_M_readPlate_81 rfl rfl ?_
    refine Wq.getI 29 rfl d_M_readPlate_82 fl_M_234 rfl (Or.inl rfl) ?_
    refine Wp.dup2 d_M_readPlate_85 rfl rfl ?_
    obtain ⟨s78, H79⟩ := H75
    refine Wp.iald d_M_readPlate_86 rfl (Or.inl rfl) s78.1 s78.2 ?_
    refine Wp.iconst d_M_readPlate_87 (by decide) ?_
    obtain ⟨s80, H81⟩ := H79
    refine Wp.iadd d_M_readPlate_88 s80 ?_
    obtain ⟨s87, H88⟩ := H81
    refine Wq.iast d_M_readPlate_89 rfl s87.1 s87.2 (fun m82 hm83 => ?_)
    have H84 := H88 m82 hm83
    exact Wq.vret d_M_readPlate_90 rfl H84
theorem d_M_plateHere_0 : decode Y_M_plateHere.2.1 0 = .ok (.iconst 0, 1) := by decide +kernel
theorem d_M_plateHere_1 : decode Y_M_plateHere.2.1 1 = .ok (.istore_n 1, 1) := by decide +kernel
theorem d_M_plateHere_2 : decode Y_M_plateHere.2.1 2 = .ok (.iload_n 1, 1) := by decide +kernel
theorem d_M_plateHere_3 : decode Y_M_plateHere.2.1 3 = .ok (.aload_n 0, 1) := by decide +kernel
theorem d_M_plateHere_4 : decode Y_M_plateHere.2.1 4 = .ok (.getfield 20, 3) := by decide +kernel
theorem d_M_plateHere_7 : decode Y_M_plateHere.2.1 7 = .ok (.aload_n 0, 1) := by decide +kernel
theorem d_M_plateHere_8 : decode Y_M_plateHere.2.1 8 = .ok (.getfield 234, 3) := by decide +kernel
theorem d_M_plateHere_11 : decode Y_M_plateHere.2.1 11 = .ok (.iaload, 1) := by decide +kernel
theorem d_M_plateHere_12 : decode Y_M_plateHere.2.1 12 = .ok (.if_icmp .ge 40, 3) := by decide +kernel
theorem d_M_plateHere_15 : decode Y_M_plateHere.2.1 15 = .ok (.aload_n 0, 1) := by decide +kernel
theorem d_M_plateHere_16 : decode Y_M_plateHere.2.1 16 = .ok (.getfield 189, 3) := by decide +kernel
theorem d_M_plateHere_19 : decode Y_M_plateHere.2.1 19 = .ok (.iconst 2, 1) := by decide +kernel
theorem d_M_plateHere_20 : decode Y_M_plateHere.2.1 20 = .ok (.if_icmp .ne 26, 3) := by decide +kernel
theorem d_M_plateHere_23 : decode Y_M_plateHere.2.1 23 = .ok (.aload_n 0, 1) := by decide +kernel
theorem d_M_plateHere_24 : decode Y_M_plateHere.2.1 24 = .ok (.getfield 54, 3) := by decide +kernel
theorem d_M_plateHere_27 : decode Y_M_plateHere.2.1 27 = .ok (.iconst 5, 1) := by decide +kernel
theorem d_M_plateHere_28 : decode Y_M_plateHere.2.1 28 = .ok (.aload_n 0, 1) := by decide +kernel
theorem d_M_plateHere_29 : decode Y_M_plateHere.2.1 29 = .ok (.getfield 234, 3) := by decide +kernel
theorem d_M_plateHere_32 : decode Y_M_plateHere.2.1 32 = .ok (.imul, 1) := by decide +kernel
theorem d_M_plateHere_33 : decode Y_M_plateHere.2.1 33 = .ok (.iload_n 1, 1) := by decide +kernel
theorem d_M_plateHere_34 : decode Y_M_plateHere.2.1 34 = .ok (.iadd, 1) := by decide +kernel
theorem d_M_plateHere_35 : decode Y_M_plateHere.2.1 35 = .ok (.laload, 1) := by decide +kernel
theorem d_M_plateHere_36 : decode Y_M_plateHere.2.1 36 = .ok (.aload_n 0, 1) := by decide +kernel
theorem d_M_plateHere_37 : decode Y_M_plateHere.2.1 37 = .ok (.getfield 196, 3) := by decide +kernel
theorem d_M_plateHere_40 : decode Y_M_plateHere.2.1 40 = .ok (.lcmp, 1) := by decide +kernel
theorem d_M_plateHere_41 : decode Y_M_plateHere.2.1 41 = .ok (.ifCond .ne 5, 3) := by decide +kernel
theorem d_M_plateHere_44 : decode Y_M_plateHere.2.1 44 = .ok (.iload_n 1, 1) := by decide +kernel
theorem d_M_plateHere_45 : decode Y_M_plateHere.2.1 45 = .ok (.ireturn, 1) := by decide +kernel
theorem d_M_plateHere_46 : decode Y_M_plateHere.2.1 46 = .ok (.iinc 1 1, 3) := by decide +kernel
theorem d_M_plateHere_49 : decode Y_M_plateHere.2.1 49 = .ok (.goto (-47), 3) := by decide +kernel
theorem d_M_plateHere_52 : decode Y_M_plateHere.2.1 52 = .ok (.iconst (-1), 1) := by decide +kernel
theorem d_M_plateHere_53 : decode Y_M_plateHere.2.1 53 = .ok (.ireturn, 1) := by decide +kernel
theorem e_M_plateHere {l : Launch} {G : GT} {d : Nat} {P : Int → MM → Prop} {m : MM}   (H : wfM m → Wq l G false Y_M_plateHere d (QI P) 2 [(0, .inr (.inr 70)), (1, .inl 0)] [] m) : CI l G Y_M_plateHere d [.inr (.inr 70)] m P := by
  refine CI.of [(0, .inr (.inr 70))] k_M_plateHere.1 (Nat.le_of_ble_eq_true rfl) rfl (Wp.wf (fun hw _ hl hs => ?_))
  have H0 := H hw
  refine Wp.iconst d_M_plateHere_0 (by decide) ?_
  refine Wp.istore_n 1 [(0, .inr (.inr 70)), (1, .inl 0)] d_M_plateHere_1 rfl (by decide) rfl ?_
  exact H0
theorem s_M_plateHere_2 {l : Launch} {G : GT} {d : Nat} {P : Int → MM → Prop} {m : MM} (x1 : Int)  (H : wfM m → inR x1 → (0 ≤ (m 70 29) ∧ (m 70 29) < (2 : Int)) ∧ ((x1 ≥ (m 73 (m 70 29)) → (P (-1) m)) ∧ (¬ (x1 ≥ (m 73 (m 70 29))) → (((m 70 8) ≠ 2 → ((inR (x1 + 1)) ∧ (Wq l G false Y_M_plateHere d (QI P) 2 [(0, .inr (.inr 70)), (1, .inl (x1 + 1))] [] m))) ∧ (¬ ((m 70 8) ≠ 2) → ((inR (5 * (m 70 29))) ∧ ((inR ((5 * (m 70 29)) + x1)) ∧ ((0 ≤ ((5 * (m 70 29)) + x1) ∧ ((5 * (m 70 29)) + x1) < (10 : Int)) ∧ (((m 84 ((5 * (m 70 29)) + x1)) ≠ (m 70 10) → ((inR (x1 + 1)) ∧ (Wq l G false Y_M_plateHere d (QI P) 2 [(0, .inr (.inr 70)), (1, .inl (x1 + 1))] [] m))) ∧ (¬ ((m 84 ((5 * (m 70 29)) + x1)) ≠ (m 70 10)) → (P x1 m))))))))))) : Wq l G false Y_M_plateHere d (QI P) 2 [(0, .inr (.inr 70)), (1, .inl x1)] [] m := by
  refine Wp.wf (fun hw _ hl hs => ?_)
  have H0 := H hw (hl _ (List.mem_of_getElem? (i := 1) rfl))
  refine Wp.iload_n 1 1 d_M_plateHere_2 rfl rfl ?_
  refine Wp.aload_n 0 0 d_M_plateHere_3 rfl rfl ?_
  refine Wp.getP 73 d_M_plateHere_4 fl_M_20 rfl rfl rfl ?_
  refine Wp.aload_n 0 0 d_M_plateHere_7 rfl rfl ?_
  refine Wq.getI 29 rfl d_M_plateHere_8 fl_M_234 rfl (Or.inl rfl) ?_
  obtain ⟨s1, H2⟩ := H0
  refine Wp.iald d_M_plateHere_11 rfl (Or.inl rfl) s1.1 s1.2 ?_
  obtain ⟨H4, H5⟩ := H2
  refine Wp.icmp_ge 52 d_M_plateHere_12 (by decide) (fun c3 => ?_) (fun c3 => ?_)
  · have H6 := H4 c3
    refine Wp.iconst d_M_plateHere_52 (by decide) ?_
    exact Wq.iret d_M_plateHere_53 rfl H6
  · have H7 := H5 c3
    refine Wp.aload_n 0 0 d_M_plateHere_15 rfl rfl ?_
    refine Wq.getI 8 rfl d_M_plateHere_16 fl_M_189 rfl (Or.inl rfl) ?_
    refine Wp.iconst d_M_plateHere_19 (by decide) ?_
    obtain ⟨H9, H10⟩ := H7
    refine Wp.icmp_ne 46 d_M_plateHere_20 (by decide) (fun c8 => ?_) (fun c8 => ?_)
    · have H11 := H9 c8
      obtain ⟨s13, H14⟩ := H11
      refine Wp.iinc 1 1 [(0, .inr (.inr 70)), (1, .inl (x1 + 1))] d_M_plateHere_46 rfl s13 (by decide) rfl ?_
      refine Wp.goto 2 d_M_plateHere_49 (by decide) ?_
      exact H14
    · have H12 := H10 c8
      refine Wp.aload_n 0 0 d_M_plateHere_23 rfl rfl ?_
      refine Wp.getP 84 d_M_plateHere_24 fl_M_54 rfl rfl rfl ?_
      refine Wp.iconst d_M_plateHere_27 (by decide) ?_
      refine Wp.aload_n 0 0 d_M_plateHere_28 rfl rfl ?_
      refine Wq.getI 29 rfl d_M_plateHere_29 fl_M_234 rfl (Or.inl rfl) ?_
      obtain ⟨s15, H16⟩ := H12
      refine Wp.imul d_M_plateHere_32 s15 ?_
      refine Wp.iload_n 1 1 d_M_plateHere_33 rfl rfl ?_
      obtain ⟨s17, H18⟩ := H16
      refine Wp.iadd d_M_plateHere_34 s17 ?_
      obtain ⟨s19, H20⟩ := H18
      refine Wp.lald d_M_plateHere_35 rfl (Or.inl rfl) s19.1 s19.2 ?_
      refine Wp.aload_n 0 0 d_M_plateHere_36 rfl rfl ?_
      refine Wq.getL 10 rfl d_M_plateHere_37 fl_M_196 rfl rfl ?_
      obtain ⟨H22, H23⟩ := H20
      refine Wq.lif_ne 46 d_M_plateHere_40 d_M_plateHere_41 (by decide) (fun c21 => ?_) (fun c21 => ?_)
      · have H24 := H22 c21
        obtain ⟨s26, H27⟩ := H24
        refine Wp.iinc 1 1 [(0, .inr (.inr 70)), (1, .inl (x1 + 1))] d_M_plateHere_46 rfl s26 (by decide) rfl ?_
        refine Wp.goto 2 d_M_plateHere_49 (by decide) ?_
        exact H27
      · have H25 := H23 c21
        refine Wp.iload_n 1 1 d_M_plateHere_44 rfl rfl ?_
        exact Wq.iret d_M_plateHere_45 rfl H25
theorem d_M_must_0 : decode Y_M_must.2.1 0 = .ok (.aload_n 0, 1) := by decide +kernel
theorem d_M_must_1 : decode Y_M_must.2.1 1 = .ok (.invokevirtual 217, 3) := by decide +kernel
theorem d_M_must_4 : decode Y_M_must.2.1 4 = .ok (.ifCond .ne 4, 3) := by decide +kernel
theorem d_M_must_7 : decode Y_M_must.2.1 7 = .ok (.return_, 1) := by decide +kernel
theorem d_M_must_8 : decode Y_M_must.2.1 8 = .ok (.iload_n 1, 1) := by decide +kernel
theorem d_M_must_9 : decode Y_M_must.2.1 9 = .ok (.ifCond .eq 10, 3) := by decide +kernel
theorem d_M_must_12 : decode Y_M_must.2.1 12 = .ok (.aload_n 0, 1) := by decide +kernel
theorem d_M_must_13 : decode Y_M_must.2.1 13 = .ok (.invokevirtual 221, 3) := by decide +kernel
theorem d_M_must_16 : decode Y_M_must.2.1 16 = .ok (.goto 7, 3) := by decide +kernel
theorem d_M_must_19 : decode Y_M_must.2.1 19 = .ok (.aload_n 0, 1) := by decide +kernel
theorem d_M_must_20 : decode Y_M_must.2.1 20 = .ok (.invokevirtual 224, 3) := by decide +kernel
theorem d_M_must_23 : decode Y_M_must.2.1 23 = .ok (.return_, 1) := by decide +kernel
theorem e_M_must {l : Launch} {G : GT} {d : Nat} {P : MM → Prop} {m : MM} (x1 : Int)  (H : wfM m → inR x1 → ∃ (e1 : Nat) (P2 : Int → MM → Prop), e1 < d ∧ CI l G Y_M_isGood e1 [.inr (.inr 70)] m P2 ∧ (∀ z7 m8, P2 z7 m8 → inR z7 → wfM m8 → ((z7 ≠ 0 → ((x1 = 0 → (∃ (e22 : Nat) (P23 : MM → Prop), e22 < d ∧ CV l G Y_M_misplaced e22 [.inr (.inr 70)] m8 P23 ∧ (∀ m29, P23 m29 → wfM m29 → (P m29)))) ∧ (¬ (x1 = 0) → (∃ (e33 : Nat) (P34 : MM → Prop), e33 < d ∧ CV l G Y_M_goOn e33 [.inr (.inr 70)] m8 P34 ∧ (∀ m40, P34 m40 → wfM m40 → (P m40)))))) ∧ (¬ (z7 ≠ 0) → (P m8))))) : CV l G Y_M_must d [.inr (.inr 70), .inl x1] m P := by
  refine CV.of [(0, .inr (.inr 70)), (1, .inl x1)] k_M_must.1 (Nat.le_of_ble_eq_true rfl) rfl (Wp.wf (fun hw _ hl hs => ?_))
  have H0 := H hw (hl _ (List.mem_of_getElem? (i := 1) rfl))
  refine Wp.aload_n 0 0 d_M_must_0 rfl rfl ?_
  obtain ⟨e1, P2, hd3, ho4, H5⟩ := H0
  refine Wq.VI (st := []) [] d_M_must_1 k_M_isGood ml_M_217 rfl rfl rfl (fun h => by cases h) (Nat.le_of_ble_eq_true rfl) hd3 ho4 (fun z7 m8 hp9 hz10 hw11 => ?_)
  have H6 := H5 z7 m8 hp9 hz10 hw11
  obtain ⟨H13, H14⟩ := H6
  refine Wp.if_ne 8 d_M_must_4 (by decide) (fun c12 => ?_) (fun c12 => ?_)
  · have H15 := H13 c12
    refine Wp.iload_n 1 1 d_M_must_8 rfl rfl ?_
    obtain ⟨H18, H19⟩ := H15
    refine Wp.if_eq 19 d_M_must_9 (by decide) (fun c17 => ?_) (fun c17 => ?_)
    · have H20 := H18 c17
      refine Wp.aload_n 0 0 d_M_must_19 rfl rfl ?_
      obtain ⟨e22, P23, hd24, ho25, H26⟩ := H20
      refine Wq.VV (st := []) [] d_M_must_20 k_M_misplaced ml_M_224 rfl rfl rfl (fun h => by cases h) (Nat.le_of_ble_eq_true rfl) hd24 ho25 (fun m29 hp30 hw32 => ?_)
      have H27 := H26 m29 hp30 hw32
      exact Wq.vret d_M_must_23 rfl H27
    · have H21 := H19 c17
      refine Wp.aload_n 0 0 d_M_must_12 rfl rfl ?_
      obtain ⟨e33, P34, hd35, ho36, H37⟩ := H21
      refine Wq.VV (st := []) [] d_M_must_13 k_M_goOn ml_M_221 rfl rfl rfl (fun h => by cases h) (Nat.le_of_ble_eq_true rfl) hd35 ho36 (fun m40 hp41 hw43 => ?_)
      have H38 := H37 m40 hp41 hw43
      refine Wp.goto 23 d_M_must_16 (by decide) ?_
      exact Wq.vret d_M_must_23 rfl H38
  · have H16 := H14 c12
    exact Wq.vret d_M_must_7 rfl H16
theorem d_M_perhaps_0 : decode Y_M_perhaps.2.1 0 = .ok (.aload_n 0, 1) := by decide +kernel
theorem d_M_perhaps_1 : decode Y_M_perhaps.2.1 1 = .ok (.invokevirtual 217, 3) := by decide +kernel
theorem d_M_perhaps_4 : decode Y_M_perhaps.2.1 4 = .ok (.ifCond .eq 11, 3) := by decide +kernel
theorem d_M_perhaps_7 : decode Y_M_perhaps.2.1 7 = .ok (.aload_n 0, 1) := by decide +kernel
theorem d_M_perhaps_8 : decode Y_M_perhaps.2.1 8 = .ok (.lload_n 1, 1) := by decide +kernel
theorem d_M_perhaps_9 : decode Y_M_perhaps.2.1 9 = .ok (.invokevirtual 227, 3) := by decide +kernel
theorem d_M_perhaps_12 : decode Y_M_perhaps.2.1 12 = .ok (.ifCond .ne 6, 3) := by decide +kernel
theorem d_M_perhaps_15 : decode Y_M_perhaps.2.1 15 = .ok (.iload 5, 2) := by decide +kernel
theorem d_M_perhaps_17 : decode Y_M_perhaps.2.1 17 = .ok (.ireturn, 1) := by decide +kernel
theorem d_M_perhaps_18 : decode Y_M_perhaps.2.1 18 = .ok (.aload_n 0, 1) := by decide +kernel
theorem d_M_perhaps_19 : decode Y_M_perhaps.2.1 19 = .ok (.invokevirtual 221, 3) := by decide +kernel
theorem d_M_perhaps_22 : decode Y_M_perhaps.2.1 22 = .ok (.aload_n 0, 1) := by decide +kernel
theorem d_M_perhaps_23 : decode Y_M_perhaps.2.1 23 = .ok (.iload_n 3, 1) := by decide +kernel
theorem d_M_perhaps_24 : decode Y_M_perhaps.2.1 24 = .ok (.iload 4, 2) := by decide +kernel
theorem d_M_perhaps_26 : decode Y_M_perhaps.2.1 26 = .ok (.invokevirtual 230, 3) := by decide +kernel
theorem d_M_perhaps_29 : decode Y_M_perhaps.2.1 29 = .ok (.ireturn, 1) := by decide +kernel
theorem e_M_perhaps {l : Launch} {G : GT} {d : Nat} {P : Int → MM → Prop} {m : MM} (x1 : Int) (x3 : Int) (x4 : Int) (x5 : Int)  (H : wfM m → inL x1 → inR x3 → inR x4 → inR x5 → ∃ (e1 : Nat) (P2 : Int → MM → Prop), e1 < d ∧ CI l G Y_M_isGood e1 [.inr (.inr 70)] m P2 ∧ (∀ z7 m8, P2 z7 m8 → inR z7 → wfM m8 → ((z7 = 0 → (P x5 m8)) ∧ (¬ (z7 = 0) → (∃ (e17 : Nat) (P18 : Int → MM → Prop), e17 < d ∧ CI l G Y_M_isWord e17 [.inr (.inr 70), .inr (.inl x1)] m8 P18 ∧ (∀ z23 m24, P18 z23 m24 → inR z23 → wfM m24 → ((z23 ≠ 0 → (∃ (e33 : Nat) (P34 : MM → Prop), e33 < d ∧ CV l G Y_M_goOn e33 [.inr (.inr 70)] m24 P34 ∧ (∀ m40, P34 m40 → wfM m40 → (∃ (e44 : Nat) (P45 : Int → MM → Prop), e44 < d ∧ CI l G Y_M_numeral e44 [.inr (.inr 70), .inl x3, .inl x4] m40 P45 ∧ (∀ z50 m51, P45 z50 m51 → inR z50 → wfM m51 → (P z50 m51)))))) ∧ (¬ (z23 ≠ 0) → (P x5 m24))))))))) : CI l G Y_M_perhaps d [.inr (.inr 70), .inr (.inl x1), .inl x3, .inl x4, .inl x5] m P := by
  refine CI.of [(0, .inr (.inr 70)), (1, .inr (.inl x1)), (3, .inl x3), (4, .inl x4), (5, .inl x5)] k_M_perhaps.1 (Nat.le_of_ble_eq_true rfl) rfl (Wp.wf (fun hw _ hl hs => ?_))
  have H0 := H hw (hl _ (List.mem_of_getElem? (i := 1) rfl)) (hl _ (List.mem_of_getElem? (i := 2) rfl)) (hl _ (List.mem_of_getElem? (i := 3) rfl)) (hl _ (List.mem_of_getElem? (i := 4) rfl))
  refine Wp.aload_n 0 0 d_M_perhaps_0 rfl rfl ?_
  obtain ⟨e1, P2, hd3, ho4, H5⟩ := H0
  refine Wq.VI (st := []) [] d_M_perhaps_1 k_M_isGood ml_M_217 rfl rfl rfl (fun h => by cases h) (Nat.le_of_ble_eq_true rfl) hd3 ho4 (fun z7 m8 hp9 hz10 hw11 => ?_)
  have H6 := H5 z7 m8 hp9 hz10 hw11
  obtain ⟨H13, H14⟩ := H6
  refine Wp.if_eq 15 d_M_perhaps_4 (by decide) (fun c12 => ?_) (fun c12 => ?_)
  · have H15 := H13 c12
    refine Wp.iload 4 5 d_M_perhaps_15 rfl ?_
    exact Wq.iret d_M_perhaps_17 rfl H15
  · have H16 := H14 c12
    refine Wp.aload_n 0 0 d_M_perhaps_7 rfl rfl ?_
    refine Wp.lload_n 1 1 d_M_perhaps_8 rfl rfl ?_
    obtain ⟨e17, P18, hd19, ho20, H21⟩ := H16
    refine Wq.VI (st := []) [.inr (.inl x1)] d_M_perhaps_9 k_M_isWord ml_M_227 rfl rfl rfl (fun h => by cases h) (Nat.le_of_ble_eq_true rfl) hd19 ho20 (fun z23 m24 hp25 hz26 hw27 => ?_)
    have H22 := H21 z23 m24 hp25 hz26 hw27
    obtain ⟨H29, H30⟩ := H22
    refine Wp.if_ne 18 d_M_perhaps_12 (by decide) (fun c28 => ?_) (fun c28 => ?_)
    · have H31 := H29 c28
      refine Wp.aload_n 0 0 d_M_perhaps_18 rfl rfl ?_
      obtain ⟨e33, P34, hd35, ho36, H37⟩ := H31
      refine Wq.VV (st := []) [] d_M_perhaps_19 k_M_goOn ml_M_221 rfl rfl rfl (fun h => by cases h) (Nat.le_of_ble_eq_true rfl) hd35 ho36 (fun m40 hp41 hw43 => ?_)
      have H38 := H37 m40 hp41 hw43
      refine Wp.aload_n 0 0 d_M_perhaps_22 rfl rfl ?_
      refine Wp.iload_n 2 3 d_M_perhaps_23 rfl rfl ?_
      refine Wp.iload 3 4 d_M_perhaps_24 rfl ?_
      obtain ⟨e44, P45, hd46, ho47, H48⟩ := H38
      refine Wq.VI (st := []) [.inl x3, .inl x4] d_M_perhaps_26 k_M_numeral ml_M_230 rfl rfl rfl (fun h => by cases h) (Nat.le_of_ble_eq_true rfl) hd46 ho47 (fun z50 m51 hp52 hz53 hw54 => ?_)
      have H49 := H48 z50 m51 hp52 hz53 hw54
      exact Wq.iret d_M_perhaps_29 rfl H49
    · have H32 := H30 c28
      refine Wp.iload 4 5 d_M_perhaps_15 rfl ?_
      exact Wq.iret d_M_perhaps_17 rfl H32
theorem d_M_numeral_0 : decode Y_M_numeral.2.1 0 = .ok (.aload_n 0, 1) := by decide +kernel
theorem d_M_numeral_1 : decode Y_M_numeral.2.1 1 = .ok (.invokevirtual 217, 3) := by decide +kernel
theorem d_M_numeral_4 : decode Y_M_numeral.2.1 4 = .ok (.ifCond .ne 5, 3) := by decide +kernel
theorem d_M_numeral_7 : decode Y_M_numeral.2.1 7 = .ok (.iload_n 1, 1) := by decide +kernel
theorem d_M_numeral_8 : decode Y_M_numeral.2.1 8 = .ok (.ireturn, 1) := by decide +kernel
theorem d_M_numeral_9 : decode Y_M_numeral.2.1 9 = .ok (.aload_n 0, 1) := by decide +kernel
theorem d_M_numeral_10 : decode Y_M_numeral.2.1 10 = .ok (.getfield 189, 3) := by decide +kernel
theorem d_M_numeral_13 : decode Y_M_numeral.2.1 13 = .ok (.iconst 4, 1) := by decide +kernel
theorem d_M_numeral_14 : decode Y_M_numeral.2.1 14 = .ok (.if_icmp .eq 7, 3) := by decide +kernel
theorem d_M_numeral_17 : decode Y_M_numeral.2.1 17 = .ok (.aload_n 0, 1) := by decide +kernel
theorem d_M_numeral_18 : decode Y_M_numeral.2.1 18 = .ok (.invokevirtual 224, 3) := by decide +kernel
theorem d_M_numeral_21 : decode Y_M_numeral.2.1 21 = .ok (.aload_n 0, 1) := by decide +kernel
theorem d_M_numeral_22 : decode Y_M_numeral.2.1 22 = .ok (.invokevirtual 217, 3) := by decide +kernel
theorem d_M_numeral_25 : decode Y_M_numeral.2.1 25 = .ok (.ifCond .eq 28, 3) := by decide +kernel
theorem d_M_numeral_28 : decode Y_M_numeral.2.1 28 = .ok (.aload_n 0, 1) := by decide +kernel
theorem d_M_numeral_29 : decode Y_M_numeral.2.1 29 = .ok (.getfield 207, 3) := by decide +kernel
theorem d_M_numeral_32 : decode Y_M_numeral.2.1 32 = .ok (.iload_n 1, 1) := by decide +kernel
theorem d_M_numeral_33 : decode Y_M_numeral.2.1 33 = .ok (.if_icmp .lt 11, 3) := by decide +kernel
theorem d_M_numeral_36 : decode Y_M_numeral.2.1 36 = .ok (.aload_n 0, 1) := by decide +kernel
theorem d_M_numeral_37 : decode Y_M_numeral.2.1 37 = .ok (.getfield 207, 3) := by decide +kernel
theorem d_M_numeral_40 : decode Y_M_numeral.2.1 40 = .ok (.iload_n 2, 1) := by decide +kernel
theorem d_M_numeral_41 : decode Y_M_numeral.2.1 41 = .ok (.if_icmp .le 12, 3) := by decide +kernel
theorem d_M_numeral_44 : decode Y_M_numeral.2.1 44 = .ok (.aload_n 0, 1) := by decide +kernel
theorem d_M_numeral_45 : decode Y_M_numeral.2.1 45 = .ok (.iconst 4, 1) := by decide +kernel
theorem d_M_numeral_46 : decode Y_M_numeral.2.1 46 = .ok (.aload_n 0, 1) := by decide +kernel
theorem d_M_numeral_47 : decode Y_M_numeral.2.1 47 = .ok (.getfield 182, 3) := by decide +kernel
theorem d_M_numeral_50 : decode Y_M_numeral.2.1 50 = .ok (.invokevirtual 213, 3) := by decide +kernel
theorem d_M_numeral_53 : decode Y_M_numeral.2.1 53 = .ok (.aload_n 0, 1) := by decide +kernel
theorem d_M_numeral_54 : decode Y_M_numeral.2.1 54 = .ok (.getfield 207, 3) := by decide +kernel
theorem d_M_numeral_57 : decode Y_M_numeral.2.1 57 = .ok (.istore_n 3, 1) := by decide +kernel
theorem d_M_numeral_58 : decode Y_M_numeral.2.1 58 = .ok (.aload_n 0, 1) := by decide +kernel
theorem d_M_numeral_59 : decode Y_M_numeral.2.1 59 = .ok (.invokevirtual 217, 3) := by decide +kernel
theorem d_M_numeral_62 : decode Y_M_numeral.2.1 62 = .ok (.ifCond .eq 7, 3) := by decide +kernel
theorem d_M_numeral_65 : decode Y_M_numeral.2.1 65 = .ok (.aload_n 0, 1) := by decide +kernel
theorem d_M_numeral_66 : decode Y_M_numeral.2.1 66 = .ok (.invokevirtual 221, 3) := by decide +kernel
theorem d_M_numeral_69 : decode Y_M_numeral.2.1 69 = .ok (.aload_n 0, 1) := by decide +kernel
theorem d_M_numeral_70 : decode Y_M_numeral.2.1 70 = .ok (.invokevirtual 217, 3) := by decide +kernel
theorem d_M_numeral_73 : decode Y_M_numeral.2.1 73 = .ok (.ifCond .eq 7, 3) := by decide +kernel
theorem d_M_numeral_76 : decode Y_M_numeral.2.1 76 = .ok (.iload_n 3, 1) := by decide +kernel
theorem d_M_numeral_77 : decode Y_M_numeral.2.1 77 = .ok (.goto 4, 3) := by decide +kernel
theorem d_M_numeral_80 : decode Y_M_numeral.2.1 80 = .ok (.iload_n 1, 1) := by decide +kernel
theorem d_M_numeral_81 : decode Y_M_numeral.2.1 81 = .ok (.ireturn, 1) := by decide +kernel
theorem e_M_numeral {l : Launch} {G : GT} {d : Nat} {P : Int → MM → Prop} {m : MM} (x1 : Int) (x2 : Int)  (H : wfM m → inR x1 → inR x2 → ∃ (e1 : Nat) (P2 : Int → MM → Prop), e1 < d ∧ CI l G Y_M_isGood e1 [.inr (.inr 70)] m P2 ∧ (∀ z7 m8, P2 z7 m8 → inR z7 → wfM m8 → ((z7 ≠ 0 → (((m8 70 8) = 4 → (Wq l G false Y_M_numeral d (QI P) 21 [(0, .inr (.inr 70)), (1, .inl x1), (2, .inl x2)] [] m8)) ∧ (¬ ((m8 70 8) = 4) → (∃ (e22 : Nat) (P23 : MM → Prop), e22 < d ∧ CV l G Y_M_misplaced e22 [.inr (.inr 70)] m8 P23 ∧ (∀ m29, P23 m29 → wfM m29 → (Wq l G false Y_M_numeral d (QI P) 21 [(0, .inr (.inr 70)), (1, .inl x1), (2, .inl x2)] [] m29)))))) ∧ (¬ (z7 ≠ 0) → (P x1 m8))))) : CI l G Y_M_numeral d [.inr (.inr 70), .inl x1, .inl x2] m P := by
  refine CI.of [(0, .inr (.inr 70)), (1, .inl x1), (2, .inl x2)] k_M_numeral.1 (Nat.le_of_ble_eq_true rfl) rfl (Wp.wf (fun hw _ hl hs => ?_))
  have H0 := H hw (hl _ (List.mem_of_getElem? (i := 1) rfl)) (hl _ (List.mem_of_getElem? (i := 2) rfl))
  refine Wp.aload_n 0 0 d_M_numeral_0 rfl rfl ?_
  obtain ⟨e1, P2, hd3, ho4, H5⟩ := H0
  refine Wq.VI (st := []) [] d_M_numeral_1 k_M_isGood ml_M_217 rfl rfl rfl (fun h => by cases h) (Nat.le_of_ble_eq_true rfl) hd3 ho4 (fun z7 m8 hp9 hz10 hw11 => ?_)
  have H6 := H5 z7 m8 hp9 hz10 hw11
  obtain ⟨H13, H14⟩ := H6
  refine Wp.if_ne 9 d_M_numeral_4 (by decide) (fun c12 => ?_) (fun c12 => ?_)
  · have H15 := H13 c12
    refine Wp.aload_n 0 0 d_M_numeral_9 rfl rfl ?_
    refine Wq.getI 8 rfl d_M_numeral_10 fl_M_189 rfl (Or.inl rfl) ?_
    refine Wp.iconst d_M_numeral_13 (by decide) ?_
    obtain ⟨H18, H19⟩ := H15
    refine Wp.icmp_eq 21 d_M_numeral_14 (by decide) (fun c17 => ?_) (fun c17 => ?_)
    · have H20 := H18 c17
      exact H20
    · have H21 := H19 c17
      refine Wp.aload_n 0 0 d_M_numeral_17 rfl rfl ?_
      obtain ⟨e22, P23, hd24, ho25, H26⟩ := H21
      refine Wq.VV (st := []) [] d_M_numeral_18 k_M_misplaced ml_M_224 rfl rfl rfl (fun h => by cases h) (Nat.le_of_ble_eq_true rfl) hd24 ho25 (fun m29 hp30 hw32 => ?_)
      have H27 := H26 m29 hp30 hw32
      exact H27
  · have H16 := H14 c12
    refine Wp.iload_n 1 1 d_M_numeral_7 rfl rfl ?_
    exact Wq.iret d_M_numeral_8 rfl H16
theorem s_M_numeral_21 {l : Launch} {G : GT} {d : Nat} {P : Int → MM → Prop} {m : MM} (x1 : Int) (x2 : Int)  (H : wfM m → inR x1 → inR x2 → ∃ (e1 : Nat) (P2 : Int → MM → Prop), e1 < d ∧ CI l G Y_M_isGood e1 [.inr (.inr 70)] m P2 ∧ (∀ z7 m8, P2 z7 m8 → inR z7 → wfM m8 → ((z7 = 0 → (∃ (e17 : Nat) (P18 : Int → MM → Prop), e17 < d ∧ CI l G Y_M_isGood e17 [.inr (.inr 70)] m8 P18 ∧ (∀ z23 m24, P18 z23 m24 → inR z23 → wfM m24 → ((z23 = 0 → (∃ (e33 : Nat) (P34 : Int → MM → Prop), e33 < d ∧ CI l G Y_M_isGood e33 [.inr (.inr 70)] m24 P34 ∧ (∀ z39 m40, P34 z39 m40 → inR z39 → wfM m40 → ((z39 = 0 → (P x1 m40)) ∧ (¬ (z39 = 0) → (P (m8 70 9) m40)))))) ∧ (¬ (z23 = 0) → (∃ (e49 : Nat) (P50 : MM → Prop), e49 < d ∧ CV l G Y_M_goOn e49 [.inr (.inr 70)] m24 P50 ∧ (∀ m56, P50 m56 → wfM m56 → (∃ (e60 : Nat) (P61 : Int → MM → Prop), e60 < d ∧ CI l G Y_M_isGood e60 [.inr (.inr 70)] m56 P61 ∧ (∀ z66 m67, P61 z66 m67 → inR z66 → wfM m67 → ((z66 = 0 → (P x1 m67)) ∧ (¬ (z66 = 0) → (P (m8 70 9) m67)))))))))))) ∧ (¬ (z7 = 0) → (((m8 70 9) < x1 → (∃ (e81 : Nat) (P82 : MM → Prop), e81 < d ∧ CV l G Y_M_fails e81 [.inr (.inr 70), .inl 4, .inl (m8 70 6)] m8 P82 ∧ (∀ m88, P82 m88 → wfM m88 → (∃ (e92 : Nat) (P93 : Int → MM → Prop), e92 < d ∧ CI l G Y_M_isGood e92 [.inr (.inr 70)] m88 P93 ∧ (∀ z98 m99, P93 z98 m99 → inR z98 → wfM m99 → ((z98 = 0 → (∃ (e108 : Nat) (P109 : Int → MM → Prop), e108 < d ∧ CI l G Y_M_isGood e108 [.inr (.inr 70)] m99 P109 ∧ (∀ z114 m115, P109 z114 m115 → inR z114 → wfM m115 → ((z114 = 0 → (P x1 m115)) ∧ (¬ (z114 = 0) → (P (m88 70 9) m115)))))) ∧ (¬ (z98 = 0) → (∃ (e124 : Nat) (P125 : MM → Prop), e124 < d ∧ CV l G Y_M_goOn e124 [.inr (.inr 70)] m99 P125 ∧ (∀ m131, P125 m131 → wfM m131 → (∃ (e135 : Nat) (P136 : Int → MM → Prop), e135 < d ∧ CI l G Y_M_isGood e135 [.inr (.inr 70)] m131 P136 ∧ (∀ z141 m142, P136 z141 m142 → inR z141 → wfM m142 → ((z141 = 0 → (P x1 m142)) ∧ (¬ (z141 = 0) → (P (m88 70 9) m142)))))))))))))) ∧ (¬ ((m8 70 9) < x1) → (((m8 70 9) ≤ x2 → (∃ (e156 : Nat) (P157 : Int → MM → Prop), e156 < d ∧ CI l G Y_M_isGood e156 [.inr (.inr 70)] m8 P157 ∧ (∀ z162 m163, P157 z162 m163 → inR z162 → wfM m163 → ((z162 = 0 → (∃ (e172 : Nat) (P173 : Int → MM → Prop), e172 < d ∧ CI l G Y_M_isGood e172 [.inr (.inr 70)] m163 P173 ∧ (∀ z178 m179, P173 z178 m179 → inR z178 → wfM m179 → ((z178 = 0 → (P x1 m179)) ∧ (¬ (z178 = 0) → (P (m8 70 9) m179)))))) ∧ (¬ (z162 = 0) → (∃ (e188 : Nat) (P189 : MM → Prop), e188 < d ∧ CV l G Y_M_goOn e188 [.inr (.inr 70)] m163 P189 ∧ (∀ m195, P189 m195 → wfM m195 → (∃ (e199 : Nat) (P200 : Int → MM → Prop), e199 < d ∧ CI l G Y_M_isGood e199 [.inr (.inr 70)] m195 P200 ∧ (∀ z205 m206, P200 z205 m206 → inR z205 → wfM m206 → ((z205 = 0 → (P x1 m206)) ∧ (¬ (z205 = 0) → (P (m8 70 9) m206)))))))))))) ∧ (¬ ((m8 70 9) ≤ x2) → (∃ (e215 : Nat) (P216 : MM → Prop), e215 < d ∧ CV l G Y_M_fails e215 [.inr (.inr 70), .inl 4, .inl (m8 70 6)] m8 P216 ∧ (∀ m222, P216 m222 → wfM m222 → (∃ (e226 : Nat) (P227 : Int → MM → Prop), e226 < d ∧ CI l G Y_M_isGood e226 [.inr (.inr 70)] m222 P227 ∧ (∀ z232 m233, P227 z232 m233 → inR z232 → wfM m233 → ((z232 = 0 → (∃ (e242 : Nat) (P243 : Int → MM → Prop), e242 < d ∧ CI l G Y_M_isGood e242 [.inr (.inr 70)] m233 P243 ∧ (∀ z248 m249, P243 z248 m249 → inR z248 → wfM m249 → ((z248 = 0 → (P x1 m249)) ∧ (¬ (z248 = 0) → (P (m222 70 9) m249)))))) ∧ (¬ (z232 = 0) → (∃ (e258 : Nat) (P259 : MM → Prop), e258 < d ∧ CV l G Y_M_goOn e258 [.inr (.inr 70)] m233 P259 ∧ (∀ m265, P259 m265 → wfM m265 → (∃ (e269 : Nat) (P270 : Int → MM → Prop), e269 < d ∧ CI l G Y_M_isGood e269 [.inr (.inr 70)] m265 P270 ∧ (∀ z275 m276, P270 z275 m276 → inR z275 → wfM m276 → ((z275 = 0 → (P x1 m276)) ∧ (¬ (z275 = 0) → (P (m222 70 9) m276))))))))))))))))))))) : Wq l G false Y_M_numeral d (QI P) 21 [(0, .inr (.inr 70)), (1, .inl x1), (2, .inl x2)] [] m := by
  refine Wp.wf (fun hw _ hl hs => ?_)
  have H0 := H hw (hl _ (List.mem_of_getElem? (i := 1) rfl)) (hl _ (List.mem_of_getElem? (i := 2) rfl))
  refine Wp.aload_n 0 0 d_M_numeral_21 rfl rfl ?_
  obtain ⟨e1, P2, hd3, ho4, H5⟩ := H0
  refine Wq.VI (st := []) [] d_M_numeral_22 k_M_isGood ml_M_217 rfl rfl rfl (fun h => by cases h) (Nat.le_of_ble_eq_true rfl) hd3 ho4 (fun z7 m8 hp9 hz10 hw11 => ?_)
  have H6 := H5 z7 m8 hp9 hz10 hw11
  obtain ⟨H13, H14⟩ := H6
  refine Wp.if_eq 53 d_M_numeral_25 (by decide) (fun c12 => ?_) (fun c12 => ?_)
  · have H15 := H13 c12
    refine Wp.aload_n 0 0 d_M_numeral_53 rfl rfl ?_
    refine Wq.getI 9 rfl d_M_numeral_54 fl_M_207 rfl (Or.inl rfl) ?_
    refine Wp.istore_n 3 [(0, .inr (.inr 70)), (1, .inl x1), (2, .inl x2), (3, .inl (m8 70 9))] d_M_numeral_57 rfl (by decide) rfl ?_
    refine Wp.aload_n 0 0 d_M_numeral_58 rfl rfl ?_
    obtain ⟨e17, P18, hd19, ho20, H21⟩ := H15
    refine Wq.VI (st := []) [] d_M_numeral_59 k_M_isGood ml_M_217 rfl rfl rfl (fun h => by cases h) (Nat.le_of_ble_eq_true rfl) hd19 ho20 (fun z23 m24 hp25 hz26 hw27 => ?_)
    have H22 := H21 z23 m24 hp25 hz26 hw27
    obtain ⟨H29, H30⟩ := H22
    refine Wp.if_eq 69 d_M_numeral_62 (by decide) (fun c28 => ?_) (fun c28 => ?_)
    · have H31 := H29 c28
      refine Wp.aload_n 0 0 d_M_numeral_69 rfl rfl ?_
      obtain ⟨e33, P34, hd35, ho36, H37⟩ := H31
      refine Wq.VI (st := []) [] d_M_numeral_70 k_M_isGood ml_M_217 rfl rfl rfl (fun h => by cases h) (Nat.le_of_ble_eq_true rfl) hd35 ho36 (fun z39 m40 hp41 hz42 hw43 => ?_)
      have H38 := H37 z39 m40 hp41 hz42 hw43
      obtain ⟨H45, H46⟩ := H38
      refine Wp.if_eq 80 d_M_numeral_73 (by decide) (fun c44 => ?_) (fun c44 => ?_)
      · have H47 := H45 c44
        refine Wp.iload_n 1 1 d_M_numeral_80 rfl rfl ?_
        exact Wq.iret d_M_numeral_81 rfl H47
      · have H48 := H46 c44
        refine Wp.iload_n 3 3 d_M_numeral_76 rfl rfl ?_
        refine Wp.goto 81 d_M_numeral_77 (by decide) ?_
        exact Wq.iret d_M_numeral_81 rfl H48
    · have H32 := H30 c28
      refine Wp.aload_n 0 0 d_M_numeral_65 rfl rfl ?_
      obtain ⟨e49, P50, hd51, ho52, H53⟩ := H32
      refine Wq.VV (st := []) [] d_M_numeral_66 k_M_goOn ml_M_221 rfl rfl rfl (fun h => by cases h) (Nat.le_of_ble_eq_true rfl) hd51 ho52 (fun m56 hp57 hw59 => ?_)
      have H54 := H53 m56 hp57 hw59
      refine Wp.aload_n 0 0 d_M_numeral_69 rfl rfl ?_
      obtain ⟨e60, P61, hd62, ho63, H64⟩ := H54
      refine Wq.VI (st := []) [] d_M_numeral_70 k_M_isGood ml_M_217 rfl rfl rfl (fun h => by cases h) (Nat.le_of_ble_eq_true rfl) hd62 ho63 (fun z66 m67 hp68 hz69 hw70 => ?_)
      have H65 := H64 z66 m67 hp68 hz69 hw70
      obtain ⟨H72, H73⟩ := H65
      refine Wp.if_eq 80 d_M_numeral_73 (by decide) (fun c71 => ?_) (fun c71 => ?_)
      · have H74 := H72 c71
        refine Wp.iload_n 1 1 d_M_numeral_80 rfl rfl ?_
        exact Wq.iret d_M_numeral_81 rfl H74
      · have H75 := H73 c71
        refine Wp.iload_n 3 3 d_M_numeral_76 rfl rfl ?_
        refine Wp.goto 81 d_M_numeral_77 (by decide) ?_
        exact Wq.iret d_M_numeral_81 rfl H75
  · have H16 := H14 c12
    refine Wp.aload_n 0 0 d_M_numeral_28 rfl rfl ?_
    refine Wq.getI 9 rfl d_M_numeral_29 fl_M_207 rfl (Or.inl rfl) ?_
    refine Wp.iload_n 1 1 d_M_numeral_32 rfl rfl ?_
    obtain ⟨H77, H78⟩ := H16
    refine Wp.icmp_lt 44 d_M_numeral_33 (by decide) (fun c76 => ?_) (fun c76 => ?_)
    · have H79 := H77 c76
      refine Wp.aload_n 0 0 d_M_numeral_44 rfl rfl ?_
      refine Wp.iconst d_M_numeral_45 (by decide) ?_
      refine Wp.aload_n 0 0 d_M_numeral_46 rfl rfl ?_
      refine Wq.getI 6 rfl d_M_numeral_47 fl_M_182 rfl (Or.inl rfl) ?_
      obtain ⟨e81, P82, hd83, ho84, H85⟩ := H79
      refine Wq.VV (st := []) [.inl 4, .inl (m8 70 6)] d_M_numeral_50 k_M_fails ml_M_213 rfl rfl rfl (fun h => by cases h) (Nat.le_of_ble_eq_true rfl) hd83 ho84 (fun m88 hp89 hw91 => ?_)
      have H86 := H85 m88 hp89 hw91
      refine Wp.aload_n 0 0 d_M_numeral_53 rfl rfl ?_
      refine Wq.getI 9 rfl d_M_numeral_54 fl_M_207 rfl (Or.inl rfl) ?_
      refine Wp.istore_n 3 [(0, .inr (.inr 70)), (1, .inl x1), (2, .inl x2), (3, .inl (m88 70 9))] d_M_numeral_57 rfl (by decide) rfl ?_
      refine Wp.aload_n 0 0 d_M_numeral_58 rfl rfl ?_
      obtain ⟨e92, P93, hd94, ho95, H96⟩ := H86
      refine Wq.VI (st := []) [] d_M_numeral_59 k_M_isGood ml_M_217 rfl rfl rfl (fun h => by cases h) (Nat.le_of_ble_eq_true rfl) hd94 ho95 (fun z98 m99 hp100 hz101 hw102 => ?_)
      have H97 := H96 z98 m99 hp100 hz101 hw102
      obtain ⟨H104, H105⟩ := H97
      refine Wp.if_eq 69 d_M_numeral_62 (by decide) (fun c103 => ?_) (fun c103 => ?_)
      · have H106 := H104 c103
        refine Wp.aload_n 0 0 d_M_numeral_69 rfl rfl ?_
        obtain ⟨e108, P109, hd110, ho111, H112⟩ := H106
        refine Wq.VI (st := []) [] d_M_numeral_70 k_M_isGood ml_M_217 rfl rfl rfl (fun h => by cases h) (Nat.le_of_ble_eq_true rfl) hd110 ho111 (fun z114 m115 hp116 hz117 hw118 => ?_)
        have H113 := H112 z114 m115 hp116 hz117 hw118
        obtain ⟨H120, H121⟩ := H113
        refine Wp.if_eq 80 d_M_numeral_73 (by decide) (fun c119 => ?_) (fun c119 => ?_)
        · have H122 := H120 c119
          refine Wp.iload_n 1 1 d_M_numeral_80 rfl rfl ?_
          exact Wq.iret d_M_numeral_81 rfl H122
        · have H123 := H121 c119
          refine Wp.iload_n 3 3 d_M_numeral_76 rfl rfl ?_
          refine Wp.goto 81 d_M_numeral_77 (by decide) ?_
          exact Wq.iret d_M_numeral_81 rfl H123
      · have H107 := H105 c103
        refine Wp.aload_n 0 0 d_M_numeral_65 rfl rfl ?_
        obtain ⟨e124, P125, hd126, ho127, H128⟩ := H107
        refine Wq.VV (st := []) [] d_M_numeral_66 k_M_goOn ml_M_221 rfl rfl rfl (fun h => by cases h) (Nat.le_of_ble_eq_true rfl) hd126 ho127 (fun m131 hp132 hw134 => ?_)
        have H129 := H128 m131 hp132 hw134
        refine Wp.aload_n 0 0 d_M_numeral_69 rfl rfl ?_
        obtain ⟨e135, P136, hd137, ho138, H139⟩ := H129
        refine Wq.VI (st := []) [] d_M_numeral_70 k_M_isGood ml_M_217 rfl rfl rfl (fun h => by cases h) (Nat.le_of_ble_eq_true rfl) hd137 ho138 (fun z141 m142 hp143 hz144 hw145 => ?_)
        have H140 := H139 z141 m142 hp143 hz144 hw145
        obtain ⟨H147, H148⟩ := H140
        refine Wp.if_eq 80 d_M_numeral_73 (by decide) (fun c146 => ?_) (fun c146 => ?_)
        · have H149 := H147 c146
          refine Wp.iload_n 1 1 d_M_numeral_80 rfl rfl ?_
          exact Wq.iret d_M_numeral_81 rfl H149
        · have H150 := H148 c146
          refine Wp.iload_n 3 3 d_M_numeral_76 rfl rfl ?_
          refine Wp.goto 81 d_M_numeral_77 (by decide) ?_
          exact Wq.iret d_M_numeral_81 rfl H150
    · have H80 := H78 c76
      refine Wp.aload_n 0 0 d_M_numeral_36 rfl rfl ?_
      refine Wq.getI 9 rfl d_M_numeral_37 fl_M_207 rfl (Or.inl rfl) ?_
      refine Wp.iload_n 2 2 d_M_numeral_40 rfl rfl ?_
      obtain ⟨H152, H153⟩ := H80
      refine Wp.icmp_le 53 d_M_numeral_41 (by decide) (fun c151 => ?_) (fun c151 => ?_)
      · have H154 := H152 c151
        refine Wp.aload_n 0 0 d_M_numeral_53 rfl rfl ?_
        refine Wq.getI 9 rfl d_M_numeral_54 fl_M_207 rfl (Or.inl rfl) ?_
        refine Wp.istore_n 3 [(0, .inr (.inr 70)), (1, .inl x1), (2, .inl x2), (3, .inl (m8 70 9))] d_M_numeral_57 rfl (by decide) rfl ?_
        refine Wp.aload_n 0 0 d_M_numeral_58 rfl rfl ?_
        obtain ⟨e156, P157, hd158, ho159, H160⟩ := H154
        refine Wq.VI (st := []) [] d_M_numeral_59 k_M_isGood ml_M_217 rfl rfl rfl (fun h => by cases h) (Nat.le_of_ble_eq_true rfl) hd158 ho159 (fun z162 m163 hp164 hz165 hw166 => ?_)
        have H161 := H160 z162 m163 hp164 hz165 hw166
        obtain ⟨H168, H169⟩ := H161
        refine Wp.if_eq 69 d_M_numeral_62 (by decide) (fun c167 => ?_) (fun c167 => ?_)
        · have H170 := H168 c167
          refine Wp.aload_n 0 0 d_M_numeral_69 rfl rfl ?_
          obtain ⟨e172, P173, hd174, ho175, H176⟩ := H170
          refine Wq.VI (st := []) [] d_M_numeral_70 k_M_isGood ml_M_217 rfl rfl rfl (fun h => by cases h) (Nat.le_of_ble_eq_true rfl) hd174 ho175 (fun z178 m179 hp180 hz181 hw182 => ?_)
          have H177 := H176 z178 m179 hp180 hz181 hw182
          obtain ⟨H184, H185⟩ := H177
          refine Wp.if_eq 80 d_M_numeral_73 (by decide) (fun c183 => ?_) (fun c183 => ?_)
          · have H186 := H184 c183
            refine Wp.iload_n 1 1 d_M_numeral_80 rfl rfl ?_
            exact Wq.iret d_M_numeral_81 rfl H186
          · have H187 := H185 c183
            refine Wp.iload_n 3 3 d_M_numeral_76 rfl rfl ?_
            refine Wp.goto 81 d_M_numeral_77 (by decide) ?_
            exact Wq.iret d_M_numeral_81 rfl H187
        · have H171 := H169 c167
          refine Wp.aload_n 0 0 d_M_numeral_65 rfl rfl ?_
          obtain ⟨e188, P189, hd190, ho191, H192⟩ := H171
          refine Wq.VV (st := []) [] d_M_numeral_66 k_M_goOn ml_M_221 rfl rfl rfl (fun h => by cases h) (Nat.le_of_ble_eq_true rfl) hd190 ho191 (fun m195 hp196 hw198 => ?_)
          have H193 := H192 m195 hp196 hw198
          refine Wp.aload_n 0 0 d_M_numeral_69 rfl rfl ?_
          obtain ⟨e199, P200, hd201, ho202, H203⟩ := H193
          refine Wq.VI (st := []) [] d_M_numeral_70 k_M_isGood ml_M_217 rfl rfl rfl (fun h => by cases h) (Nat.le_of_ble_eq_true rfl) hd201 ho202 (fun z205 m206 hp207 hz208 hw209 => ?_)
          have H204 := H203 z205 m206 hp207 hz208 hw209
          obtain ⟨H211, H212⟩ := H204
          refine Wp.if_eq 80 d_M_numeral_73 (by decide) (fun c210 => ?_) (fun c210 => ?_)
          · have H213 := H211 c210
            refine Wp.iload_n 1 1 d_M_numeral_80 rfl rfl ?_
            exact Wq.iret d_M_numeral_81 rfl H213
          · have H214 := H212 c210
            refine Wp.iload_n 3 3 d_M_numeral_76 rfl rfl ?_
            refine Wp.goto 81 d_M_numeral_77 (by decide) ?_
            exact Wq.iret d_M_numeral_81 rfl H214
      · have H155 := H153 c151
        refine Wp.aload_n 0 0 d_M_numeral_44 rfl rfl ?_
        refine Wp.iconst d_M_numeral_45 (by decide) ?_
        refine Wp.aload_n 0 0 d_M_numeral_46 rfl rfl ?_
        refine Wq.getI 6 rfl d_M_numeral_47 fl_M_182 rfl (Or.inl rfl) ?_
        obtain ⟨e215, P216, hd217, ho218, H219⟩ := H155
        refine Wq.VV (st := []) [.inl 4, .inl (m8 70 6)] d_M_numeral_50 k_M_fails ml_M_213 rfl rfl rfl (fun h => by cases h) (Nat.le_of_ble_eq_true rfl) hd217 ho218 (fun m222 hp223 hw225 => ?_)
        have H220 := H219 m222 hp223 hw225
        refine Wp.aload_n 0 0 d_M_numeral_53 rfl rfl ?_
        refine Wq.getI 9 rfl d_M_numeral_54 fl_M_207 rfl (Or.inl rfl) ?_
        refine Wp.istore_n 3 [(0, .inr (.inr 70)), (1, .inl x1), (2, .inl x2), (3, .inl (m222 70 9))] d_M_numeral_57 rfl (by decide) rfl ?_
        refine Wp.aload_n 0 0 d_M_numeral_58 rfl rfl ?_
        obtain ⟨e226, P227, hd228, ho229, H230⟩ := H220
        refine Wq.VI (st := []) [] d_M_numeral_59 k_M_isGood ml_M_217 rfl rfl rfl (fun h => by cases h) (Nat.le_of_ble_eq_true rfl) hd228 ho229 (fun z232 m233 hp234 hz235 hw236 => ?_)
        have H231 := H230 z232 m233 hp234 hz235 hw236
        obtain ⟨H238, H239⟩ := H231
        refine Wp.if_eq 69 d_M_numeral_62 (by decide) (fun c237 => ?_) (fun c237 => ?_)
        · have H240 := H238 c237
          refine Wp.aload_n 0 0 d_M_numeral_69 rfl rfl ?_
          obtain ⟨e242, P243, hd244, ho245, H246⟩ := H240
          refine Wq.VI (st := []) [] d_M_numeral_70 k_M_isGood ml_M_217 rfl rfl rfl (fun h => by cases h) (Nat.le_of_ble_eq_true rfl) hd244 ho245 (fun z248 m249 hp250 hz251 hw252 => ?_)
          have H247 := H246 z248 m249 hp250 hz251 hw252
          obtain ⟨H254, H255⟩ := H247
          refine Wp.if_eq 80 d_M_numeral_73 (by decide) (fun c253 => ?_) (fun c253 => ?_)
          · have H256 := H254 c253
            refine Wp.iload_n 1 1 d_M_numeral_80 rfl rfl ?_
            exact Wq.iret d_M_numeral_81 rfl H256
          · have H257 := H255 c253
            refine Wp.iload_n 3 3 d_M_numeral_76 rfl rfl ?_
            refine Wp.goto 81 d_M_numeral_77 (by decide) ?_
            exact Wq.iret d_M_numeral_81 rfl H257
        · have H241 := H239 c237
          refine Wp.aload_n 0 0 d_M_numeral_65 rfl rfl ?_
          obtain ⟨e258, P259, hd260, ho261, H262⟩ := H241
          refine Wq.VV (st := []) [] d_M_numeral_66 k_M_goOn ml_M_221 rfl rfl rfl (fun h => by cases h) (Nat.le_of_ble_eq_true rfl) hd260 ho261 (fun m265 hp266 hw268 => ?_)
          have H263 := H262 m265 hp266 hw268
          refine Wp.aload_n 0 0 d_M_numeral_69 rfl rfl ?_
          obtain ⟨e269, P270, hd271, ho272, H273⟩ := H263
          refine Wq.VI (st := []) [] d_M_numeral_70 k_M_isGood ml_M_217 rfl rfl rfl (fun h => by cases h) (Nat.le_of_ble_eq_true rfl) hd271 ho272 (fun z275 m276 hp277 hz278 hw279 => ?_)
          have H274 := H273 z275 m276 hp277 hz278 hw279
          obtain ⟨H281, H282⟩ := H274
          refine Wp.if_eq 80 d_M_numeral_73 (by decide) (fun c280 => ?_) (fun c280 => ?_)
          · have H283 := H281 c280
            refine Wp.iload_n 1 1 d_M_numeral_80 rfl rfl ?_
            exact Wq.iret d_M_numeral_81 rfl H283
          · have H284 := H282 c280
            refine Wp.iload_n 3 3 d_M_numeral_76 rfl rfl ?_
            refine Wp.goto 81 d_M_numeral_77 (by decide) ?_
            exact Wq.iret d_M_numeral_81 rfl H284
theorem d_M_readChute_0 : decode Y_M_readChute.2.1 0 = .ok (.aload_n 0, 1) := by decide +kernel
theorem d_M_readChute_1 : decode Y_M_readChute.2.1 1 = .ok (.iconst 0, 1) := by decide +kernel
theorem d_M_readChute_2 : decode Y_M_readChute.2.1 2 = .ok (.invokevirtual 289, 3) := by decide +kernel
theorem d_M_readChute_5 : decode Y_M_readChute.2.1 5 = .ok (.istore_n 1, 1) := by decide +kernel
theorem d_M_readChute_6 : decode Y_M_readChute.2.1 6 = .ok (.iconst 1, 1) := by decide +kernel
theorem d_M_readChute_7 : decode Y_M_readChute.2.1 7 = .ok (.iload_n 1, 1) := by decide +kernel
theorem d_M_readChute_8 : decode Y_M_readChute.2.1 8 = .ok (.ishl, 1) := by decide +kernel
theorem d_M_readChute_9 : decode Y_M_readChute.2.1 9 = .ok (.istore_n 2, 1) := by decide +kernel
theorem d_M_readChute_10 : decode Y_M_readChute.2.1 10 = .ok (.iconst 0, 1) := by decide +kernel
theorem d_M_readChute_11 : decode Y_M_readChute.2.1 11 = .ok (.istore_n 3, 1) := by decide +kernel
theorem d_M_readChute_12 : decode Y_M_readChute.2.1 12 = .ok (.iload_n 3, 1) := by decide +kernel
theorem d_M_readChute_13 : decode Y_M_readChute.2.1 13 = .ok (.iconst 5, 1) := by decide +kernel
theorem d_M_readChute_14 : decode Y_M_readChute.2.1 14 = .ok (.if_icmp .ge 35, 3) := by decide +kernel
theorem d_M_readChute_17 : decode Y_M_readChute.2.1 17 = .ok (.aload_n 0, 1) := by decide +kernel
theorem d_M_readChute_18 : decode Y_M_readChute.2.1 18 = .ok (.getfield 42, 3) := by decide +kernel
theorem d_M_readChute_21 : decode Y_M_readChute.2.1 21 = .ok (.iconst 5, 1) := by decide +kernel
theorem d_M_readChute_22 : decode Y_M_readChute.2.1 22 = .ok (.iconst 5, 1) := by decide +kernel
theorem d_M_readChute_23 : decode Y_M_readChute.2.1 23 = .ok (.aload_n 0, 1) := by decide +kernel
theorem d_M_readChute_24 : decode Y_M_readChute.2.1 24 = .ok (.getfield 234, 3) := by decide +kernel
theorem d_M_readChute_27 : decode Y_M_readChute.2.1 27 = .ok (.imul, 1) := by decide +kernel
theorem d_M_readChute_28 : decode Y_M_readChute.2.1 28 = .ok (.iload_n 1, 1) := by decide +kernel
theorem d_M_readChute_29 : decode Y_M_readChute.2.1 29 = .ok (.iadd, 1) := by decide +kernel
theorem d_M_readChute_30 : decode Y_M_readChute.2.1 30 = .ok (.imul, 1) := by decide +kernel
theorem d_M_readChute_31 : decode Y_M_readChute.2.1 31 = .ok (.iload_n 3, 1) := by decide +kernel
theorem d_M_readChute_32 : decode Y_M_readChute.2.1 32 = .ok (.iadd, 1) := by decide +kernel
theorem d_M_readChute_33 : decode Y_M_readChute.2.1 33 = .ok (.iaload, 1) := by decide +kernel
theorem d_M_readChute_34 : decode Y_M_readChute.2.1 34 = .ok (.ifCond .le 9, 3) := by decide +kernel
theorem d_M_readChute_37 : decode Y_M_readChute.2.1 37 = .ok (.iload_n 2, 1) := by decide +kernel
theorem d_M_readChute_38 : decode Y_M_readChute.2.1 38 = .ok (.iconst 1, 1) := by decide +kernel
theorem d_M_readChute_39 : decode Y_M_readChute.2.1 39 = .ok (.iload_n 3, 1) := by decide +kernel
theorem d_M_readChute_40 : decode Y_M_readChute.2.1 40 = .ok (.ishl, 1) := by decide +kernel
theorem d_M_readChute_41 : decode Y_M_readChute.2.1 41 = .ok (.ior, 1) := by decide +kernel
theorem d_M_readChute_42 : decode Y_M_readChute.2.1 42 = .ok (.istore_n 2, 1) := by decide +kernel
theorem d_M_readChute_43 : decode Y_M_readChute.2.1 43 = .ok (.iinc 3 1, 3) := by decide +kernel
theorem d_M_readChute_46 : decode Y_M_readChute.2.1 46 = .ok (.goto (-34), 3) := by decide +kernel
theorem d_M_readChute_49 : decode Y_M_readChute.2.1 49 = .ok (.aload_n 0, 1) := by decide +kernel
theorem d_M_readChute_50 : decode Y_M_readChute.2.1 50 = .ok (.iload_n 2, 1) := by decide +kernel
theorem d_M_readChute_51 : decode Y_M_readChute.2.1 51 = .ok (.invokevirtual 289, 3) := by decide +kernel
theorem d_M_readChute_54 : decode Y_M_readChute.2.1 54 = .ok (.istore_n 3, 1) := by decide +kernel
theorem d_M_readChute_55 : decode Y_M_readChute.2.1 55 = .ok (.aload_n 0, 1) := by decide +kernel
theorem d_M_readChute_56 : decode Y_M_readChute.2.1 56 = .ok (.ldc2_w 155, 3) := by decide +kernel
theorem d_M_readChute_59 : decode Y_M_readChute.2.1 59 = .ok (.iconst 1, 1) := by decide +kernel
theorem d_M_readChute_60 : decode Y_M_readChute.2.1 60 = .ok (.iconst 2, 1) := by decide +kernel
theorem d_M_readChute_61 : decode Y_M_readChute.2.1 61 = .ok (.iconst 1, 1) := by decide +kernel
theorem d_M_readChute_62 : decode Y_M_readChute.2.1 62 = .ok (.invokevirtual 285, 3) := by decide +kernel
theorem d_M_readChute_65 : decode Y_M_readChute.2.1 65 = .ok (.istore 4, 2) := by decide +kernel
theorem d_M_readChute_67 : decode Y_M_readChute.2.1 67 = .ok (.aload_n 0, 1) := by decide +kernel
theorem d_M_readChute_68 : decode Y_M_readChute.2.1 68 = .ok (.invokevirtual 217, 3) := by decide +kernel
theorem d_M_readChute_71 : decode Y_M_readChute.2.1 71 = .ok (.ifCond .ne 4, 3) := by decide +kernel
theorem d_M_readChute_74 : decode Y_M_readChute.2.1 74 = .ok (.return_, 1) := by decide +kernel
theorem d_M_readChute_75 : decode Y_M_readChute.2.1 75 = .ok (.aload_n 0, 1) := by decide +kernel
theorem d_M_readChute_76 : decode Y_M_readChute.2.1 76 = .ok (.getfield 42, 3) := by decide +kernel
theorem d_M_readChute_79 : decode Y_M_readChute.2.1 79 = .ok (.iconst 5, 1) := by decide +kernel
theorem d_M_readChute_80 : decode Y_M_readChute.2.1 80 = .ok (.iconst 5, 1) := by decide +kernel
theorem d_M_readChute_81 : decode Y_M_readChute.2.1 81 = .ok (.aload_n 0, 1) := by decide +kernel
theorem d_M_readChute_82 : decode Y_M_readChute.2.1 82 = .ok (.getfield 234, 3) := by decide +kernel
theorem d_M_readChute_85 : decode Y_M_readChute.2.1 85 = .ok (.imul, 1) := by decide +kernel
theorem d_M_readChute_86 : decode Y_M_readChute.2.1 86 = .ok (.iload_n 1, 1) := by decide +kernel
theorem d_M_readChute_87 : decode Y_M_readChute.2.1 87 = .ok (.iadd, 1) := by decide +kernel
theorem d_M_readChute_88 : decode Y_M_readChute.2.1 88 = .ok (.imul, 1) := by decide +kernel
theorem d_M_readChute_89 : decode Y_M_readChute.2.1 89 = .ok (.iload_n 3, 1) := by decide +kernel
theorem d_M_readChute_90 : decode Y_M_readChute.2.1 90 = .ok (.iadd, 1) := by decide +kernel
theorem d_M_readChute_91 : decode Y_M_readChute.2.1 91 = .ok (.iload 4, 2) := by decide +kernel
theorem d_M_readChute_93 : decode Y_M_readChute.2.1 93 = .ok (.iastore, 1) := by decide +kernel
theorem d_M_readChute_94 : decode Y_M_readChute.2.1 94 = .ok (.aload_n 0, 1) := by decide +kernel
theorem d_M_readChute_95 : decode Y_M_readChute.2.1 95 = .ok (.getfield 42, 3) := by decide +kernel
theorem d_M_readChute_98 : decode Y_M_readChute.2.1 98 = .ok (.iconst 5, 1) := by decide +kernel
theorem d_M_readChute_99 : decode Y_M_readChute.2.1 99 = .ok (.iconst 5, 1) := by decide +kernel
theorem d_M_readChute_100 : decode Y_M_readChute.2.1 100 = .ok (.aload_n 0, 1) := by decide +kernel
theorem d_M_readChute_101 : decode Y_M_readChute.2.1 101 = .ok (.getfield 234, 3) := by decide +kernel
theorem d_M_readChute_104 : decode Y_M_readChute.2.1 104 = .ok (.imul, 1) := by decide +kernel
theorem d_M_readChute_105 : decode Y_M_readChute.2.1 105 = .ok (.iload_n 3, 1) := by decide +kernel
theorem d_M_readChute_106 : decode Y_M_readChute.2.1 106 = .ok (.iadd, 1) := by decide +kernel
theorem d_M_readChute_107 : decode Y_M_readChute.2.1 107 = .ok (.imul, 1) := by decide +kernel
theorem d_M_readChute_108 : decode Y_M_readChute.2.1 108 = .ok (.iload_n 1, 1) := by decide +kernel
theorem d_M_readChute_109 : decode Y_M_readChute.2.1 109 = .ok (.iadd, 1) := by decide +kernel
theorem d_M_readChute_110 : decode Y_M_readChute.2.1 110 = .ok (.iload 4, 2) := by decide +kernel
theorem d_M_readChute_112 : decode Y_M_readChute.2.1 112 = .ok (.iastore, 1) := by decide +kernel
theorem d_M_readChute_113 : decode Y_M_readChute.2.1 113 = .ok (.aload_n 0, 1) := by decide +kernel
theorem d_M_readChute_114 : decode Y_M_readChute.2.1 114 = .ok (.getfield 24, 3) := by decide +kernel
theorem d_M_readChute_117 : decode Y_M_readChute.2.1 117 = .ok (.aload_n 0, 1) := by decide +kernel
theorem d_M_readChute_118 : decode Y_M_readChute.2.1 118 = .ok (.getfield 234, 3) := by decide +kernel
theorem d_M_readChute_121 : decode Y_M_readChute.2.1 121 = .ok (.dup2, 1) := by decide +kernel
theorem d_M_readChute_122 : decode Y_M_readChute.2.1 122 = .ok (.iaload, 1) := by decide +kernel
theorem d_M_readChute_123 : decode Y_M_readChute.2.1 123 = .ok (.iconst 1, 1) := by decide +kernel
theorem d_M_readChute_124 : decode Y_M_readChute.2.1 124 = .ok (.iadd, 1) := by decide +kernel
theorem d_M_readChute_125 : decode Y_M_readChute.2.1 125 = .ok (.iastore, 1) := by decide +kernel
theorem d_M_readChute_126 : decode Y_M_readChute.2.1 126 = .ok (.return_, 1) := by decide +kernel
theorem e_M_readChute {l : Launch} {G : GT} {d : Nat} {P : MM → Prop} {m : MM}   (H : wfM m → ∃ (e1 : Nat) (P2 : Int → MM → Prop), e1 < d ∧ CI l G Y_M_known e1 [.inr (.inr 70), .inl 0] m P2 ∧ (∀ z7 m8, P2 z7 m8 → inR z7 → wfM m8 → (Wq l G false Y_M_readChute d (QV P) 12 [(0, .inr (.inr 70)), (1, .inl z7), (2, .inl (bShl 1 z7)), (3, .inl 0)] [] m8))) : CV l G Y_M_readChute d [.inr (.inr 70)] m P := by
  refine CV.of [(0, .inr (.inr 70))] k_M_readChute.1 (Nat.le_of_ble_eq_true rfl) rfl (Wp.wf (fun hw _ hl hs => ?_))
  have H0 := H hw
  refine Wp.aload_n 0 0 d_M_readChute_0 rfl rfl ?_
  refine Wp.iconst d_M_readChute_1 (by decide) ?_
  obtain ⟨e1, P2, hd3, ho4, H5⟩ := H0
  refine Wq.VI (st := []) [.inl 0] d_M_readChute_2 k_M_known ml_M_289 rfl rfl rfl (fun h => by cases h) (Nat.le_of_ble_eq_true rfl) hd3 ho4 (fun z7 m8 hp9 hz10 hw11 => ?_)
  have H6 := H5 z7 m8 hp9 hz10 hw11
  refine Wp.istore_n 1 [(0, .inr (.inr 70)), (1, .inl z7)] d_M_readChute_5 rfl (by decide) rfl ?_
  refine Wp.iconst d_M_readChute_6 (by decide) ?_
  refine Wp.iload_n 1 1 d_M_readChute_7 rfl rfl ?_
  refine Wp.ishl d_M_readChute_8 ?_
  refine Wp.istore_n 2 [(0, .inr (.inr 70)), (1, .inl z7), (2, .inl (bShl 1 z7))] d_M_readChute_9 rfl (by decide) rfl ?_
  refine Wp.iconst d_M_readChute_10 (by decide) ?_
  refine Wp.istore_n 3 [(0, .inr (.inr 70)), (1, .inl z7), (2, .inl (bShl 1 z7)), (3, .inl 0)] d_M_readChute_11 rfl (by decide) rfl ?_
  exact H6
theorem s_M_readChute_12 {l : Launch} {G : GT} {d : Nat} {P : MM → Prop} {m : MM} (x1 : Int) (x2 : Int) (x3 : Int)  (H : wfM m → inR x1 → inR x2 → inR x3 → (x3 ≥ 5 → (∃ (e6 : Nat) (P7 : Int → MM → Prop), e6 < d ∧ CI l G Y_M_known e6 [.inr (.inr 70), .inl x2] m P7 ∧ (∀ z12 m13, P7 z12 m13 → inR z12 → wfM m13 → (∃ (e17 : Nat) (P18 : Int → MM → Prop), e17 < d ∧ CI l G Y_M_perhaps e17 [.inr (.inr 70), .inr (.inl 2003395685), .inl 1, .inl 2, .inl 1] m13 P18 ∧ (∀ z23 m24, P18 z23 m24 → inR z23 → wfM m24 → (∃ (e28 : Nat) (P29 : Int → MM → Prop), e28 < d ∧ CI l G Y_M_isGood e28 [.inr (.inr 70)] m24 P29 ∧ (∀ z34 m35, P29 z34 m35 → inR z34 → wfM m35 → ((z34 ≠ 0 → ((inR (5 * (m35 70 29))) ∧ ((inR ((5 * (m35 70 29)) + x1)) ∧ ((inR (5 * ((5 * (m35 70 29)) + x1))) ∧ ((inR ((5 * ((5 * (m35 70 29)) + x1)) + z12)) ∧ ((0 ≤ ((5 * ((5 * (m35 70 29)) + x1)) + z12) ∧ ((5 * ((5 * (m35 70 29)) + x1)) + z12) < (50 : Int)) ∧ (∀ m52, m52 = up m35 80 ((5 * ((5 * (m35 70 29)) + x1)) + z12) z23 → ((inR (5 * (m52 70 29))) ∧ ((inR ((5 * (m52 70 29)) + z12)) ∧ ((inR (5 * ((5 * (m52 70 29)) + z12))) ∧ ((inR ((5 * ((5 * (m52 70 29)) + z12)) + x1)) ∧ ((0 ≤ ((5 * ((5 * (m52 70 29)) + z12)) + x1) ∧ ((5 * ((5 * (m52 70 29)) + z12)) + x1) < (50 : Int)) ∧ (∀ m65, m65 = up m52 80 ((5 * ((5 * (m52 70 29)) + z12)) + x1) z23 → ((0 ≤ (m65 70 29) ∧ (m65 70 29) < (2 : Int)) ∧ ((inR ((m65 74 (m65 70 29)) + 1)) ∧ ((0 ≤ (m65 70 29) ∧ (m65 70 29) < (2 : Int)) ∧ (∀ m74, m74 = up m65 74 (m65 70 29) ((m65 74 (m65 70 29)) + 1) → (P m74)))))))))))))))))) ∧ (¬ (z34 ≠ 0) → (P m35)))))))))) ∧ (¬ (x3 ≥ 5) → ((inR (5 * (m 70 29))) ∧ ((inR ((5 * (m 70 29)) + x1)) ∧ ((inR (5 * ((5 * (m 70 29)) + x1))) ∧ ((inR ((5 * ((5 * (m 70 29)) + x1)) + x3)) ∧ ((0 ≤ ((5 * ((5 * (m 70 29)) + x1)) + x3) ∧ ((5 * ((5 * (m 70 29)) + x1)) + x3) < (50 : Int)) ∧ (((m 80 ((5 * ((5 * (m 70 29)) + x1)) + x3)) ≤ 0 → ((inR (x3 + 1)) ∧ (Wq l G false Y_M_readChute d (QV P) 12 [(0, .inr (.inr 70)), (1, .inl x1), (2, .inl x2), (3, .inl (x3 + 1))] [] m))) ∧ (¬ ((m 80 ((5 * ((5 * (m 70 29)) + x1)) + x3)) ≤ 0) → ((inR (x3 + 1)) ∧ (Wq l G false Y_M_readChute d (QV P) 12 [(0, .inr (.inr 70)), (1, .inl x1), (2, .inl (bOr x2 (bShl 1 x3))), (3, .inl (x3 + 1))] [] m))))))))))) : Wq l G false Y_M_readChute d (QV P) 12 [(0, .inr (.inr 70)), (1, .inl x1), (2, .inl x2), (3, .inl x3)] [] m := by
  refine Wp.wf (fun hw _ hl hs => ?_)
  have H0 := H hw (hl _ (List.mem_of_getElem? (i := 1) rfl)) (hl _ (List.mem_of_getElem? (i := 2) rfl)) (hl _ (List.mem_of_getElem? (i := 3) rfl))
  refine Wp.iload_n 3 3 d_M_readChute_12 rfl rfl ?_
  refine Wp.iconst d_M_readChute_13 (by decide) ?_
  obtain ⟨H2, H3⟩ := H0
  refine Wp.icmp_ge 49 d_M_readChute_14 (by decide) (fun c1 => ?_) (fun c1 => ?_)
  · have H4 := H2 c1
    refine Wp.aload_n 0 0 d_M_readChute_49 rfl rfl ?_
    refine Wp.iload_n 2 2 d_M_readChute_50 rfl rfl ?_
    obtain ⟨e6, P7, hd8, ho9, H10⟩ := H4
    refine Wq.VI (st := []) [.inl x2] d_M_readChute_51 k_M_known ml_M_289 rfl rfl rfl (fun h => by cases h) (Nat.le_of_ble_eq_true rfl) hd8 ho9 (fun z12 m13 hp14 hz15 hw16 => ?_)
    have H11 := H10 z12 m13 hp14 hz15 hw16
    refine Wp.istore_n 3 [(0, .inr (.inr 70)), (1, .inl x1), (2, .inl x2), (3, .inl z12)] d_M_readChute_54 rfl (by decide) rfl ?_
    refine Wp.aload_n 0 0 d_M_readChute_55 rfl rfl ?_
    refine Wp.ldc2 (z := 2003395685) d_M_readChute_56 kl_M_155 (by decide) (by decide) ?_
    refine Wp.iconst d_M_readChute_59 (by decide) ?_
    refine Wp.iconst d_M_readChute_60 (by decide) ?_
    refine Wp.iconst d_M_readChute_61 (by decide) ?_
    obtain ⟨e17, P18, hd19, ho20, H21⟩ := H11
    refine Wq.VI (st := []) [.inr (.inl 2003395685), .inl 1, .inl 2, .inl 1] d_M_readChute_62 k_M_perhaps ml_M_285 rfl rfl rfl (fun h => by cases h) (Nat.le_of_ble_eq_true rfl) hd19 ho20 (fun z23 m24 hp25 hz26 hw27 => ?_)
    have H22 := H21 z23 m24 hp25 hz26 hw27
    refine Wp.istore 4 [(0, .inr (.inr 70)), (1, .inl x1), (2, .inl x2), (3, .inl z12), (4, .inl z23)] d_M_readChute_65 (by decide) rfl ?_
    refine Wp.aload_n 0 0 d_M_readChute_67 rfl rfl ?_
    obtain ⟨e28, P29, hd30, ho31, H32⟩ := H22
    refine Wq.VI (st := []) [] d_M_readChute_68 k_M_isGood ml_M_217 rfl rfl rfl (fun h => by cases h) (Nat.le_of_ble_eq_true rfl) hd30 ho31 (fun z34 m35 hp36 hz37 hw38 => ?_)
    have H33 := H32 z34 m35 hp36 hz37 hw38
    obtain ⟨H40, H41⟩ := H33
    refine Wp.if_ne 75 d_M_readChute_71 (by decide) (fun c39 => ?_) (fun c39 => ?_)
    · have H42 := H40 c39
      refine Wp.aload_n 0 0 d_M_readChute_75 rfl rfl ?_
      refine Wp.getP 80 d_M_readChute_76 fl_M_42 rfl rfl rfl ?_
      refine Wp.iconst d_M_readChute_79 (by decide) ?_
      refine Wp.iconst d_M_readChute_80 (by decide) ?_
      refine Wp.aload_n 0 0 d_M_readChute_81 rfl rfl ?_
      refine Wq.getI 29 rfl d_M_readChute_82 fl_M_234 rfl (Or.inl rfl) ?_
      obtain ⟨s44, H45⟩ := H42
      refine Wp.imul d_M_readChute_85 s44 ?_
      refine Wp.iload_n 1 1 d_M_readChute_86 rfl rfl ?_
      obtain ⟨s46, H47⟩ := H45
      refine Wp.iadd d_M_readChute_87 s46 ?_
      obtain ⟨s48, H49⟩ := H47
      refine Wp.imul d_M_readChute_88 s48 ?_
      refine Wp.iload_n 3 3 d_M_readChute_89 rfl rfl ?_
      obtain ⟨s50, H51⟩ := H49
      refine Wp.iadd d_M_readChute_90 s50 ?_
      refine Wp.iload 4 4 d_M_readChute_91 rfl ?_
      obtain ⟨s83, H84⟩ := H51
      refine Wq.iast d_M_readChute_93 rfl s83.1 s83.2 (fun m52 hm53 => ?_)
      have H54 := H84 m52 hm53
      refine Wp.aload_n 0 0 d_M_readChute_94 rfl rfl ?_
      refine Wp.getP 80 d_M_readChute_95 fl_M_42 rfl rfl rfl ?_
      refine Wp.iconst d_M_readChute_98 (by decide) ?_
      refine Wp.iconst d_M_readChute_99 (by decide) ?_
      refine Wp.aload_n 0 0 d_M_readChute_100 rfl rfl ?_
      refine Wq.getI 29 rfl d_M_readChute_101 fl_M_234 rfl (Or.inl rfl) ?_
      obtain ⟨s57, H58⟩ := H54
      refine Wp.imul d_M_readChute_104 s57 ?_
      refine Wp.iload_n 3 3 d_M_readChute_105 rfl rfl ?_
      obtain ⟨s59, H60⟩ := H58
      refine Wp.iadd d_M_readChute_106 s59 ?_
      obtain ⟨s61, H62⟩ := H60
      refine Wp.imul d_M_readChute_107 s61 ?_
      refine Wp.iload_n 1 1 d_M_readChute_108 rfl rfl ?_
      obtain ⟨s63, H64⟩ := H62
      refine Wp.iadd d_M_readChute_109 s63 ?_
      refine Wp.iload 4 4 d_M_readChute_110 rfl ?_
      obtain ⟨s81, H82⟩ := H64
      refine Wq.iast d_M_readChute_112 rfl s81.1 s81.2 (fun m65 hm66 => ?_)
      have H67 := H82 m65 hm66
      refine Wp.aload_n 0 0 d_M_readChute_113 rfl rfl ?_
      refine Wp.getP 74 d_M_readChute_114 fl_M_24 rfl rfl rfl ?_
      refine Wp.aload_n 0 0 d_M_readChute_117 rfl rfl ?_
      refine Wq.getI 29 rfl d_M_readChute_118 fl_M_234 rfl (Or.inl rfl) ?_
      refine Wp.dup2 d_M_readChute_121 rfl rfl ?_
      obtain ⟨s70, H71⟩ := H67
      refine Wp.iald d_M_readChute_122 rfl (Or.inl rfl) s70.1 s70.2 ?_
      refine Wp.iconst d_M_readChute_123 (by decide) ?_
      obtain ⟨s72, H73⟩ := H71
      refine Wp.iadd d_M_readChute_124 s72 ?_
      obtain ⟨s79, H80⟩ := H73
      refine Wq.iast d_M_readChute_125 rfl s79.1 s79.2 (fun m74 hm75 => ?_)
      have H76 := H80 m74 hm75
      exact Wq.vret d_M_readChute_126 rfl H76
    · have H43 := H41 c39
      exact Wq.vret d_M_readChute_74 rfl H43
  · have H5 := H3 c1
    refine Wp.aload_n 0 0 d_M_readChute_17 rfl rfl ?_
    refine Wp.getP 80 d_M_readChute_18 fl_M_42 rfl rfl rfl ?_
    refine Wp.iconst d_M_readChute_21 (by decide) ?_
    refine Wp.iconst d_M_readChute_22 (by decide) ?_
    refine Wp.aload_n 0 0 d_M_readChute_23 rfl rfl ?_
    refine Wq.getI 29 rfl d_M_readChute_24 fl_M_234 rfl (Or.inl rfl) ?_
    obtain ⟨s85, H86⟩ := H5
    refine Wp.imul d_M_readChute_27 s85 ?_
    refine Wp.iload_n 1 1 d_M_readChute_28 rfl rfl ?_
    obtain ⟨s87, H88⟩ := H86
    refine Wp.iadd d_M_readChute_29 s87 ?_
    obtain ⟨s89, H90⟩ := H88
    refine Wp.imul d_M_readChute_30 s89 ?_
    refine Wp.iload_n 3 3 d_M_readChute_31 rfl rfl ?_
    obtain ⟨s91, H92⟩ := H90
    refine Wp.iadd d_M_readChute_32 s91 ?_
    obtain ⟨s93, H94⟩ := H92
    refine Wp.iald d_M_readChute_33 rfl (Or.inl rfl) s93.1 s93.2 ?_
    obtain ⟨H96, H97⟩ := H94
    refine Wp.if_le 43 d_M_readChute_34 (by decide) (fun c95 => ?_) (fun c95 => ?_)
    · have H98 := H96 c95
      obtain ⟨s100, H101⟩ := H98
      refine Wp.iinc 3 3 [(0, .inr (.inr 70)), (1, .inl x1), (2, .inl x2), (3, .inl (x3 + 1))] d_M_readChute_43 rfl s100 (by decide) rfl ?_
      refine Wp.goto 12 d_M_readChute_46 (by decide) ?_
      exact H101
    · have H99 := H97 c95
      refine Wp.iload_n 2 2 d_M_readChute_37 rfl rfl ?_
      refine Wp.iconst d_M_readChute_38 (by decide) ?_
      refine Wp.iload_n 3 3 d_M_readChute_39 rfl rfl ?_
      refine Wp.ishl d_M_readChute_40 ?_
      refine Wp.ior d_M_readChute_41 ?_
      refine Wp.istore_n 2 [(0, .inr (.inr 70)), (1, .inl x1), (2, .inl (bOr x2 (bShl 1 x3))), (3, .inl x3)] d_M_readChute_42 rfl (by decide) rfl ?_
      obtain ⟨s102, H103⟩ := H99
      refine Wp.iinc 3 3 [(0, .inr (.inr 70)), (1, .inl x1), (2, .inl (bOr x2 (bShl 1 x3))), (3, .inl (x3 + 1))] d_M_readChute_43 rfl s102 (by decide) rfl ?_
      refine Wp.goto 12 d_M_readChute_46 (by decide) ?_
      exact H103
