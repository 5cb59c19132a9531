theorem d_Group_learn_0 : decode Y_Group_learn.2.1 0 = .ok (.aload_n 0, 1) := by decide +kernel
theorem d_Group_learn_1 : decode Y_Group_learn.2.1 1 = .ok (.iconst 1, 1) := by decide +kernel
theorem d_Group_learn_2 : decode Y_Group_learn.2.1 2 = .ok (.aload_n 1, 1) := by decide +kernel
theorem d_Group_learn_3 : decode Y_Group_learn.2.1 3 = .ok (.getfield 32, 3) := by decide +kernel
theorem d_Group_learn_6 : decode Y_Group_learn.2.1 6 = .ok (.ishl, 1) := by decide +kernel
theorem d_Group_learn_7 : decode Y_Group_learn.2.1 7 = .ok (.iconst 1, 1) := by decide +kernel
theorem d_Group_learn_8 : decode Y_Group_learn.2.1 8 = .ok (.isub, 1) := by decide +kernel
theorem d_Group_learn_9 : decode Y_Group_learn.2.1 9 = .ok (.putfield 38, 3) := by decide +kernel
theorem d_Group_learn_12 : decode Y_Group_learn.2.1 12 = .ok (.aload_n 0, 1) := by decide +kernel
theorem d_Group_learn_13 : decode Y_Group_learn.2.1 13 = .ok (.getfield 11, 3) := by decide +kernel
theorem d_Group_learn_16 : decode Y_Group_learn.2.1 16 = .ok (.iconst 0, 1) := by decide +kernel
theorem d_Group_learn_17 : decode Y_Group_learn.2.1 17 = .ok (.iconst 1, 1) := by decide +kernel
theorem d_Group_learn_18 : decode Y_Group_learn.2.1 18 = .ok (.iastore, 1) := by decide +kernel
theorem d_Group_learn_19 : decode Y_Group_learn.2.1 19 = .ok (.iconst 1, 1) := by decide +kernel
theorem d_Group_learn_20 : decode Y_Group_learn.2.1 20 = .ok (.istore_n 2, 1) := by decide +kernel
theorem d_Group_learn_21 : decode Y_Group_learn.2.1 21 = .ok (.iload_n 2, 1) := by decide +kernel
theorem d_Group_learn_22 : decode Y_Group_learn.2.1 22 = .ok (.aload_n 0, 1) := by decide +kernel
theorem d_Group_learn_23 : decode Y_Group_learn.2.1 23 = .ok (.getfield 38, 3) := by decide +kernel
theorem d_Group_learn_26 : decode Y_Group_learn.2.1 26 = .ok (.if_icmp .gt 54, 3) := by decide +kernel
theorem d_Group_learn_29 : decode Y_Group_learn.2.1 29 = .ok (.iconst 1, 1) := by decide +kernel
theorem d_Group_learn_30 : decode Y_Group_learn.2.1 30 = .ok (.istore_n 3, 1) := by decide +kernel
theorem d_Group_learn_31 : decode Y_Group_learn.2.1 31 = .ok (.iload_n 3, 1) := by decide +kernel
theorem d_Group_learn_32 : decode Y_Group_learn.2.1 32 = .ok (.aload_n 0, 1) := by decide +kernel
theorem d_Group_learn_33 : decode Y_Group_learn.2.1 33 = .ok (.getfield 38, 3) := by decide +kernel
theorem d_Group_learn_36 : decode Y_Group_learn.2.1 36 = .ok (.if_icmp .gt 38, 3) := by decide +kernel
theorem d_Group_learn_39 : decode Y_Group_learn.2.1 39 = .ok (.iload_n 2, 1) := by decide +kernel
theorem d_Group_learn_40 : decode Y_Group_learn.2.1 40 = .ok (.invokestatic 41, 3) := by decide +kernel
theorem d_Group_learn_43 : decode Y_Group_learn.2.1 43 = .ok (.iload_n 3, 1) := by decide +kernel
theorem d_Group_learn_44 : decode Y_Group_learn.2.1 44 = .ok (.invokestatic 41, 3) := by decide +kernel
theorem d_Group_learn_47 : decode Y_Group_learn.2.1 47 = .ok (.if_icmp .ne 21, 3) := by decide +kernel
theorem d_Group_learn_50 : decode Y_Group_learn.2.1 50 = .ok (.aload_n 0, 1) := by decide +kernel
theorem d_Group_learn_51 : decode Y_Group_learn.2.1 51 = .ok (.getfield 11, 3) := by decide +kernel
theorem d_Group_learn_54 : decode Y_Group_learn.2.1 54 = .ok (.iload_n 2, 1) := by decide +kernel
theorem d_Group_learn_55 : decode Y_Group_learn.2.1 55 = .ok (.bipush 32, 2) := by decide +kernel
theorem d_Group_learn_57 : decode Y_Group_learn.2.1 57 = .ok (.imul, 1) := by decide +kernel
theorem d_Group_learn_58 : decode Y_Group_learn.2.1 58 = .ok (.iload_n 3, 1) := by decide +kernel
theorem d_Group_learn_59 : decode Y_Group_learn.2.1 59 = .ok (.iadd, 1) := by decide +kernel
theorem d_Group_learn_60 : decode Y_Group_learn.2.1 60 = .ok (.aload_n 0, 1) := by decide +kernel
theorem d_Group_learn_61 : decode Y_Group_learn.2.1 61 = .ok (.aload_n 1, 1) := by decide +kernel
theorem d_Group_learn_62 : decode Y_Group_learn.2.1 62 = .ok (.iload_n 2, 1) := by decide +kernel
theorem d_Group_learn_63 : decode Y_Group_learn.2.1 63 = .ok (.iload_n 3, 1) := by decide +kernel
theorem d_Group_learn_64 : decode Y_Group_learn.2.1 64 = .ok (.invokevirtual 47, 3) := by decide +kernel
theorem d_Group_learn_67 : decode Y_Group_learn.2.1 67 = .ok (.iastore, 1) := by decide +kernel
theorem d_Group_learn_68 : decode Y_Group_learn.2.1 68 = .ok (.iinc 3 1, 3) := by decide +kernel
theorem d_Group_learn_71 : decode Y_Group_learn.2.1 71 = .ok (.goto (-40), 3) := by decide +kernel
theorem d_Group_learn_74 : decode Y_Group_learn.2.1 74 = .ok (.iinc 2 1, 3) := by decide +kernel
theorem d_Group_learn_77 : decode Y_Group_learn.2.1 77 = .ok (.goto (-56), 3) := by decide +kernel
theorem d_Group_learn_80 : decode Y_Group_learn.2.1 80 = .ok (.aload_n 0, 1) := by decide +kernel
theorem d_Group_learn_81 : decode Y_Group_learn.2.1 81 = .ok (.aload_n 0, 1) := by decide +kernel
theorem d_Group_learn_82 : decode Y_Group_learn.2.1 82 = .ok (.getfield 11, 3) := by decide +kernel
theorem d_Group_learn_85 : decode Y_Group_learn.2.1 85 = .ok (.aload_n 0, 1) := by decide +kernel
theorem d_Group_learn_86 : decode Y_Group_learn.2.1 86 = .ok (.getfield 38, 3) := by decide +kernel
theorem d_Group_learn_89 : decode Y_Group_learn.2.1 89 = .ok (.bipush 32, 2) := by decide +kernel
theorem d_Group_learn_91 : decode Y_Group_learn.2.1 91 = .ok (.imul, 1) := by decide +kernel
theorem d_Group_learn_92 : decode Y_Group_learn.2.1 92 = .ok (.aload_n 0, 1) := by decide +kernel
theorem d_Group_learn_93 : decode Y_Group_learn.2.1 93 = .ok (.getfield 38, 3) := by decide +kernel
theorem d_Group_learn_96 : decode Y_Group_learn.2.1 96 = .ok (.iadd, 1) := by decide +kernel
theorem d_Group_learn_97 : decode Y_Group_learn.2.1 97 = .ok (.iaload, 1) := by decide +kernel
theorem d_Group_learn_98 : decode Y_Group_learn.2.1 98 = .ok (.i2l, 1) := by decide +kernel
theorem d_Group_learn_99 : decode Y_Group_learn.2.1 99 = .ok (.putfield 28, 3) := by decide +kernel
theorem d_Group_learn_102 : decode Y_Group_learn.2.1 102 = .ok (.aload_n 0, 1) := by decide +kernel
theorem d_Group_learn_103 : decode Y_Group_learn.2.1 103 = .ok (.aload_n 1, 1) := by decide +kernel
theorem d_Group_learn_104 : decode Y_Group_learn.2.1 104 = .ok (.getfield 32, 3) := by decide +kernel
theorem d_Group_learn_107 : decode Y_Group_learn.2.1 107 = .ok (.invokevirtual 51, 3) := by decide +kernel
theorem d_Group_learn_110 : decode Y_Group_learn.2.1 110 = .ok (.aload_n 0, 1) := by decide +kernel
theorem d_Group_learn_111 : decode Y_Group_learn.2.1 111 = .ok (.aload_n 1, 1) := by decide +kernel
theorem d_Group_learn_112 : decode Y_Group_learn.2.1 112 = .ok (.invokevirtual 55, 3) := by decide +kernel
theorem d_Group_learn_115 : decode Y_Group_learn.2.1 115 = .ok (.return_, 1) := by decide +kernel
theorem e_Group_learn {l : Launch} {G : GT} {d : Nat} {P : MM → Prop} {m : MM} (b1_ : Nat) (hB1_ : isB b1_) (H : wfM m → (inR ((bShl 1 (m b1_ 0)) - 1)) ∧ (∀ m3, m3 = up m 38 1 ((bShl 1 (m b1_ 0)) - 1) → (∀ m6, m6 = up m3 39 0 1 → (Wq l G false Y_Group_learn d (QV P) 21 [(0, .inr (.inr 38)), (1, .inr (.inr b1_)), (2, .inl 1)] [] m6)))) : CV l G Y_Group_learn d [.inr (.inr 38), .inr (.inr b1_)] m P := by
  refine CV.of [(0, .inr (.inr 38)), (1, .inr (.inr b1_))] k_Group_learn.1 (Nat.le_of_ble_eq_true rfl) rfl (Wp.wf (fun hw _ hl hs => ?_))
  have H0 := H hw
  refine Wp.aload_n 0 0 d_Group_learn_0 rfl rfl ?_
  refine Wp.iconst d_Group_learn_1 (by decide) ?_
  refine Wp.aload_n 1 1 d_Group_learn_2 rfl rfl ?_
  refine Wq.getI 0 rfl d_Group_learn_3 fl_Group_32 (isB_lay hB1_) (Or.inl rfl) ?_
  refine Wp.ishl d_Group_learn_6 ?_
  refine Wp.iconst d_Group_learn_7 (by decide) ?_
  obtain ⟨s1, H2⟩ := H0
  refine Wp.isub d_Group_learn_8 s1 ?_
  refine Wq.putI 1 rfl d_Group_learn_9 fl_Group_38 (fun _ _ _ h => by cases h; rfl) rfl rfl rfl (fun m3 hm4 => ?_)
  have H5 := H2 m3 hm4
  refine Wp.aload_n 0 0 d_Group_learn_12 rfl rfl ?_
  refine Wp.getP 39 d_Group_learn_13 fl_Group_11 rfl rfl rfl ?_
  refine Wp.iconst d_Group_learn_16 (by decide) ?_
  refine Wp.iconst d_Group_learn_17 (by decide) ?_
  refine Wq.iast d_Group_learn_18 rfl (by decide) (by decide) (fun m6 hm7 => ?_)
  have H8 := H5 m6 hm7
  refine Wp.iconst d_Group_learn_19 (by decide) ?_
  refine Wp.istore_n 2 [(0, .inr (.inr 38)), (1, .inr (.inr b1_)), (2, .inl 1)] d_Group_learn_20 rfl (by decide) rfl ?_
  exact H8
theorem s_Group_learn_21 {l : Launch} {G : GT} {d : Nat} {P : MM → Prop} {m : MM} (x2 : Int) (b1_ : Nat) (hB1_ : isB b1_) (H : wfM m → inR x2 → (x2 > (m 38 1) → ((inR ((m 38 1) * 32)) ∧ ((inR (((m 38 1) * 32) + (m 38 1))) ∧ ((0 ≤ (((m 38 1) * 32) + (m 38 1)) ∧ (((m 38 1) * 32) + (m 38 1)) < (1024 : Int)) ∧ (∀ m12, m12 = up m 38 6 (m 39 (((m 38 1) * 32) + (m 38 1))) → (∃ (e15 : Nat) (P16 : MM → Prop), e15 < d ∧ CV l G Y_Group_learnParts e15 [.inr (.inr 38), .inl (m12 b1_ 0)] m12 P16 ∧ (∀ m22, P16 m22 → wfM m22 → (∃ (e26 : Nat) (P27 : MM → Prop), e26 < d ∧ CV l G Y_Group_learnFiller e26 [.inr (.inr 38), .inr (.inr b1_)] m22 P27 ∧ (∀ m33, P27 m33 → wfM m33 → (P m33)))))))))) ∧ (¬ (x2 > (m 38 1)) → (Wq l G false Y_Group_learn d (QV P) 31 [(0, .inr (.inr 38)), (1, .inr (.inr b1_)), (2, .inl x2), (3, .inl 1)] [] m))) : Wq l G false Y_Group_learn d (QV P) 21 [(0, .inr (.inr 38)), (1, .inr (.inr b1_)), (2, .inl x2)] [] m := by
  refine Wp.wf (fun hw _ hl hs => ?_)
  have H0 := H hw (hl _ (List.mem_of_getElem? (i := 2) rfl))
  refine Wp.iload_n 2 2 d_Group_learn_21 rfl rfl ?_
  refine Wp.aload_n 0 0 d_Group_learn_22 rfl rfl ?_
  refine Wq.getI 1 rfl d_Group_learn_23 fl_Group_38 rfl (Or.inl rfl) ?_
  obtain ⟨H2, H3⟩ := H0
  refine Wp.icmp_gt 80 d_Group_learn_26 (by decide) (fun c1 => ?_) (fun c1 => ?_)
  · have H4 := H2 c1
    refine Wp.aload_n 0 0 d_Group_learn_80 rfl rfl ?_
    refine Wp.aload_n 0 0 d_Group_learn_81 rfl rfl ?_
    refine Wp.getP 39 d_Group_learn_82 fl_Group_11 rfl rfl rfl ?_
    refine Wp.aload_n 0 0 d_Group_learn_85 rfl rfl ?_
    refine Wq.getI 1 rfl d_Group_learn_86 fl_Group_38 rfl (Or.inl rfl) ?_
    refine Wp.bipush d_Group_learn_89 (by decide) (by decide) ?_
    obtain ⟨s6, H7⟩ := H4
    refine Wp.imul d_Group_learn_91 s6 ?_
    refine Wp.aload_n 0 0 d_Group_learn_92 rfl rfl ?_
    refine Wq.getI 1 rfl d_Group_learn_93 fl_Group_38 rfl (Or.inl rfl) ?_
    obtain ⟨s8, H9⟩ := H7
    refine Wp.iadd d_Group_learn_96 s8 ?_
    obtain ⟨s10, H11⟩ := H9
    refine Wp.iald d_Group_learn_97 rfl (Or.inl rfl) s10.1 s10.2 ?_
    refine Wp.i2l d_Group_learn_98 ?_
    refine Wq.putL 6 rfl d_Group_learn_99 fl_Group_28 (fun _ _ _ h => by cases h; rfl) rfl rfl rfl (fun m12 hm13 => ?_)
    have H14 := H11 m12 hm13
    refine Wp.aload_n 0 0 d_Group_learn_102 rfl rfl ?_
    refine Wp.aload_n 1 1 d_Group_learn_103 rfl rfl ?_
    refine Wq.getI 0 rfl d_Group_learn_104 fl_Group_32 (isB_lay hB1_) (Or.inl rfl) ?_
    obtain ⟨e15, P16, hd17, ho18, H19⟩ := H14
    refine Wq.VV (st := []) [.inl (m12 b1_ 0)] d_Group_learn_107 k_Group_learnParts ml_Group_51 rfl rfl rfl (fun h => by cases h) (Nat.le_of_ble_eq_true rfl) hd17 ho18 (fun m22 hp23 hw25 => ?_)
    have H20 := H19 m22 hp23 hw25
    refine Wp.aload_n 0 0 d_Group_learn_110 rfl rfl ?_
    refine Wp.aload_n 1 1 d_Group_learn_111 rfl rfl ?_
    obtain ⟨e26, P27, hd28, ho29, H30⟩ := H20
    refine Wq.VV (st := []) [.inr (.inr b1_)] d_Group_learn_112 k_Group_learnFiller ml_Group_55 rfl rfl rfl (fun h => by cases h) (Nat.le_of_ble_eq_true rfl) hd28 ho29 (fun m33 hp34 hw36 => ?_)
    have H31 := H30 m33 hp34 hw36
    exact Wq.vret d_Group_learn_115 rfl H31
  · have H5 := H3 c1
    refine Wp.iconst d_Group_learn_29 (by decide) ?_
    refine Wp.istore_n 3 [(0, .inr (.inr 38)), (1, .inr (.inr b1_)), (2, .inl x2), (3, .inl 1)] d_Group_learn_30 rfl (by decide) rfl ?_
    exact H5
theorem s_Group_learn_31 {l : Launch} {G : GT} {d : Nat} {P : MM → Prop} {m : MM} (x2 : Int) (x3 : Int) (b1_ : Nat) (hB1_ : isB b1_) (H : wfM m → inR x2 → inR x3 → (x3 > (m 38 1) → ((inR (x2 + 1)) ∧ (Wq l G false Y_Group_learn d (QV P) 21 [(0, .inr (.inr 38)), (1, .inr (.inr b1_)), (2, .inl (x2 + 1))] [] m))) ∧ (¬ (x3 > (m 38 1)) → (∃ (e8 : Nat) (P9 : Int → MM → Prop), e8 < d ∧ CI l G Y_Integer_bitCount e8 [.inl x2] m P9 ∧ (∀ z14 m15, P9 z14 m15 → inR z14 → wfM m15 → (∃ (e19 : Nat) (P20 : Int → MM → Prop), e19 < d ∧ CI l G Y_Integer_bitCount e19 [.inl x3] m15 P20 ∧ (∀ z25 m26, P20 z25 m26 → inR z25 → wfM m26 → ((z14 ≠ z25 → ((inR (x3 + 1)) ∧ (Wq l G false Y_Group_learn d (QV P) 31 [(0, .inr (.inr 38)), (1, .inr (.inr b1_)), (2, .inl x2), (3, .inl (x3 + 1))] [] m26))) ∧ (¬ (z14 ≠ z25) → ((inR (x2 * 32)) ∧ ((inR ((x2 * 32) + x3)) ∧ (∃ (e41 : Nat) (P42 : Int → MM → Prop), e41 < d ∧ CI l G Y_Group_expanded e41 [.inr (.inr 38), .inr (.inr b1_), .inl x2, .inl x3] m26 P42 ∧ (∀ z47 m48, P42 z47 m48 → inR z47 → wfM m48 → ((0 ≤ ((x2 * 32) + x3) ∧ ((x2 * 32) + x3) < (1024 : Int)) ∧ (∀ m52, m52 = up m48 39 ((x2 * 32) + x3) z47 → ((inR (x3 + 1)) ∧ (Wq l G false Y_Group_learn d (QV P) 31 [(0, .inr (.inr 38)), (1, .inr (.inr b1_)), (2, .inl x2), (3, .inl (x3 + 1))] [] m52)))))))))))))))) : Wq l G false Y_Group_learn d (QV P) 31 [(0, .inr (.inr 38)), (1, .inr (.inr b1_)), (2, .inl x2), (3, .inl x3)] [] m := by
  refine Wp.wf (fun hw _ hl hs => ?_)
  have H0 := H hw (hl _ (List.mem_of_getElem? (i := 2) rfl)) (hl _ (List.mem_of_getElem? (i := 3) rfl))
  refine Wp.iload_n 3 3 d_Group_learn_31 rfl rfl ?_
  refine Wp.aload_n 0 0 d_Group_learn_32 rfl rfl ?_
  refine Wq.getI 1 rfl d_Group_learn_33 fl_Group_38 rfl (Or.inl rfl) ?_
  obtain ⟨H2, H3⟩ := H0
  refine Wp.icmp_gt 74 d_Group_learn_36 (by decide) (fun c1 => ?_) (fun c1 => ?_)
  · have H4 := H2 c1
    obtain ⟨s6, H7⟩ := H4
    refine Wp.iinc 2 2 [(0, .inr (.inr 38)), (1, .inr (.inr b1_)), (2, .inl (x2 + 1)), (3, .inl x3)] d_Group_learn_74 rfl s6 (by decide) rfl ?_
    refine Wp.goto 21 d_Group_learn_77 (by decide) ?_
    refine Wp.pick [0, 1, 2] [(0, .inr (.inr 38)), (1, .inr (.inr b1_)), (2, .inl (x2 + 1))] rfl ?_
    exact H7
  · have H5 := H3 c1
    refine Wp.iload_n 2 2 d_Group_learn_39 rfl rfl ?_
    obtain ⟨e8, P9, hd10, ho11, H12⟩ := H5
    refine Wq.SI (st := []) [.inl x2] d_Group_learn_40 k_Integer_bitCount ml_Group_41 rfl  (fun h => by cases h) (Nat.le_of_ble_eq_true rfl) hd10 ho11 (fun z14 m15 hp16 hz17 hw18 => ?_)
    have H13 := H12 z14 m15 hp16 hz17 hw18
    refine Wp.iload_n 3 3 d_Group_learn_43 rfl rfl ?_
    obtain ⟨e19, P20, hd21, ho22, H23⟩ := H13
    refine Wq.SI (st := [.inl z14]) [.inl x3] d_Group_learn_44 k_Integer_bitCount ml_Group_41 rfl  (fun h => by cases h) (Nat.le_of_ble_eq_true rfl) hd21 ho22 (fun z25 m26 hp27 hz28 hw29 => ?_)
    have H24 := H23 z25 m26 hp27 hz28 hw29
    obtain ⟨H31, H32⟩ := H24
    refine Wp.icmp_ne 68 d_Group_learn_47 (by decide) (fun c30 => ?_) (fun c30 => ?_)
    · have H33 := H31 c30
      obtain ⟨s35, H36⟩ := H33
      refine Wp.iinc 3 3 [(0, .inr (.inr 38)), (1, .inr (.inr b1_)), (2, .inl x2), (3, .inl (x3 + 1))] d_Group_learn_68 rfl s35 (by decide) rfl ?_
      refine Wp.goto 31 d_Group_learn_71 (by decide) ?_
      exact H36
    · have H34 := H32 c30
      refine Wp.aload_n 0 0 d_Group_learn_50 rfl rfl ?_
      refine Wp.getP 39 d_Group_learn_51 fl_Group_11 rfl rfl rfl ?_
      refine Wp.iload_n 2 2 d_Group_learn_54 rfl rfl ?_
      refine Wp.bipush d_Group_learn_55 (by decide) (by decide) ?_
      obtain ⟨s37, H38⟩ := H34
      refine Wp.imul d_Group_learn_57 s37 ?_
      refine Wp.iload_n 3 3 d_Group_learn_58 rfl rfl ?_
      obtain ⟨s39, H40⟩ := H38
      refine Wp.iadd d_Group_learn_59 s39 ?_
      refine Wp.aload_n 0 0 d_Group_learn_60 rfl rfl ?_
      refine Wp.aload_n 1 1 d_Group_learn_61 rfl rfl ?_
      refine Wp.iload_n 2 2 d_Group_learn_62 rfl rfl ?_
      refine Wp.iload_n 3 3 d_Group_learn_63 rfl rfl ?_
      obtain ⟨e41, P42, hd43, ho44, H45⟩ := H40
      refine Wq.VI (st := [.inl ((x2 * 32) + x3), .inr (.inr 39)]) [.inr (.inr b1_), .inl x2, .inl x3] d_Group_learn_64 k_Group_expanded ml_Group_47 rfl rfl rfl (fun h => by cases h) (Nat.le_of_ble_eq_true rfl) hd43 ho44 (fun z47 m48 hp49 hz50 hw51 => ?_)
      have H46 := H45 z47 m48 hp49 hz50 hw51
      obtain ⟨s59, H60⟩ := H46
      refine Wq.iast d_Group_learn_67 rfl s59.1 s59.2 (fun m52 hm53 => ?_)
      have H54 := H60 m52 hm53
      obtain ⟨s57, H58⟩ := H54
      refine Wp.iinc 3 3 [(0, .inr (.inr 38)), (1, .inr (.inr b1_)), (2, .inl x2), (3, .inl (x3 + 1))] d_Group_learn_68 rfl s57 (by decide) rfl ?_
      refine Wp.goto 31 d_Group_learn_71 (by decide) ?_
      exact H58
theorem d_Group_expanded_0 : decode Y_Group_expanded.2.1 0 = .ok (.iload_n 2, 1) := by decide +kernel
theorem d_Group_expanded_1 : decode Y_Group_expanded.2.1 1 = .ok (.invokestatic 59, 3) := by decide +kernel
theorem d_Group_expanded_4 : decode Y_Group_expanded.2.1 4 = .ok (.istore 4, 2) := by decide +kernel
theorem d_Group_expanded_6 : decode Y_Group_expanded.2.1 6 = .ok (.iconst 1, 1) := by decide +kernel
theorem d_Group_expanded_7 : decode Y_Group_expanded.2.1 7 = .ok (.istore 5, 2) := by decide +kernel
theorem d_Group_expanded_9 : decode Y_Group_expanded.2.1 9 = .ok (.iconst 0, 1) := by decide +kernel
theorem d_Group_expanded_10 : decode Y_Group_expanded.2.1 10 = .ok (.istore 6, 2) := by decide +kernel
theorem d_Group_expanded_12 : decode Y_Group_expanded.2.1 12 = .ok (.iconst 0, 1) := by decide +kernel
theorem d_Group_expanded_13 : decode Y_Group_expanded.2.1 13 = .ok (.istore 7, 2) := by decide +kernel
theorem d_Group_expanded_15 : decode Y_Group_expanded.2.1 15 = .ok (.iload 7, 2) := by decide +kernel
theorem d_Group_expanded_17 : decode Y_Group_expanded.2.1 17 = .ok (.iconst 5, 1) := by decide +kernel
theorem d_Group_expanded_18 : decode Y_Group_expanded.2.1 18 = .ok (.if_icmp .ge 87, 3) := by decide +kernel
theorem d_Group_expanded_21 : decode Y_Group_expanded.2.1 21 = .ok (.iload_n 3, 1) := by decide +kernel
theorem d_Group_expanded_22 : decode Y_Group_expanded.2.1 22 = .ok (.iload 7, 2) := by decide +kernel
theorem d_Group_expanded_24 : decode Y_Group_expanded.2.1 24 = .ok (.ishr, 1) := by decide +kernel
theorem d_Group_expanded_25 : decode Y_Group_expanded.2.1 25 = .ok (.iconst 1, 1) := by decide +kernel
theorem d_Group_expanded_26 : decode Y_Group_expanded.2.1 26 = .ok (.iand, 1) := by decide +kernel
theorem d_Group_expanded_27 : decode Y_Group_expanded.2.1 27 = .ok (.ifCond .eq 72, 3) := by decide +kernel
theorem d_Group_expanded_30 : decode Y_Group_expanded.2.1 30 = .ok (.iload 7, 2) := by decide +kernel
theorem d_Group_expanded_32 : decode Y_Group_expanded.2.1 32 = .ok (.iload 4, 2) := by decide +kernel
theorem d_Group_expanded_34 : decode Y_Group_expanded.2.1 34 = .ok (.if_icmp .ne 13, 3) := by decide +kernel
theorem d_Group_expanded_37 : decode Y_Group_expanded.2.1 37 = .ok (.aload_n 1, 1) := by decide +kernel
theorem d_Group_expanded_38 : decode Y_Group_expanded.2.1 38 = .ok (.getfield 62, 3) := by decide +kernel
theorem d_Group_expanded_41 : decode Y_Group_expanded.2.1 41 = .ok (.iload 7, 2) := by decide +kernel
theorem d_Group_expanded_43 : decode Y_Group_expanded.2.1 43 = .ok (.iaload, 1) := by decide +kernel
theorem d_Group_expanded_44 : decode Y_Group_expanded.2.1 44 = .ok (.goto 12, 3) := by decide +kernel
theorem d_Group_expanded_47 : decode Y_Group_expanded.2.1 47 = .ok (.aload_n 1, 1) := by decide +kernel
theorem d_Group_expanded_48 : decode Y_Group_expanded.2.1 48 = .ok (.iload 4, 2) := by decide +kernel
theorem d_Group_expanded_50 : decode Y_Group_expanded.2.1 50 = .ok (.iload 7, 2) := by decide +kernel
theorem d_Group_expanded_52 : decode Y_Group_expanded.2.1 52 = .ok (.invokevirtual 65, 3) := by decide +kernel
theorem d_Group_expanded_55 : decode Y_Group_expanded.2.1 55 = .ok (.ineg, 1) := by decide +kernel
theorem d_Group_expanded_56 : decode Y_Group_expanded.2.1 56 = .ok (.istore 8, 2) := by decide +kernel
theorem d_Group_expanded_58 : decode Y_Group_expanded.2.1 58 = .ok (.iload 6, 2) := by decide +kernel
theorem d_Group_expanded_60 : decode Y_Group_expanded.2.1 60 = .ok (.iload 5, 2) := by decide +kernel
theorem d_Group_expanded_62 : decode Y_Group_expanded.2.1 62 = .ok (.iload 8, 2) := by decide +kernel
theorem d_Group_expanded_64 : decode Y_Group_expanded.2.1 64 = .ok (.imul, 1) := by decide +kernel
theorem d_Group_expanded_65 : decode Y_Group_expanded.2.1 65 = .ok (.aload_n 0, 1) := by decide +kernel
theorem d_Group_expanded_66 : decode Y_Group_expanded.2.1 66 = .ok (.getfield 11, 3) := by decide +kernel
theorem d_Group_expanded_69 : decode Y_Group_expanded.2.1 69 = .ok (.iload_n 2, 1) := by decide +kernel
theorem d_Group_expanded_70 : decode Y_Group_expanded.2.1 70 = .ok (.iconst 1, 1) := by decide +kernel
theorem d_Group_expanded_71 : decode Y_Group_expanded.2.1 71 = .ok (.iload 4, 2) := by decide +kernel
theorem d_Group_expanded_73 : decode Y_Group_expanded.2.1 73 = .ok (.ishl, 1) := by decide +kernel
theorem d_Group_expanded_74 : decode Y_Group_expanded.2.1 74 = .ok (.iconst (-1), 1) := by decide +kernel
theorem d_Group_expanded_75 : decode Y_Group_expanded.2.1 75 = .ok (.ixor, 1) := by decide +kernel
theorem d_Group_expanded_76 : decode Y_Group_expanded.2.1 76 = .ok (.iand, 1) := by decide +kernel
theorem d_Group_expanded_77 : decode Y_Group_expanded.2.1 77 = .ok (.bipush 32, 2) := by decide +kernel
theorem d_Group_expanded_79 : decode Y_Group_expanded.2.1 79 = .ok (.imul, 1) := by decide +kernel
theorem d_Group_expanded_80 : decode Y_Group_expanded.2.1 80 = .ok (.iload_n 3, 1) := by decide +kernel
theorem d_Group_expanded_81 : decode Y_Group_expanded.2.1 81 = .ok (.iconst 1, 1) := by decide +kernel
theorem d_Group_expanded_82 : decode Y_Group_expanded.2.1 82 = .ok (.iload 7, 2) := by decide +kernel
theorem d_Group_expanded_84 : decode Y_Group_expanded.2.1 84 = .ok (.ishl, 1) := by decide +kernel
theorem d_Group_expanded_85 : decode Y_Group_expanded.2.1 85 = .ok (.iconst (-1), 1) := by decide +kernel
theorem d_Group_expanded_86 : decode Y_Group_expanded.2.1 86 = .ok (.ixor, 1) := by decide +kernel
theorem d_Group_expanded_87 : decode Y_Group_expanded.2.1 87 = .ok (.iand, 1) := by decide +kernel
theorem d_Group_expanded_88 : decode Y_Group_expanded.2.1 88 = .ok (.iadd, 1) := by decide +kernel
theorem d_Group_expanded_89 : decode Y_Group_expanded.2.1 89 = .ok (.iaload, 1) := by decide +kernel
theorem d_Group_expanded_90 : decode Y_Group_expanded.2.1 90 = .ok (.imul, 1) := by decide +kernel
theorem d_Group_expanded_91 : decode Y_Group_expanded.2.1 91 = .ok (.iadd, 1) := by decide +kernel
theorem d_Group_expanded_92 : decode Y_Group_expanded.2.1 92 = .ok (.istore 6, 2) := by decide +kernel
theorem d_Group_expanded_94 : decode Y_Group_expanded.2.1 94 = .ok (.iload 5, 2) := by decide +kernel
theorem d_Group_expanded_96 : decode Y_Group_expanded.2.1 96 = .ok (.ineg, 1) := by decide +kernel
theorem d_Group_expanded_97 : decode Y_Group_expanded.2.1 97 = .ok (.istore 5, 2) := by decide +kernel
theorem d_Group_expanded_99 : decode Y_Group_expanded.2.1 99 = .ok (.iinc 7 1, 3) := by decide +kernel
theorem d_Group_expanded_102 : decode Y_Group_expanded.2.1 102 = .ok (.goto (-87), 3) := by decide +kernel
theorem d_Group_expanded_105 : decode Y_Group_expanded.2.1 105 = .ok (.iload 6, 2) := by decide +kernel
theorem d_Group_expanded_107 : decode Y_Group_expanded.2.1 107 = .ok (.ireturn, 1) := by decide +kernel
theorem e_Group_expanded {l : Launch} {G : GT} {d : Nat} {P : Int → MM → Prop} {m : MM} (x2 : Int) (x3 : Int) (b1_ : Nat) (hB1_ : isB b1_) (H : wfM m → inR x2 → inR x3 → ∃ (e1 : Nat) (P2 : Int → MM → Prop), e1 < d ∧ CI l G Y_Integer_numberOfTrailingZeros e1 [.inl x2] m P2 ∧ (∀ z7 m8, P2 z7 m8 → inR z7 → wfM m8 → (Wq l G false Y_Group_expanded d (QI P) 15 [(0, .inr (.inr 38)), (1, .inr (.inr b1_)), (2, .inl x2), (3, .inl x3), (4, .inl z7), (5, .inl 1), (6, .inl 0), (7, .inl 0)] [] m8))) : CI l G Y_Group_expanded d [.inr (.inr 38), .inr (.inr b1_), .inl x2, .inl x3] m P := by
  refine CI.of [(0, .inr (.inr 38)), (1, .inr (.inr b1_)), (2, .inl x2), (3, .inl x3)] k_Group_expanded.1 (Nat.le_of_ble_eq_true rfl) rfl (Wp.wf (fun hw _ hl hs => ?_))
  have H0 := H hw (hl _ (List.mem_of_getElem? (i := 2) rfl)) (hl _ (List.mem_of_getElem? (i := 3) rfl))
  refine Wp.iload_n 2 2 d_Group_expanded_0 rfl rfl ?_
  obtain ⟨e1, P2, hd3, ho4, H5⟩ := H0
  refine Wq.SI (st := []) [.inl x2] d_Group_expanded_1 k_Integer_numberOfTrailingZeros ml_Group_59 rfl  (fun h => by cases h) (Nat.le_of_ble_eq_true rfl) hd3 ho4 (fun z7 m8 hp9 hz10 hw11 => ?_)
  have H6 := H5 z7 m8 hp9 hz10 hw11
  refine Wp.istore 4 [(0, .inr (.inr 38)), (1, .inr (.inr b1_)), (2, .inl x2), (3, .inl x3), (4, .inl z7)] d_Group_expanded_4 (by decide) rfl ?_
  refine Wp.iconst d_Group_expanded_6 (by decide) ?_
  refine Wp.istore 5 [(0, .inr (.inr 38)), (1, .inr (.inr b1_)), (2, .inl x2), (3, .inl x3), (4, .inl z7), (5, .inl 1)] d_Group_expanded_7 (by decide) rfl ?_
  refine Wp.iconst d_Group_expanded_9 (by decide) ?_
  refine Wp.istore 6 [(0, .inr (.inr 38)), (1, .inr (.inr b1_)), (2, .inl x2), (3, .inl x3), (4, .inl z7), (5, .inl 1), (6, .inl 0)] d_Group_expanded_10 (by decide) rfl ?_
  refine Wp.iconst d_Group_expanded_12 (by decide) ?_
  refine Wp.istore 7 [(0, .inr (.inr 38)), (1, .inr (.inr b1_)), (2, .inl x2), (3, .inl x3), (4, .inl z7), (5, .inl 1), (6, .inl 0), (7, .inl 0)] d_Group_expanded_13 (by decide) rfl ?_
  exact H6
theorem s_Group_expanded_15 {l : Launch} {G : GT} {d : Nat} {P : Int → MM → Prop} {m : MM} (x2 : Int) (x3 : Int) (x4 : Int) (x5 : Int) (x6 : Int) (x7 : Int) (b1_ : Nat) (hB1_ : isB b1_) (H : wfM m → inR x2 → inR x3 → inR x4 → inR x5 → inR x6 → inR x7 → (x7 ≥ 5 → (P x6 m)) ∧ (¬ (x7 ≥ 5) → (((bAnd (bShr x3 x7) 1) = 0 → ((inR (x7 + 1)) ∧ (Wq l G false Y_Group_expanded d (QI P) 15 [(0, .inr (.inr 38)), (1, .inr (.inr b1_)), (2, .inl x2), (3, .inl x3), (4, .inl x4), (5, .inl x5), (6, .inl x6), (7, .inl (x7 + 1))] [] m))) ∧ (¬ ((bAnd (bShr x3 x7) 1) = 0) → ((x7 ≠ x4 → (∃ (e18 : Nat) (P19 : Int → MM → Prop), e18 < d ∧ CI l G Y_Board_width e18 [.inr (.inr b1_), .inl x4, .inl x7] m P19 ∧ (∀ z24 m25, P19 z24 m25 → inR z24 → wfM m25 → ((inR (-z24)) ∧ (Wq l G false Y_Group_expanded d (QI P) 56 [(0, .inr (.inr 38)), (1, .inr (.inr b1_)), (2, .inl x2), (3, .inl x3), (4, .inl x4), (5, .inl x5), (6, .inl x6), (7, .inl x7)] [.inl (-z24)] m25))))) ∧ (¬ (x7 ≠ x4) → ((0 ≤ x7 ∧ x7 < (5 : Int)) ∧ (Wq l G false Y_Group_expanded d (QI P) 56 [(0, .inr (.inr 38)), (1, .inr (.inr b1_)), (2, .inl x2), (3, .inl x3), (4, .inl x4), (5, .inl x5), (6, .inl x6), (7, .inl x7)] [.inl (m (b1_ + 4) x7)] m)))))))) : Wq l G false Y_Group_expanded d (QI P) 15 [(0, .inr (.inr 38)), (1, .inr (.inr b1_)), (2, .inl x2), (3, .inl x3), (4, .inl x4), (5, .inl x5), (6, .inl x6), (7, .inl x7)] [] m := by
  refine Wp.wf (fun hw _ hl hs => ?_)
  have H0 := H hw (hl _ (List.mem_of_getElem? (i := 2) rfl)) (hl _ (List.mem_of_getElem? (i := 3) rfl)) (hl _ (List.mem_of_getElem? (i := 4) rfl)) (hl _ (List.mem_of_getElem? (i := 5) rfl)) (hl _ (List.mem_of_getElem? (i := 6) rfl)) (hl _ (List.mem_of_getElem? (i := 7) rfl))
  refine Wp.iload 7 7 d_Group_expanded_15 rfl ?_
  refine Wp.iconst d_Group_expanded_17 (by decide) ?_
  obtain ⟨H2, H3⟩ := H0
  refine Wp.icmp_ge 105 d_Group_expanded_18 (by decide) (fun c1 => ?_) (fun c1 => ?_)
  · have H4 := H2 c1
    refine Wp.iload 6 6 d_Group_expanded_105 rfl ?_
    exact Wq.iret d_Group_expanded_107 rfl H4
  · have H5 := H3 c1
    refine Wp.iload_n 3 3 d_Group_expanded_21 rfl rfl ?_
    refine Wp.iload 7 7 d_Group_expanded_22 rfl ?_
    refine Wp.ishr d_Group_expanded_24 ?_
    refine Wp.iconst d_Group_expanded_25 (by decide) ?_
    refine Wp.iand d_Group_expanded_26 ?_
    obtain ⟨H7, H8⟩ := H5
    refine Wp.if_eq 99 d_Group_expanded_27 (by decide) (fun c6 => ?_) (fun c6 => ?_)
    · have H9 := H7 c6
      obtain ⟨s11, H12⟩ := H9
      refine Wp.iinc 7 7 [(0, .inr (.inr 38)), (1, .inr (.inr b1_)), (2, .inl x2), (3, .inl x3), (4, .inl x4), (5, .inl x5), (6, .inl x6), (7, .inl (x7 + 1))] d_Group_expanded_99 rfl s11 (by decide) rfl ?_
      refine Wp.goto 15 d_Group_expanded_102 (by decide) ?_
      exact H12
    · have H10 := H8 c6
      refine Wp.iload 7 7 d_Group_expanded_30 rfl ?_
      refine Wp.iload 4 4 d_Group_expanded_32 rfl ?_
      obtain ⟨H14, H15⟩ := H10
      refine Wp.icmp_ne 47 d_Group_expanded_34 (by decide) (fun c13 => ?_) (fun c13 => ?_)
      · have H16 := H14 c13
        refine Wp.aload_n 1 1 d_Group_expanded_47 rfl rfl ?_
        refine Wp.iload 4 4 d_Group_expanded_48 rfl ?_
        refine Wp.iload 7 7 d_Group_expanded_50 rfl ?_
        obtain ⟨e18, P19, hd20, ho21, H22⟩ := H16
        refine Wq.VI (st := []) [.inl x4, .inl x7] d_Group_expanded_52 k_Board_width ml_Group_65 rfl (isB_lay hB1_) rfl (fun h => by cases h) (Nat.le_of_ble_eq_true rfl) hd20 ho21 (fun z24 m25 hp26 hz27 hw28 => ?_)
        have H23 := H22 z24 m25 hp26 hz27 hw28
        obtain ⟨s29, H30⟩ := H23
        refine Wp.ineg d_Group_expanded_55 s29 ?_
        exact H30
      · have H17 := H15 c13
        refine Wp.aload_n 1 1 d_Group_expanded_37 rfl rfl ?_
        refine Wp.getP (b1_ + 4) d_Group_expanded_38 fl_Group_62 (isB_lay hB1_) rfl (isB_p8 hB1_) ?_
        refine Wp.iload 7 7 d_Group_expanded_41 rfl ?_
        obtain ⟨s31, H32⟩ := H17
        refine Wp.iald d_Group_expanded_43 (isB_l8 hB1_) (Or.inl rfl) s31.1 s31.2 ?_
        refine Wp.goto 56 d_Group_expanded_44 (by decide) ?_
        exact H32
theorem s_Group_expanded_56 {l : Launch} {G : GT} {d : Nat} {P : Int → MM → Prop} {m : MM} (x2 : Int) (x3 : Int) (x4 : Int) (x5 : Int) (x6 : Int) (x7 : Int) (y0 : Int) (b1_ : Nat) (hB1_ : isB b1_) (H : wfM m → inR x2 → inR x3 → inR x4 → inR x5 → inR x6 → inR x7 → inR y0 → (inR (x5 * y0)) ∧ ((inR ((bAnd x2 (bXor (bShl 1 x4) (-1))) * 32)) ∧ ((inR (((bAnd x2 (bXor (bShl 1 x4) (-1))) * 32) + (bAnd x3 (bXor (bShl 1 x7) (-1))))) ∧ ((0 ≤ (((bAnd x2 (bXor (bShl 1 x4) (-1))) * 32) + (bAnd x3 (bXor (bShl 1 x7) (-1)))) ∧ (((bAnd x2 (bXor (bShl 1 x4) (-1))) * 32) + (bAnd x3 (bXor (bShl 1 x7) (-1)))) < (1024 : Int)) ∧ ((inR ((x5 * y0) * (m 39 (((bAnd x2 (bXor (bShl 1 x4) (-1))) * 32) + (bAnd x3 (bXor (bShl 1 x7) (-1))))))) ∧ ((inR (x6 + ((x5 * y0) * (m 39 (((bAnd x2 (bXor (bShl 1 x4) (-1))) * 32) + (bAnd x3 (bXor (bShl 1 x7) (-1)))))))) ∧ ((inR (-x5)) ∧ ((inR (x7 + 1)) ∧ (Wq l G false Y_Group_expanded d (QI P) 15 [(0, .inr (.inr 38)), (1, .inr (.inr b1_)), (2, .inl x2), (3, .inl x3), (4, .inl x4), (5, .inl (-x5)), (6, .inl (x6 + ((x5 * y0) * (m 39 (((bAnd x2 (bXor (bShl 1 x4) (-1))) * 32) + (bAnd x3 (bXor (bShl 1 x7) (-1)))))))), (7, .inl (x7 + 1))] [] m))))))))) : Wq l G false Y_Group_expanded d (QI P) 56 [(0, .inr (.inr 38)), (1, .inr (.inr b1_)), (2, .inl x2), (3, .inl x3), (4, .inl x4), (5, .inl x5), (6, .inl x6), (7, .inl x7)] [.inl y0] m := by
  refine Wp.wf (fun hw _ hl hs => ?_)
  have H0 := H hw (hl _ (List.mem_of_getElem? (i := 2) rfl)) (hl _ (List.mem_of_getElem? (i := 3) rfl)) (hl _ (List.mem_of_getElem? (i := 4) rfl)) (hl _ (List.mem_of_getElem? (i := 5) rfl)) (hl _ (List.mem_of_getElem? (i := 6) rfl)) (hl _ (List.mem_of_getElem? (i := 7) rfl)) (hs _ (List.mem_of_getElem? (i := 0) rfl))
  refine Wp.istore 8 [(0, .inr (.inr 38)), (1, .inr (.inr b1_)), (2, .inl x2), (3, .inl x3), (4, .inl x4), (5, .inl x5), (6, .inl x6), (7, .inl x7), (8, .inl y0)] d_Group_expanded_56 (by decide) rfl ?_
  refine Wp.iload 6 6 d_Group_expanded_58 rfl ?_
  refine Wp.iload 5 5 d_Group_expanded_60 rfl ?_
  refine Wp.iload 8 8 d_Group_expanded_62 rfl ?_
  obtain ⟨s1, H2⟩ := H0
  refine Wp.imul d_Group_expanded_64 s1 ?_
  refine Wp.aload_n 0 0 d_Group_expanded_65 rfl rfl ?_
  refine Wp.getP 39 d_Group_expanded_66 fl_Group_11 rfl rfl rfl ?_
  refine Wp.iload_n 2 2 d_Group_expanded_69 rfl rfl ?_
  refine Wp.iconst d_Group_expanded_70 (by decide) ?_
  refine Wp.iload 4 4 d_Group_expanded_71 rfl ?_
  refine Wp.ishl d_Group_expanded_73 ?_
  refine Wp.iconst d_Group_expanded_74 (by decide) ?_
  refine Wp.ixor d_Group_expanded_75 ?_
  refine Wp.iand d_Group_expanded_76 ?_
  refine Wp.bipush d_Group_expanded_77 (by decide) (by decide) ?_
  obtain ⟨s3, H4⟩ := H2
  refine Wp.imul d_Group_expanded_79 s3 ?_
  refine Wp.iload_n 3 3 d_Group_expanded_80 rfl rfl ?_
  refine Wp.iconst d_Group_expanded_81 (by decide) ?_
  refine Wp.iload 7 7 d_Group_expanded_82 rfl ?_
  refine Wp.ishl d_Group_expanded_84 ?_
  refine Wp.iconst d_Group_expanded_85 (by decide) ?_
  refine Wp.ixor d_Group_expanded_86 ?_
  refine Wp.iand d_Group_expanded_87 ?_
  obtain ⟨s5, H6⟩ := H4
  refine Wp.iadd d_Group_expanded_88 s5 ?_
  obtain ⟨s7, H8⟩ := H6
  refine Wp.iald d_Group_expanded_89 rfl (Or.inl rfl) s7.1 s7.2 ?_
  obtain ⟨s9, H10⟩ := H8
  refine Wp.imul d_Group_expanded_90 s9 ?_
  obtain ⟨s11, H12⟩ := H10
  refine Wp.iadd d_Group_expanded_91 s11 ?_
  refine Wp.istore 6 [(0, .inr (.inr 38)), (1, .inr (.inr b1_)), (2, .inl x2), (3, .inl x3), (4, .inl x4), (5, .inl x5), (6, .inl (x6 + ((x5 * y0) * (m 39 (((bAnd x2 (bXor (bShl 1 x4) (-1))) * 32) + (bAnd x3 (bXor (bShl 1 x7) (-1)))))))), (7, .inl x7), (8, .inl y0)] d_Group_expanded_92 (by decide) rfl ?_
  refine Wp.iload 5 5 d_Group_expanded_94 rfl ?_
  obtain ⟨s13, H14⟩ := H12
  refine Wp.ineg d_Group_expanded_96 s13 ?_
  refine Wp.istore 5 [(0, .inr (.inr 38)), (1, .inr (.inr b1_)), (2, .inl x2), (3, .inl x3), (4, .inl x4), (5, .inl (-x5)), (6, .inl (x6 + ((x5 * y0) * (m 39 (((bAnd x2 (bXor (bShl 1 x4) (-1))) * 32) + (bAnd x3 (bXor (bShl 1 x7) (-1)))))))), (7, .inl x7), (8, .inl y0)] d_Group_expanded_97 (by decide) rfl ?_
  obtain ⟨s15, H16⟩ := H14
  refine Wp.iinc 7 7 [(0, .inr (.inr 38)), (1, .inr (.inr b1_)), (2, .inl x2), (3, .inl x3), (4, .inl x4), (5, .inl (-x5)), (6, .inl (x6 + ((x5 * y0) * (m 39 (((bAnd x2 (bXor (bShl 1 x4) (-1))) * 32) + (bAnd x3 (bXor (bShl 1 x7) (-1)))))))), (7, .inl (x7 + 1)), (8, .inl y0)] d_Group_expanded_99 rfl s15 (by decide) rfl ?_
  refine Wp.goto 15 d_Group_expanded_102 (by decide) ?_
  refine Wp.pick [0, 1, 2, 3, 4, 5, 6, 7] [(0, .inr (.inr 38)), (1, .inr (.inr b1_)), (2, .inl x2), (3, .inl x3), (4, .inl x4), (5, .inl (-x5)), (6, .inl (x6 + ((x5 * y0) * (m 39 (((bAnd x2 (bXor (bShl 1 x4) (-1))) * 32) + (bAnd x3 (bXor (bShl 1 x7) (-1)))))))), (7, .inl (x7 + 1))] rfl ?_
  exact H16
theorem d_Group_learnParts_0 : decode Y_Group_learnParts.2.1 0 = .ok (.aload_n 0, 1) := by decide +kernel
theorem d_Group_learnParts_1 : decode Y_Group_learnParts.2.1 1 = .ok (.iconst 0, 1) := by decide +kernel
theorem d_Group_learnParts_2 : decode Y_Group_learnParts.2.1 2 = .ok (.putfield 69, 3) := by decide +kernel
theorem d_Group_learnParts_5 : decode Y_Group_learnParts.2.1 5 = .ok (.lconst 1, 1) := by decide +kernel
theorem d_Group_learnParts_6 : decode Y_Group_learnParts.2.1 6 = .ok (.lstore_n 2, 1) := by decide +kernel
theorem d_Group_learnParts_7 : decode Y_Group_learnParts.2.1 7 = .ok (.iconst 1, 1) := by decide +kernel
theorem d_Group_learnParts_8 : decode Y_Group_learnParts.2.1 8 = .ok (.istore 4, 2) := by decide +kernel
theorem d_Group_learnParts_10 : decode Y_Group_learnParts.2.1 10 = .ok (.iload 4, 2) := by decide +kernel
theorem d_Group_learnParts_12 : decode Y_Group_learnParts.2.1 12 = .ok (.iload_n 1, 1) := by decide +kernel
theorem d_Group_learnParts_13 : decode Y_Group_learnParts.2.1 13 = .ok (.if_icmp .gt 73, 3) := by decide +kernel
theorem d_Group_learnParts_16 : decode Y_Group_learnParts.2.1 16 = .ok (.aload_n 0, 1) := by decide +kernel
theorem d_Group_learnParts_17 : decode Y_Group_learnParts.2.1 17 = .ok (.iload 4, 2) := by decide +kernel
theorem d_Group_learnParts_19 : decode Y_Group_learnParts.2.1 19 = .ok (.invokevirtual 72, 3) := by decide +kernel
theorem d_Group_learnParts_22 : decode Y_Group_learnParts.2.1 22 = .ok (.lstore 5, 2) := by decide +kernel
theorem d_Group_learnParts_24 : decode Y_Group_learnParts.2.1 24 = .ok (.lload_n 2, 1) := by decide +kernel
theorem d_Group_learnParts_25 : decode Y_Group_learnParts.2.1 25 = .ok (.lconst 0, 1) := by decide +kernel
theorem d_Group_learnParts_26 : decode Y_Group_learnParts.2.1 26 = .ok (.lcmp, 1) := by decide +kernel
theorem d_Group_learnParts_27 : decode Y_Group_learnParts.2.1 27 = .ok (.ifCond .le 10, 3) := by decide +kernel
theorem d_Group_learnParts_30 : decode Y_Group_learnParts.2.1 30 = .ok (.lload 5, 2) := by decide +kernel
theorem d_Group_learnParts_32 : decode Y_Group_learnParts.2.1 32 = .ok (.lload_n 2, 1) := by decide +kernel
theorem d_Group_learnParts_33 : decode Y_Group_learnParts.2.1 33 = .ok (.ldiv, 1) := by decide +kernel
theorem d_Group_learnParts_34 : decode Y_Group_learnParts.2.1 34 = .ok (.goto 4, 3) := by decide +kernel
theorem d_Group_learnParts_37 : decode Y_Group_learnParts.2.1 37 = .ok (.lconst 0, 1) := by decide +kernel
theorem d_Group_learnParts_38 : decode Y_Group_learnParts.2.1 38 = .ok (.lstore 7, 2) := by decide +kernel
theorem d_Group_learnParts_40 : decode Y_Group_learnParts.2.1 40 = .ok (.lload 7, 2) := by decide +kernel
theorem d_Group_learnParts_42 : decode Y_Group_learnParts.2.1 42 = .ok (.lconst 1, 1) := by decide +kernel
theorem d_Group_learnParts_43 : decode Y_Group_learnParts.2.1 43 = .ok (.lcmp, 1) := by decide +kernel
theorem d_Group_learnParts_44 : decode Y_Group_learnParts.2.1 44 = .ok (.ifCond .le 33, 3) := by decide +kernel
theorem d_Group_learnParts_47 : decode Y_Group_learnParts.2.1 47 = .ok (.aload_n 0, 1) := by decide +kernel
theorem d_Group_learnParts_48 : decode Y_Group_learnParts.2.1 48 = .ok (.getfield 69, 3) := by decide +kernel
theorem d_Group_learnParts_51 : decode Y_Group_learnParts.2.1 51 = .ok (.iconst 5, 1) := by decide +kernel
theorem d_Group_learnParts_52 : decode Y_Group_learnParts.2.1 52 = .ok (.if_icmp .ge 25, 3) := by decide +kernel
theorem d_Group_learnParts_55 : decode Y_Group_learnParts.2.1 55 = .ok (.aload_n 0, 1) := by decide +kernel
theorem d_Group_learnParts_56 : decode Y_Group_learnParts.2.1 56 = .ok (.getfield 25, 3) := by decide +kernel
theorem d_Group_learnParts_59 : decode Y_Group_learnParts.2.1 59 = .ok (.aload_n 0, 1) := by decide +kernel
theorem d_Group_learnParts_60 : decode Y_Group_learnParts.2.1 60 = .ok (.getfield 69, 3) := by decide +kernel
theorem d_Group_learnParts_63 : decode Y_Group_learnParts.2.1 63 = .ok (.lload 7, 2) := by decide +kernel
theorem d_Group_learnParts_65 : decode Y_Group_learnParts.2.1 65 = .ok (.l2i, 1) := by decide +kernel
theorem d_Group_learnParts_66 : decode Y_Group_learnParts.2.1 66 = .ok (.iastore, 1) := by decide +kernel
theorem d_Group_learnParts_67 : decode Y_Group_learnParts.2.1 67 = .ok (.aload_n 0, 1) := by decide +kernel
theorem d_Group_learnParts_68 : decode Y_Group_learnParts.2.1 68 = .ok (.dup, 1) := by decide +kernel
theorem d_Group_learnParts_69 : decode Y_Group_learnParts.2.1 69 = .ok (.getfield 69, 3) := by decide +kernel
theorem d_Group_learnParts_72 : decode Y_Group_learnParts.2.1 72 = .ok (.iconst 1, 1) := by decide +kernel
theorem d_Group_learnParts_73 : decode Y_Group_learnParts.2.1 73 = .ok (.iadd, 1) := by decide +kernel
theorem d_Group_learnParts_74 : decode Y_Group_learnParts.2.1 74 = .ok (.putfield 69, 3) := by decide +kernel
theorem d_Group_learnParts_77 : decode Y_Group_learnParts.2.1 77 = .ok (.lload 5, 2) := by decide +kernel
theorem d_Group_learnParts_79 : decode Y_Group_learnParts.2.1 79 = .ok (.lstore_n 2, 1) := by decide +kernel
theorem d_Group_learnParts_80 : decode Y_Group_learnParts.2.1 80 = .ok (.iinc 4 1, 3) := by decide +kernel
theorem d_Group_learnParts_83 : decode Y_Group_learnParts.2.1 83 = .ok (.goto (-73), 3) := by decide +kernel
theorem d_Group_learnParts_86 : decode Y_Group_learnParts.2.1 86 = .ok (.return_, 1) := by decide +kernel
theorem e_Group_learnParts {l : Launch} {G : GT} {d : Nat} {P : MM → Prop} {m : MM} (x1 : Int)  (H : wfM m → inR x1 → ∀ m1, m1 = up m 38 5 0 → (Wq l G false Y_Group_learnParts d (QV P) 10 [(0, .inr (.inr 38)), (1, .inl x1), (2, .inr (.inl 1)), (4, .inl 1)] [] m1)) : CV l G Y_Group_learnParts d [.inr (.inr 38), .inl x1] m P := by
  refine CV.of [(0, .inr (.inr 38)), (1, .inl x1)] k_Group_learnParts.1 (Nat.le_of_ble_eq_true rfl) rfl (Wp.wf (fun hw _ hl hs => ?_))
  have H0 := H hw (hl _ (List.mem_of_getElem? (i := 1) rfl))
  refine Wp.aload_n 0 0 d_Group_learnParts_0 rfl rfl ?_
  refine Wp.iconst d_Group_learnParts_1 (by decide) ?_
  refine Wq.putI 5 rfl d_Group_learnParts_2 fl_Group_69 (fun _ _ _ h => by cases h; rfl) rfl rfl rfl (fun m1 hm2 => ?_)
  have H3 := H0 m1 hm2
  refine Wp.lconst (x := 1) d_Group_learnParts_5 (by decide) (by decide) ?_
  refine Wp.lstore_n 2 [(0, .inr (.inr 38)), (1, .inl x1), (2, .inr (.inl 1))] d_Group_learnParts_6 rfl (by decide) rfl ?_
  refine Wp.iconst d_Group_learnParts_7 (by decide) ?_
  refine Wp.istore 4 [(0, .inr (.inr 38)), (1, .inl x1), (2, .inr (.inl 1)), (4, .inl 1)] d_Group_learnParts_8 (by decide) rfl ?_
  exact H3
theorem s_Group_learnParts_10 {l : Launch} {G : GT} {d : Nat} {P : MM → Prop} {m : MM} (x1 : Int) (x2 : Int) (x4 : Int)  (H : wfM m → inR x1 → inL x2 → inR x4 → (x4 > x1 → (P m)) ∧ (¬ (x4 > x1) → (∃ (e6 : Nat) (P7 : Int → MM → Prop), e6 < d ∧ CJ l G Y_Group_divisorOfMinors e6 [.inr (.inr 38), .inl x4] m P7 ∧ (∀ z12 m13, P7 z12 m13 → inL z12 → wfM m13 → ((x2 ≤ 0 → (Wq l G false Y_Group_learnParts d (QV P) 38 [(0, .inr (.inr 38)), (1, .inl x1), (4, .inl x4), (5, .inr (.inl z12))] [.inr (.inl 0)] m13)) ∧ (¬ (x2 ≤ 0) → ((x2 ≠ 0 ∧ inL (Int.tdiv z12 x2)) ∧ (Wq l G false Y_Group_learnParts d (QV P) 38 [(0, .inr (.inr 38)), (1, .inl x1), (4, .inl x4), (5, .inr (.inl z12))] [.inr (.inl (Int.tdiv z12 x2))] m13)))))))) : Wq l G false Y_Group_learnParts d (QV P) 10 [(0, .inr (.inr 38)), (1, .inl x1), (2, .inr (.inl x2)), (4, .inl x4)] [] m := by
  refine Wp.wf (fun hw _ hl hs => ?_)
  have H0 := H hw (hl _ (List.mem_of_getElem? (i := 1) rfl)) (hl _ (List.mem_of_getElem? (i := 2) rfl)) (hl _ (List.mem_of_getElem? (i := 3) rfl))
  refine Wp.iload 3 4 d_Group_learnParts_10 rfl ?_
  refine Wp.iload_n 1 1 d_Group_learnParts_12 rfl rfl ?_
  obtain ⟨H2, H3⟩ := H0
  refine Wp.icmp_gt 86 d_Group_learnParts_13 (by decide) (fun c1 => ?_) (fun c1 => ?_)
  · have H4 := H2 c1
    exact Wq.vret d_Group_learnParts_86 rfl H4
  · have H5 := H3 c1
    refine Wp.aload_n 0 0 d_Group_learnParts_16 rfl rfl ?_
    refine Wp.iload 3 4 d_Group_learnParts_17 rfl ?_
    obtain ⟨e6, P7, hd8, ho9, H10⟩ := H5
    refine Wq.VJ (st := []) [.inl x4] d_Group_learnParts_19 k_Group_divisorOfMinors ml_Group_72 rfl rfl rfl (fun h => by cases h) (Nat.le_of_ble_eq_true rfl) hd8 ho9 (fun z12 m13 hp14 hz15 hw16 => ?_)
    have H11 := H10 z12 m13 hp14 hz15 hw16
    refine Wp.lstore 5 [(0, .inr (.inr 38)), (1, .inl x1), (2, .inr (.inl x2)), (4, .inl x4), (5, .inr (.inl z12))] d_Group_learnParts_22 (by decide) rfl ?_
    refine Wp.lload_n 2 2 d_Group_learnParts_24 rfl rfl ?_
    refine Wp.lconst (x := 0) d_Group_learnParts_25 (by decide) (by decide) ?_
    obtain ⟨H18, H19⟩ := H11
    refine Wq.lif_le 37 d_Group_learnParts_26 d_Group_learnParts_27 (by decide) (fun c17 => ?_) (fun c17 => ?_)
    · have H20 := H18 c17
      refine Wp.lconst (x := 0) d_Group_learnParts_37 (by decide) (by decide) ?_
      refine Wp.pick [0, 1, 3, 4] [(0, .inr (.inr 38)), (1, .inl x1), (4, .inl x4), (5, .inr (.inl z12))] rfl ?_
      exact H20
    · have H21 := H19 c17
      refine Wp.lload 4 5 d_Group_learnParts_30 rfl ?_
      refine Wp.lload_n 2 2 d_Group_learnParts_32 rfl rfl ?_
      obtain ⟨s22, H23⟩ := H21
      refine Wq.ldiv d_Group_learnParts_33 s22.1 s22.2 ?_
      refine Wp.goto 38 d_Group_learnParts_34 (by decide) ?_
      refine Wp.pick [0, 1, 3, 4] [(0, .inr (.inr 38)), (1, .inl x1), (4, .inl x4), (5, .inr (.inl z12))] rfl ?_
      exact H23
theorem s_Group_learnParts_38 {l : Launch} {G : GT} {d : Nat} {P : MM → Prop} {m : MM} (x1 : Int) (x4 : Int) (x5 : Int) (y0 : Int)  (H : wfM m → inR x1 → inR x4 → inL x5 → inL y0 → (y0 ≤ 1 → ((inR (x4 + 1)) ∧ (Wq l G false Y_Group_learnParts d (QV P) 10 [(0, .inr (.inr 38)), (1, .inl x1), (2, .inr (.inl x5)), (4, .inl (x4 + 1))] [] m))) ∧ (¬ (y0 ≤ 1) → (((m 38 5) ≥ 5 → ((inR (x4 + 1)) ∧ (Wq l G false Y_Group_learnParts d (QV P) 10 [(0, .inr (.inr 38)), (1, .inl x1), (2, .inr (.inl x5)), (4, .inl (x4 + 1))] [] m))) ∧ (¬ ((m 38 5) ≥ 5) → ((inR y0) ∧ ((0 ≤ (m 38 5) ∧ (m 38 5) < (5 : Int)) ∧ (∀ m17, m17 = up m 44 (m 38 5) y0 → ((inR ((m17 38 5) + 1)) ∧ (∀ m24, m24 = up m17 38 5 ((m17 38 5) + 1) → ((inR (x4 + 1)) ∧ (Wq l G false Y_Group_learnParts d (QV P) 10 [(0, .inr (.inr 38)), (1, .inl x1), (2, .inr (.inl x5)), (4, .inl (x4 + 1))] [] m24))))))))))) : Wq l G false Y_Group_learnParts d (QV P) 38 [(0, .inr (.inr 38)), (1, .inl x1), (4, .inl x4), (5, .inr (.inl x5))] [.inr (.inl y0)] m := by
  refine Wp.wf (fun hw _ hl hs => ?_)
  have H0 := H hw (hl _ (List.mem_of_getElem? (i := 1) rfl)) (hl _ (List.mem_of_getElem? (i := 2) rfl)) (hl _ (List.mem_of_getElem? (i := 3) rfl)) (hs _ (List.mem_of_getElem? (i := 0) rfl))
  refine Wp.lstore 7 [(0, .inr (.inr 38)), (1, .inl x1), (4, .inl x4), (5, .inr (.inl x5)), (7, .inr (.inl y0))] d_Group_learnParts_38 (by decide) rfl ?_
  refine Wp.lload 4 7 d_Group_learnParts_40 rfl ?_
  refine Wp.lconst (x := 1) d_Group_learnParts_42 (by decide) (by decide) ?_
  obtain ⟨H2, H3⟩ := H0
  refine Wq.lif_le 77 d_Group_learnParts_43 d_Group_learnParts_44 (by decide) (fun c1 => ?_) (fun c1 => ?_)
  · have H4 := H2 c1
    refine Wp.lload 3 5 d_Group_learnParts_77 rfl ?_
    refine Wp.lstore_n 2 [(0, .inr (.inr 38)), (1, .inl x1), (2, .inr (.inl x5)), (4, .inl x4), (5, .inr (.inl x5)), (7, .inr (.inl y0))] d_Group_learnParts_79 rfl (by decide) rfl ?_
    obtain ⟨s6, H7⟩ := H4
    refine Wp.iinc 3 4 [(0, .inr (.inr 38)), (1, .inl x1), (2, .inr (.inl x5)), (4, .inl (x4 + 1)), (5, .inr (.inl x5)), (7, .inr (.inl y0))] d_Group_learnParts_80 rfl s6 (by decide) rfl ?_
    refine Wp.goto 10 d_Group_learnParts_83 (by decide) ?_
    refine Wp.pick [0, 1, 2, 3] [(0, .inr (.inr 38)), (1, .inl x1), (2, .inr (.inl x5)), (4, .inl (x4 + 1))] rfl ?_
    exact H7
  · have H5 := H3 c1
    refine Wp.aload_n 0 0 d_Group_learnParts_47 rfl rfl ?_
    refine Wq.getI 5 rfl d_Group_learnParts_48 fl_Group_69 rfl (Or.inl rfl) ?_
    refine Wp.iconst d_Group_learnParts_51 (by decide) ?_
    obtain ⟨H9, H10⟩ := H5
    refine Wp.icmp_ge 77 d_Group_learnParts_52 (by decide) (fun c8 => ?_) (fun c8 => ?_)
    · have H11 := H9 c8
      refine Wp.lload 3 5 d_Group_learnParts_77 rfl ?_
      refine Wp.lstore_n 2 [(0, .inr (.inr 38)), (1, .inl x1), (2, .inr (.inl x5)), (4, .inl x4), (5, .inr (.inl x5)), (7, .inr (.inl y0))] d_Group_learnParts_79 rfl (by decide) rfl ?_
      obtain ⟨s13, H14⟩ := H11
      refine Wp.iinc 3 4 [(0, .inr (.inr 38)), (1, .inl x1), (2, .inr (.inl x5)), (4, .inl (x4 + 1)), (5, .inr (.inl x5)), (7, .inr (.inl y0))] d_Group_learnParts_80 rfl s13 (by decide) rfl ?_
      refine Wp.goto 10 d_Group_learnParts_83 (by decide) ?_
      refine Wp.pick [0, 1, 2, 3] [(0, .inr (.inr 38)), (1, .inl x1), (2, .inr (.inl x5)), (4, .inl (x4 + 1))] rfl ?_
      exact H14
    · have H12 := H10 c8
      refine Wp.aload_n 0 0 d_Group_learnParts_55 rfl rfl ?_
      refine Wp.getP 44 d_Group_learnParts_56 fl_Group_25 rfl rfl rfl ?_
      refine Wp.aload_n 0 0 d_Group_learnParts_59 rfl rfl ?_
      refine Wq.getI 5 rfl d_Group_learnParts_60 fl_Group_69 rfl (Or.inl rfl) ?_
      refine Wp.lload 4 7 d_Group_learnParts_63 rfl ?_
      obtain ⟨s15, H16⟩ := H12
      refine Wq.l2i d_Group_learnParts_65 s15 ?_
      obtain ⟨s29, H30⟩ := H16
      refine Wq.iast d_Group_learnParts_66 rfl s29.1 s29.2 (fun m17 hm18 => ?_)
      have H19 := H30 m17 hm18
      refine Wp.aload_n 0 0 d_Group_learnParts_67 rfl rfl ?_
      refine Wp.dup d_Group_learnParts_68 rfl ?_
      refine Wq.getI 5 rfl d_Group_learnParts_69 fl_Group_69 rfl (Or.inl rfl) ?_
      refine Wp.iconst d_Group_learnParts_72 (by decide) ?_
      obtain ⟨s22, H23⟩ := H19
      refine Wp.iadd d_Group_learnParts_73 s22 ?_
      refine Wq.putI 5 rfl d_Group_learnParts_74 fl_Group_69 (fun _ _ _ h => by cases h; rfl) rfl rfl rfl (fun m24 hm25 => ?_)
      have H26 := H23 m24 hm25
      refine Wp.lload 3 5 d_Group_learnParts_77 rfl ?_
      refine Wp.lstore_n 2 [(0, .inr (.inr 38)), (1, .inl x1), (2, .inr (.inl x5)), (4, .inl x4), (5, .inr (.inl x5)), (7, .inr (.inl y0))] d_Group_learnParts_79 rfl (by decide) rfl ?_
      obtain ⟨s27, H28⟩ := H26
      refine Wp.iinc 3 4 [(0, .inr (.inr 38)), (1, .inl x1), (2, .inr (.inl x5)), (4, .inl (x4 + 1)), (5, .inr (.inl x5)), (7, .inr (.inl y0))] d_Group_learnParts_80 rfl s27 (by decide) rfl ?_
      refine Wp.goto 10 d_Group_learnParts_83 (by decide) ?_
      refine Wp.pick [0, 1, 2, 3] [(0, .inr (.inr 38)), (1, .inl x1), (2, .inr (.inl x5)), (4, .inl (x4 + 1))] rfl ?_
      exact H28
theorem d_Group_divisorOfMinors_0 : decode Y_Group_divisorOfMinors.2.1 0 = .ok (.lconst 0, 1) := by decide +kernel
theorem d_Group_divisorOfMinors_1 : decode Y_Group_divisorOfMinors.2.1 1 = .ok (.lstore_n 2, 1) := by decide +kernel
theorem d_Group_divisorOfMinors_2 : decode Y_Group_divisorOfMinors.2.1 2 = .ok (.iconst 1, 1) := by decide +kernel
theorem d_Group_divisorOfMinors_3 : decode Y_Group_divisorOfMinors.2.1 3 = .ok (.istore 4, 2) := by decide +kernel
theorem d_Group_divisorOfMinors_5 : decode Y_Group_divisorOfMinors.2.1 5 = .ok (.iload 4, 2) := by decide +kernel
theorem d_Group_divisorOfMinors_7 : decode Y_Group_divisorOfMinors.2.1 7 = .ok (.aload_n 0, 1) := by decide +kernel
theorem d_Group_divisorOfMinors_8 : decode Y_Group_divisorOfMinors.2.1 8 = .ok (.getfield 38, 3) := by decide +kernel
theorem d_Group_divisorOfMinors_11 : decode Y_Group_divisorOfMinors.2.1 11 = .ok (.if_icmp .gt 64, 3) := by decide +kernel
theorem d_Group_divisorOfMinors_14 : decode Y_Group_divisorOfMinors.2.1 14 = .ok (.iconst 1, 1) := by decide +kernel
theorem d_Group_divisorOfMinors_15 : decode Y_Group_divisorOfMinors.2.1 15 = .ok (.istore 5, 2) := by decide +kernel
theorem d_Group_divisorOfMinors_17 : decode Y_Group_divisorOfMinors.2.1 17 = .ok (.iload 5, 2) := by decide +kernel
theorem d_Group_divisorOfMinors_19 : decode Y_Group_divisorOfMinors.2.1 19 = .ok (.aload_n 0, 1) := by decide +kernel
theorem d_Group_divisorOfMinors_20 : decode Y_Group_divisorOfMinors.2.1 20 = .ok (.getfield 38, 3) := by decide +kernel
theorem d_Group_divisorOfMinors_23 : decode Y_Group_divisorOfMinors.2.1 23 = .ok (.if_icmp .gt 46, 3) := by decide +kernel
theorem d_Group_divisorOfMinors_26 : decode Y_Group_divisorOfMinors.2.1 26 = .ok (.iload 4, 2) := by decide +kernel
theorem d_Group_divisorOfMinors_28 : decode Y_Group_divisorOfMinors.2.1 28 = .ok (.invokestatic 41, 3) := by decide +kernel
theorem d_Group_divisorOfMinors_31 : decode Y_Group_divisorOfMinors.2.1 31 = .ok (.iload_n 1, 1) := by decide +kernel
theorem d_Group_divisorOfMinors_32 : decode Y_Group_divisorOfMinors.2.1 32 = .ok (.if_icmp .ne 31, 3) := by decide +kernel
theorem d_Group_divisorOfMinors_35 : decode Y_Group_divisorOfMinors.2.1 35 = .ok (.iload 5, 2) := by decide +kernel
theorem d_Group_divisorOfMinors_37 : decode Y_Group_divisorOfMinors.2.1 37 = .ok (.invokestatic 41, 3) := by decide +kernel
theorem d_Group_divisorOfMinors_40 : decode Y_Group_divisorOfMinors.2.1 40 = .ok (.iload_n 1, 1) := by decide +kernel
theorem d_Group_divisorOfMinors_41 : decode Y_Group_divisorOfMinors.2.1 41 = .ok (.if_icmp .ne 22, 3) := by decide +kernel
theorem d_Group_divisorOfMinors_44 : decode Y_Group_divisorOfMinors.2.1 44 = .ok (.lload_n 2, 1) := by decide +kernel
theorem d_Group_divisorOfMinors_45 : decode Y_Group_divisorOfMinors.2.1 45 = .ok (.aload_n 0, 1) := by decide +kernel
theorem d_Group_divisorOfMinors_46 : decode Y_Group_divisorOfMinors.2.1 46 = .ok (.getfield 11, 3) := by decide +kernel
theorem d_Group_divisorOfMinors_49 : decode Y_Group_divisorOfMinors.2.1 49 = .ok (.iload 4, 2) := by decide +kernel
theorem d_Group_divisorOfMinors_51 : decode Y_Group_divisorOfMinors.2.1 51 = .ok (.bipush 32, 2) := by decide +kernel
theorem d_Group_divisorOfMinors_53 : decode Y_Group_divisorOfMinors.2.1 53 = .ok (.imul, 1) := by decide +kernel
theorem d_Group_divisorOfMinors_54 : decode Y_Group_divisorOfMinors.2.1 54 = .ok (.iload 5, 2) := by decide +kernel
theorem d_Group_divisorOfMinors_56 : decode Y_Group_divisorOfMinors.2.1 56 = .ok (.iadd, 1) := by decide +kernel
theorem d_Group_divisorOfMinors_57 : decode Y_Group_divisorOfMinors.2.1 57 = .ok (.iaload, 1) := by decide +kernel
theorem d_Group_divisorOfMinors_58 : decode Y_Group_divisorOfMinors.2.1 58 = .ok (.i2l, 1) := by decide +kernel
theorem d_Group_divisorOfMinors_59 : decode Y_Group_divisorOfMinors.2.1 59 = .ok (.invokestatic 76, 3) := by decide +kernel
theorem d_Group_divisorOfMinors_62 : decode Y_Group_divisorOfMinors.2.1 62 = .ok (.lstore_n 2, 1) := by decide +kernel
theorem d_Group_divisorOfMinors_63 : decode Y_Group_divisorOfMinors.2.1 63 = .ok (.iinc 5 1, 3) := by decide +kernel
theorem d_Group_divisorOfMinors_66 : decode Y_Group_divisorOfMinors.2.1 66 = .ok (.goto (-49), 3) := by decide +kernel
theorem d_Group_divisorOfMinors_69 : decode Y_Group_divisorOfMinors.2.1 69 = .ok (.iinc 4 1, 3) := by decide +kernel
theorem d_Group_divisorOfMinors_72 : decode Y_Group_divisorOfMinors.2.1 72 = .ok (.goto (-67), 3) := by decide +kernel
theorem d_Group_divisorOfMinors_75 : decode Y_Group_divisorOfMinors.2.1 75 = .ok (.lload_n 2, 1) := by decide +kernel
theorem d_Group_divisorOfMinors_76 : decode Y_Group_divisorOfMinors.2.1 76 = .ok (.lreturn, 1) := by decide +kernel
theorem e_Group_divisorOfMinors {l : Launch} {G : GT} {d : Nat} {P : Int → MM → Prop} {m : MM} (x1 : Int)  (H : wfM m → inR x1 → Wq l G false Y_Group_divisorOfMinors d (QJ P) 5 [(0, .inr (.inr 38)), (1, .inl x1), (2, .inr (.inl 0)), (4, .inl 1)] [] m) : CJ l G Y_Group_divisorOfMinors d [.inr (.inr 38), .inl x1] m P := by
  refine CJ.of [(0, .inr (.inr 38)), (1, .inl x1)] k_Group_divisorOfMinors.1 (Nat.le_of_ble_eq_true rfl) rfl (Wp.wf (fun hw _ hl hs => ?_))
  have H0 := H hw (hl _ (List.mem_of_getElem? (i := 1) rfl))
  refine Wp.lconst (x := 0) d_Group_divisorOfMinors_0 (by decide) (by decide) ?_
  refine Wp.lstore_n 2 [(0, .inr (.inr 38)), (1, .inl x1), (2, .inr (.inl 0))] d_Group_divisorOfMinors_1 rfl (by decide) rfl ?_
  refine Wp.iconst d_Group_divisorOfMinors_2 (by decide) ?_
  refine Wp.istore 4 [(0, .inr (.inr 38)), (1, .inl x1), (2, .inr (.inl 0)), (4, .inl 1)] d_Group_divisorOfMinors_3 (by decide) rfl ?_
  exact H0
theorem s_Group_divisorOfMinors_5 {l : Launch} {G : GT} {d : Nat} {P : Int → MM → Prop} {m : MM} (x1 : Int) (x2 : Int) (x4 : Int)  (H : wfM m → inR x1 → inL x2 → inR x4 → (x4 > (m 38 1) → (P x2 m)) ∧ (¬ (x4 > (m 38 1)) → (Wq l G false Y_Group_divisorOfMinors d (QJ P) 17 [(0, .inr (.inr 38)), (1, .inl x1), (2, .inr (.inl x2)), (4, .inl x4), (5, .inl 1)] [] m))) : Wq l G false Y_Group_divisorOfMinors d (QJ P) 5 [(0, .inr (.inr 38)), (1, .inl x1), (2, .inr (.inl x2)), (4, .inl x4)] [] m := by
  refine Wp.wf (fun hw _ hl hs => ?_)
  have H0 := H hw (hl _ (List.mem_of_getElem? (i := 1) rfl)) (hl _ (List.mem_of_getElem? (i := 2) rfl)) (hl _ (List.mem_of_getElem? (i := 3) rfl))
  refine Wp.iload 3 4 d_Group_divisorOfMinors_5 rfl ?_
  refine Wp.aload_n 0 0 d_Group_divisorOfMinors_7 rfl rfl ?_
  refine Wq.getI 1 rfl d_Group_divisorOfMinors_8 fl_Group_38 rfl (Or.inl rfl) ?_
  obtain ⟨H2, H3⟩ := H0
  refine Wp.icmp_gt 75 d_Group_divisorOfMinors_11 (by decide) (fun c1 => ?_) (fun c1 => ?_)
  · have H4 := H2 c1
    refine Wp.lload_n 2 2 d_Group_divisorOfMinors_75 rfl rfl ?_
    exact Wq.lret d_Group_divisorOfMinors_76 rfl H4
  · have H5 := H3 c1
    refine Wp.iconst d_Group_divisorOfMinors_14 (by decide) ?_
    refine Wp.istore 5 [(0, .inr (.inr 38)), (1, .inl x1), (2, .inr (.inl x2)), (4, .inl x4), (5, .inl 1)] d_Group_divisorOfMinors_15 (by decide) rfl ?_
    exact H5
theorem s_Group_divisorOfMinors_17 {l : Launch} {G : GT} {d : Nat} {P : Int → MM → Prop} {m : MM} (x1 : Int) (x2 : Int) (x4 : Int) (x5 : Int)  (H : wfM m → inR x1 → inL x2 → inR x4 → inR x5 → (x5 > (m 38 1) → ((inR (x4 + 1)) ∧ (Wq l G false Y_Group_divisorOfMinors d (QJ P) 5 [(0, .inr (.inr 38)), (1, .inl x1), (2, .inr (.inl x2)), (4, .inl (x4 + 1))] [] m))) ∧ (¬ (x5 > (m 38 1)) → (∃ (e8 : Nat) (P9 : Int → MM → Prop), e8 < d ∧ CI l G Y_Integer_bitCount e8 [.inl x4] m P9 ∧ (∀ z14 m15, P9 z14 m15 → inR z14 → wfM m15 → ((z14 ≠ x1 → ((inR (x5 + 1)) ∧ (Wq l G false Y_Group_divisorOfMinors d (QJ P) 17 [(0, .inr (.inr 38)), (1, .inl x1), (2, .inr (.inl x2)), (4, .inl x4), (5, .inl (x5 + 1))] [] m15))) ∧ (¬ (z14 ≠ x1) → (∃ (e26 : Nat) (P27 : Int → MM → Prop), e26 < d ∧ CI l G Y_Integer_bitCount e26 [.inl x5] m15 P27 ∧ (∀ z32 m33, P27 z32 m33 → inR z32 → wfM m33 → ((z32 ≠ x1 → ((inR (x5 + 1)) ∧ (Wq l G false Y_Group_divisorOfMinors d (QJ P) 17 [(0, .inr (.inr 38)), (1, .inl x1), (2, .inr (.inl x2)), (4, .inl x4), (5, .inl (x5 + 1))] [] m33))) ∧ (¬ (z32 ≠ x1) → ((inR (x4 * 32)) ∧ ((inR ((x4 * 32) + x5)) ∧ ((0 ≤ ((x4 * 32) + x5) ∧ ((x4 * 32) + x5) < (1024 : Int)) ∧ (∃ (e50 : Nat) (P51 : Int → MM → Prop), e50 < d ∧ CJ l G Y_S_commonDivisor e50 [.inr (.inl x2), .inr (.inl (m33 39 ((x4 * 32) + x5)))] m33 P51 ∧ (∀ z56 m57, P51 z56 m57 → inL z56 → wfM m57 → ((inR (x5 + 1)) ∧ (Wq l G false Y_Group_divisorOfMinors d (QJ P) 17 [(0, .inr (.inr 38)), (1, .inl x1), (2, .inr (.inl z56)), (4, .inl x4), (5, .inl (x5 + 1))] [] m57))))))))))))))))) : Wq l G false Y_Group_divisorOfMinors d (QJ P) 17 [(0, .inr (.inr 38)), (1, .inl x1), (2, .inr (.inl x2)), (4, .inl x4), (5, .inl x5)] [] m := by
  refine Wp.wf (fun hw _ hl hs => ?_)
  have H0 := H hw (hl _ (List.mem_of_getElem? (i := 1) rfl)) (hl _ (List.mem_of_getElem? (i := 2) rfl)) (hl _ (List.mem_of_getElem? (i := 3) rfl)) (hl _ (List.mem_of_getElem? (i := 4) rfl))
  refine Wp.iload 4 5 d_Group_divisorOfMinors_17 rfl ?_
  refine Wp.aload_n 0 0 d_Group_divisorOfMinors_19 rfl rfl ?_
  refine Wq.getI 1 rfl d_Group_divisorOfMinors_20 fl_Group_38 rfl (Or.inl rfl) ?_
  obtain ⟨H2, H3⟩ := H0
  refine Wp.icmp_gt 69 d_Group_divisorOfMinors_23 (by decide) (fun c1 => ?_) (fun c1 => ?_)
  · have H4 := H2 c1
    obtain ⟨s6, H7⟩ := H4
    refine Wp.iinc 3 4 [(0, .inr (.inr 38)), (1, .inl x1), (2, .inr (.inl x2)), (4, .inl (x4 + 1)), (5, .inl x5)] d_Group_divisorOfMinors_69 rfl s6 (by decide) rfl ?_
    refine Wp.goto 5 d_Group_divisorOfMinors_72 (by decide) ?_
    refine Wp.pick [0, 1, 2, 3] [(0, .inr (.inr 38)), (1, .inl x1), (2, .inr (.inl x2)), (4, .inl (x4 + 1))] rfl ?_
    exact H7
  · have H5 := H3 c1
    refine Wp.iload 3 4 d_Group_divisorOfMinors_26 rfl ?_
    obtain ⟨e8, P9, hd10, ho11, H12⟩ := H5
    refine Wq.SI (st := []) [.inl x4] d_Group_divisorOfMinors_28 k_Integer_bitCount ml_Group_41 rfl  (fun h => by cases h) (Nat.le_of_ble_eq_true rfl) hd10 ho11 (fun z14 m15 hp16 hz17 hw18 => ?_)
    have H13 := H12 z14 m15 hp16 hz17 hw18
    refine Wp.iload_n 1 1 d_Group_divisorOfMinors_31 rfl rfl ?_
    obtain ⟨H20, H21⟩ := H13
    refine Wp.icmp_ne 63 d_Group_divisorOfMinors_32 (by decide) (fun c19 => ?_) (fun c19 => ?_)
    · have H22 := H20 c19
      obtain ⟨s24, H25⟩ := H22
      refine Wp.iinc 4 5 [(0, .inr (.inr 38)), (1, .inl x1), (2, .inr (.inl x2)), (4, .inl x4), (5, .inl (x5 + 1))] d_Group_divisorOfMinors_63 rfl s24 (by decide) rfl ?_
      refine Wp.goto 17 d_Group_divisorOfMinors_66 (by decide) ?_
      exact H25
    · have H23 := H21 c19
      refine Wp.iload 4 5 d_Group_divisorOfMinors_35 rfl ?_
      obtain ⟨e26, P27, hd28, ho29, H30⟩ := H23
      refine Wq.SI (st := []) [.inl x5] d_Group_divisorOfMinors_37 k_Integer_bitCount ml_Group_41 rfl  (fun h => by cases h) (Nat.le_of_ble_eq_true rfl) hd28 ho29 (fun z32 m33 hp34 hz35 hw36 => ?_)
      have H31 := H30 z32 m33 hp34 hz35 hw36
      refine Wp.iload_n 1 1 d_Group_divisorOfMinors_40 rfl rfl ?_
      obtain ⟨H38, H39⟩ := H31
      refine Wp.icmp_ne 63 d_Group_divisorOfMinors_41 (by decide) (fun c37 => ?_) (fun c37 => ?_)
      · have H40 := H38 c37
        obtain ⟨s42, H43⟩ := H40
        refine Wp.iinc 4 5 [(0, .inr (.inr 38)), (1, .inl x1), (2, .inr (.inl x2)), (4, .inl x4), (5, .inl (x5 + 1))] d_Group_divisorOfMinors_63 rfl s42 (by decide) rfl ?_
        refine Wp.goto 17 d_Group_divisorOfMinors_66 (by decide) ?_
        exact H43
      · have H41 := H39 c37
        refine Wp.lload_n 2 2 d_Group_divisorOfMinors_44 rfl rfl ?_
        refine Wp.aload_n 0 0 d_Group_divisorOfMinors_45 rfl rfl ?_
        refine Wp.getP 39 d_Group_divisorOfMinors_46 fl_Group_11 rfl rfl rfl ?_
        refine Wp.iload 3 4 d_Group_divisorOfMinors_49 rfl ?_
        refine Wp.bipush d_Group_divisorOfMinors_51 (by decide) (by decide) ?_
        obtain ⟨s44, H45⟩ := H41
        refine Wp.imul d_Group_divisorOfMinors_53 s44 ?_
        refine Wp.iload 4 5 d_Group_divisorOfMinors_54 rfl ?_
        obtain ⟨s46, H47⟩ := H45
        refine Wp.iadd d_Group_divisorOfMinors_56 s46 ?_
        obtain ⟨s48, H49⟩ := H47
        refine Wp.iald d_Group_divisorOfMinors_57 rfl (Or.inl rfl) s48.1 s48.2 ?_
        refine Wp.i2l d_Group_divisorOfMinors_58 ?_
        obtain ⟨e50, P51, hd52, ho53, H54⟩ := H49
        refine Wq.SNJ (st := []) [.inr (.inl x2), .inr (.inl (m33 39 ((x4 * 32) + x5)))] d_Group_divisorOfMinors_59 k_S_commonDivisor (List.mem_of_getElem? (i := 11) rfl) rfl  (fun h => by cases h) (Nat.le_of_ble_eq_true rfl) hd52 ho53 (fun z56 m57 hp58 hz59 hw60 => ?_)
        have H55 := H54 z56 m57 hp58 hz59 hw60
        refine Wp.lstore_n 2 [(0, .inr (.inr 38)), (1, .inl x1), (2, .inr (.inl z56)), (4, .inl x4), (5, .inl x5)] d_Group_divisorOfMinors_62 rfl (by decide) rfl ?_
        obtain ⟨s61, H62⟩ := H55
        refine Wp.iinc 4 5 [(0, .inr (.inr 38)), (1, .inl x1), (2, .inr (.inl z56)), (4, .inl x4), (5, .inl (x5 + 1))] d_Group_divisorOfMinors_63 rfl s61 (by decide) rfl ?_
        refine Wp.goto 17 d_Group_divisorOfMinors_66 (by decide) ?_
        exact H62
theorem d_Group_learnFiller_0 : decode Y_Group_learnFiller.2.1 0 = .ok (.iconst 0, 1) := by decide +kernel
theorem d_Group_learnFiller_1 : decode Y_Group_learnFiller.2.1 1 = .ok (.istore_n 2, 1) := by decide +kernel
theorem d_Group_learnFiller_2 : decode Y_Group_learnFiller.2.1 2 = .ok (.iload_n 2, 1) := by decide +kernel
theorem d_Group_learnFiller_3 : decode Y_Group_learnFiller.2.1 3 = .ok (.iconst 5, 1) := by decide +kernel
theorem d_Group_learnFiller_4 : decode Y_Group_learnFiller.2.1 4 = .ok (.if_icmp .ge 39, 3) := by decide +kernel
theorem d_Group_learnFiller_7 : decode Y_Group_learnFiller.2.1 7 = .ok (.aload_n 0, 1) := by decide +kernel
theorem d_Group_learnFiller_8 : decode Y_Group_learnFiller.2.1 8 = .ok (.getfield 15, 3) := by decide +kernel
theorem d_Group_learnFiller_11 : decode Y_Group_learnFiller.2.1 11 = .ok (.iload_n 2, 1) := by decide +kernel
theorem d_Group_learnFiller_12 : decode Y_Group_learnFiller.2.1 12 = .ok (.iload_n 2, 1) := by decide +kernel
theorem d_Group_learnFiller_13 : decode Y_Group_learnFiller.2.1 13 = .ok (.aload_n 1, 1) := by decide +kernel
theorem d_Group_learnFiller_14 : decode Y_Group_learnFiller.2.1 14 = .ok (.getfield 32, 3) := by decide +kernel
theorem d_Group_learnFiller_17 : decode Y_Group_learnFiller.2.1 17 = .ok (.if_icmp .ge 18, 3) := by decide +kernel
theorem d_Group_learnFiller_20 : decode Y_Group_learnFiller.2.1 20 = .ok (.iconst 2, 1) := by decide +kernel
theorem d_Group_learnFiller_21 : decode Y_Group_learnFiller.2.1 21 = .ok (.aload_n 1, 1) := by decide +kernel
theorem d_Group_learnFiller_22 : decode Y_Group_learnFiller.2.1 22 = .ok (.getfield 62, 3) := by decide +kernel
theorem d_Group_learnFiller_25 : decode Y_Group_learnFiller.2.1 25 = .ok (.iload_n 2, 1) := by decide +kernel
theorem d_Group_learnFiller_26 : decode Y_Group_learnFiller.2.1 26 = .ok (.iaload, 1) := by decide +kernel
theorem d_Group_learnFiller_27 : decode Y_Group_learnFiller.2.1 27 = .ok (.iconst 1, 1) := by decide +kernel
theorem d_Group_learnFiller_28 : decode Y_Group_learnFiller.2.1 28 = .ok (.isub, 1) := by decide +kernel
theorem d_Group_learnFiller_29 : decode Y_Group_learnFiller.2.1 29 = .ok (.imul, 1) := by decide +kernel
theorem d_Group_learnFiller_30 : decode Y_Group_learnFiller.2.1 30 = .ok (.iconst 4, 1) := by decide +kernel
theorem d_Group_learnFiller_31 : decode Y_Group_learnFiller.2.1 31 = .ok (.iadd, 1) := by decide +kernel
theorem d_Group_learnFiller_32 : decode Y_Group_learnFiller.2.1 32 = .ok (.goto 4, 3) := by decide +kernel
theorem d_Group_learnFiller_35 : decode Y_Group_learnFiller.2.1 35 = .ok (.iconst 0, 1) := by decide +kernel
theorem d_Group_learnFiller_36 : decode Y_Group_learnFiller.2.1 36 = .ok (.iastore, 1) := by decide +kernel
theorem d_Group_learnFiller_37 : decode Y_Group_learnFiller.2.1 37 = .ok (.iinc 2 1, 3) := by decide +kernel
theorem d_Group_learnFiller_40 : decode Y_Group_learnFiller.2.1 40 = .ok (.goto (-38), 3) := by decide +kernel
theorem d_Group_learnFiller_43 : decode Y_Group_learnFiller.2.1 43 = .ok (.aload_n 0, 1) := by decide +kernel
theorem d_Group_learnFiller_44 : decode Y_Group_learnFiller.2.1 44 = .ok (.getfield 21, 3) := by decide +kernel
theorem d_Group_learnFiller_47 : decode Y_Group_learnFiller.2.1 47 = .ok (.aload_n 0, 1) := by decide +kernel
theorem d_Group_learnFiller_48 : decode Y_Group_learnFiller.2.1 48 = .ok (.getfield 15, 3) := by decide +kernel
theorem d_Group_learnFiller_51 : decode Y_Group_learnFiller.2.1 51 = .ok (.invokevirtual 80, 3) := by decide +kernel
theorem d_Group_learnFiller_54 : decode Y_Group_learnFiller.2.1 54 = .ok (.aload_n 0, 1) := by decide +kernel
theorem d_Group_learnFiller_55 : decode Y_Group_learnFiller.2.1 55 = .ok (.getfield 21, 3) := by decide +kernel
theorem d_Group_learnFiller_58 : decode Y_Group_learnFiller.2.1 58 = .ok (.aload_n 1, 1) := by decide +kernel
theorem d_Group_learnFiller_59 : decode Y_Group_learnFiller.2.1 59 = .ok (.invokevirtual 84, 3) := by decide +kernel
theorem d_Group_learnFiller_62 : decode Y_Group_learnFiller.2.1 62 = .ok (.iconst 0, 1) := by decide +kernel
theorem d_Group_learnFiller_63 : decode Y_Group_learnFiller.2.1 63 = .ok (.istore_n 2, 1) := by decide +kernel
theorem d_Group_learnFiller_64 : decode Y_Group_learnFiller.2.1 64 = .ok (.iload_n 2, 1) := by decide +kernel
theorem d_Group_learnFiller_65 : decode Y_Group_learnFiller.2.1 65 = .ok (.iconst 5, 1) := by decide +kernel
theorem d_Group_learnFiller_66 : decode Y_Group_learnFiller.2.1 66 = .ok (.if_icmp .ge 27, 3) := by decide +kernel
theorem d_Group_learnFiller_69 : decode Y_Group_learnFiller.2.1 69 = .ok (.aload_n 0, 1) := by decide +kernel
theorem d_Group_learnFiller_70 : decode Y_Group_learnFiller.2.1 70 = .ok (.getfield 15, 3) := by decide +kernel
theorem d_Group_learnFiller_73 : decode Y_Group_learnFiller.2.1 73 = .ok (.iload_n 2, 1) := by decide +kernel
theorem d_Group_learnFiller_74 : decode Y_Group_learnFiller.2.1 74 = .ok (.dup2, 1) := by decide +kernel
theorem d_Group_learnFiller_75 : decode Y_Group_learnFiller.2.1 75 = .ok (.iaload, 1) := by decide +kernel
theorem d_Group_learnFiller_76 : decode Y_Group_learnFiller.2.1 76 = .ok (.aload_n 0, 1) := by decide +kernel
theorem d_Group_learnFiller_77 : decode Y_Group_learnFiller.2.1 77 = .ok (.getfield 21, 3) := by decide +kernel
theorem d_Group_learnFiller_80 : decode Y_Group_learnFiller.2.1 80 = .ok (.getfield 87, 3) := by decide +kernel
theorem d_Group_learnFiller_83 : decode Y_Group_learnFiller.2.1 83 = .ok (.iload_n 2, 1) := by decide +kernel
theorem d_Group_learnFiller_84 : decode Y_Group_learnFiller.2.1 84 = .ok (.iaload, 1) := by decide +kernel
theorem d_Group_learnFiller_85 : decode Y_Group_learnFiller.2.1 85 = .ok (.isub, 1) := by decide +kernel
theorem d_Group_learnFiller_86 : decode Y_Group_learnFiller.2.1 86 = .ok (.iastore, 1) := by decide +kernel
theorem d_Group_learnFiller_87 : decode Y_Group_learnFiller.2.1 87 = .ok (.iinc 2 1, 3) := by decide +kernel
theorem d_Group_learnFiller_90 : decode Y_Group_learnFiller.2.1 90 = .ok (.goto (-26), 3) := by decide +kernel
theorem d_Group_learnFiller_93 : decode Y_Group_learnFiller.2.1 93 = .ok (.return_, 1) := by decide +kernel
theorem e_Group_learnFiller {l : Launch} {G : GT} {d : Nat} {P : MM → Prop} {m : MM} (b1_ : Nat) (hB1_ : isB b1_) (H : wfM m → Wq l G false Y_Group_learnFiller d (QV P) 2 [(0, .inr (.inr 38)), (1, .inr (.inr b1_)), (2, .inl 0)] [] m) : CV l G Y_Group_learnFiller d [.inr (.inr 38), .inr (.inr b1_)] m P := by
  refine CV.of [(0, .inr (.inr 38)), (1, .inr (.inr b1_))] k_Group_learnFiller.1 (Nat.le_of_ble_eq_true rfl) rfl (Wp.wf (fun hw _ hl hs => ?_))
  have H0 := H hw
  refine Wp.iconst d_Group_learnFiller_0 (by decide) ?_
  refine Wp.istore_n 2 [(0, .inr (.inr 38)), (1, .inr (.inr b1_)), (2, .inl 0)] d_Group_learnFiller_1 rfl (by decide) rfl ?_
  exact H0
theorem s_Group_learnFiller_2 {l : Launch} {G : GT} {d : Nat} {P : MM → Prop} {m : MM} (x2 : Int) (b1_ : Nat) (hB1_ : isB b1_) (H : wfM m → inR x2 → (x2 ≥ 5 → (∃ (e6 : Nat) (P7 : MM → Prop), e6 < d ∧ CV l G Y_Sand_take e6 [.inr (.inr 41), .inr (.inr 40)] m P7 ∧ (∀ m13, P7 m13 → wfM m13 → (∃ (e17 : Nat) (P18 : MM → Prop), e17 < d ∧ CV l G Y_Sand_calm e17 [.inr (.inr 41), .inr (.inr b1_)] m13 P18 ∧ (∀ m24, P18 m24 → wfM m24 → (Wq l G false Y_Group_learnFiller d (QV P) 64 [(0, .inr (.inr 38)), (2, .inl 0)] [] m24)))))) ∧ (¬ (x2 ≥ 5) → ((x2 ≥ (m b1_ 0) → ((0 ≤ x2 ∧ x2 < (5 : Int)) ∧ (∀ m33, m33 = up m 40 x2 0 → ((inR (x2 + 1)) ∧ (Wq l G false Y_Group_learnFiller d (QV P) 2 [(0, .inr (.inr 38)), (1, .inr (.inr b1_)), (2, .inl (x2 + 1))] [] m33))))) ∧ (¬ (x2 ≥ (m b1_ 0)) → ((0 ≤ x2 ∧ x2 < (5 : Int)) ∧ ((inR ((m (b1_ + 4) x2) - 1)) ∧ ((inR (2 * ((m (b1_ + 4) x2) - 1))) ∧ ((inR ((2 * ((m (b1_ + 4) x2) - 1)) + 4)) ∧ ((0 ≤ x2 ∧ x2 < (5 : Int)) ∧ (∀ m50, m50 = up m 40 x2 ((2 * ((m (b1_ + 4) x2) - 1)) + 4) → ((inR (x2 + 1)) ∧ (Wq l G false Y_Group_learnFiller d (QV P) 2 [(0, .inr (.inr 38)), (1, .inr (.inr b1_)), (2, .inl (x2 + 1))] [] m50)))))))))))) : Wq l G false Y_Group_learnFiller d (QV P) 2 [(0, .inr (.inr 38)), (1, .inr (.inr b1_)), (2, .inl x2)] [] m := by
  refine Wp.wf (fun hw _ hl hs => ?_)
  have H0 := H hw (hl _ (List.mem_of_getElem? (i := 2) rfl))
  refine Wp.iload_n 2 2 d_Group_learnFiller_2 rfl rfl ?_
  refine Wp.iconst d_Group_learnFiller_3 (by decide) ?_
  obtain ⟨H2, H3⟩ := H0
  refine Wp.icmp_ge 43 d_Group_learnFiller_4 (by decide) (fun c1 => ?_) (fun c1 => ?_)
  · have H4 := H2 c1
    refine Wp.aload_n 0 0 d_Group_learnFiller_43 rfl rfl ?_
    refine Wp.getP 41 d_Group_learnFiller_44 fl_Group_21 rfl rfl rfl ?_
    refine Wp.aload_n 0 0 d_Group_learnFiller_47 rfl rfl ?_
    refine Wp.getP 40 d_Group_learnFiller_48 fl_Group_15 rfl rfl rfl ?_
    obtain ⟨e6, P7, hd8, ho9, H10⟩ := H4
    refine Wq.VV (st := []) [.inr (.inr 40)] d_Group_learnFiller_51 k_Sand_take ml_Group_80 rfl rfl rfl (fun h => by cases h) (Nat.le_of_ble_eq_true rfl) hd8 ho9 (fun m13 hp14 hw16 => ?_)
    have H11 := H10 m13 hp14 hw16
    refine Wp.aload_n 0 0 d_Group_learnFiller_54 rfl rfl ?_
    refine Wp.getP 41 d_Group_learnFiller_55 fl_Group_21 rfl rfl rfl ?_
    refine Wp.aload_n 1 1 d_Group_learnFiller_58 rfl rfl ?_
    obtain ⟨e17, P18, hd19, ho20, H21⟩ := H11
    refine Wq.VV (st := []) [.inr (.inr b1_)] d_Group_learnFiller_59 k_Sand_calm ml_Group_84 rfl rfl rfl (fun h => by cases h) (Nat.le_of_ble_eq_true rfl) hd19 ho20 (fun m24 hp25 hw27 => ?_)
    have H22 := H21 m24 hp25 hw27
    refine Wp.iconst d_Group_learnFiller_62 (by decide) ?_
    refine Wp.istore_n 2 [(0, .inr (.inr 38)), (1, .inr (.inr b1_)), (2, .inl 0)] d_Group_learnFiller_63 rfl (by decide) rfl ?_
    refine Wp.pick [0, 2] [(0, .inr (.inr 38)), (2, .inl 0)] rfl ?_
    exact H22
  · have H5 := H3 c1
    refine Wp.aload_n 0 0 d_Group_learnFiller_7 rfl rfl ?_
    refine Wp.getP 40 d_Group_learnFiller_8 fl_Group_15 rfl rfl rfl ?_
    refine Wp.iload_n 2 2 d_Group_learnFiller_11 rfl rfl ?_
    refine Wp.iload_n 2 2 d_Group_learnFiller_12 rfl rfl ?_
    refine Wp.aload_n 1 1 d_Group_learnFiller_13 rfl rfl ?_
    refine Wq.getI 0 rfl d_Group_learnFiller_14 fl_Group_32 (isB_lay hB1_) (Or.inl rfl) ?_
    obtain ⟨H29, H30⟩ := H5
    refine Wp.icmp_ge 35 d_Group_learnFiller_17 (by decide) (fun c28 => ?_) (fun c28 => ?_)
    · have H31 := H29 c28
      refine Wp.iconst d_Group_learnFiller_35 (by decide) ?_
      obtain ⟨s40, H41⟩ := H31
      refine Wq.iast d_Group_learnFiller_36 rfl s40.1 s40.2 (fun m33 hm34 => ?_)
      have H35 := H41 m33 hm34
      obtain ⟨s38, H39⟩ := H35
      refine Wp.iinc 2 2 [(0, .inr (.inr 38)), (1, .inr (.inr b1_)), (2, .inl (x2 + 1))] d_Group_learnFiller_37 rfl s38 (by decide) rfl ?_
      refine Wp.goto 2 d_Group_learnFiller_40 (by decide) ?_
      exact H39
    · have H32 := H30 c28
      refine Wp.iconst d_Group_learnFiller_20 (by decide) ?_
      refine Wp.aload_n 1 1 d_Group_learnFiller_21 rfl rfl ?_
      refine Wp.getP (b1_ + 4) d_Group_learnFiller_22 fl_Group_62 (isB_lay hB1_) rfl (isB_p8 hB1_) ?_
      refine Wp.iload_n 2 2 d_Group_learnFiller_25 rfl rfl ?_
      obtain ⟨s42, H43⟩ := H32
      refine Wp.iald d_Group_learnFiller_26 (isB_l8 hB1_) (Or.inl rfl) s42.1 s42.2 ?_
      refine Wp.iconst d_Group_learnFiller_27 (by decide) ?_
      obtain ⟨s44, H45⟩ := H43
      refine Wp.isub d_Group_learnFiller_28 s44 ?_
      obtain ⟨s46, H47⟩ := H45
      refine Wp.imul d_Group_learnFiller_29 s46 ?_
      refine Wp.iconst d_Group_learnFiller_30 (by decide) ?_
      obtain ⟨s48, H49⟩ := H47
      refine Wp.iadd d_Group_learnFiller_31 s48 ?_
      refine Wp.goto 36 d_Group_learnFiller_32 (by decide) ?_
      obtain ⟨s57, H58⟩ := H49
      refine Wq.iast d_Group_learnFiller_36 rfl s57.1 s57.2 (fun m50 hm51 => ?_)
      have H52 := H58 m50 hm51
      obtain ⟨s55, H56⟩ := H52
      refine Wp.iinc 2 2 [(0, .inr (.inr 38)), (1, .inr (.inr b1_)), (2, .inl (x2 + 1))] d_Group_learnFiller_37 rfl s55 (by decide) rfl ?_
      refine Wp.goto 2 d_Group_learnFiller_40 (by decide) ?_
      exact H56
theorem s_Group_learnFiller_64 {l : Launch} {G : GT} {d : Nat} {P : MM → Prop} {m : MM} (x2 : Int)  (H : wfM m → inR x2 → (x2 ≥ 5 → (P m)) ∧ (¬ (x2 ≥ 5) → ((0 ≤ x2 ∧ x2 < (5 : Int)) ∧ ((0 ≤ x2 ∧ x2 < (5 : Int)) ∧ ((inR ((m 40 x2) - (m 42 x2))) ∧ ((0 ≤ x2 ∧ x2 < (5 : Int)) ∧ (∀ m12, m12 = up m 40 x2 ((m 40 x2) - (m 42 x2)) → ((inR (x2 + 1)) ∧ (Wq l G false Y_Group_learnFiller d (QV P) 64 [(0, .inr (.inr 38)), (2, .inl (x2 + 1))] [] m12))))))))) : Wq l G false Y_Group_learnFiller d (QV P) 64 [(0, .inr (.inr 38)), (2, .inl x2)] [] m := by
  refine Wp.wf (fun hw _ hl hs => ?_)
  have H0 := H hw (hl _ (List.mem_of_getElem? (i := 1) rfl))
  refine Wp.iload_n 1 2 d_Group_learnFiller_64 rfl rfl ?_
  refine Wp.iconst d_Group_learnFiller_65 (by decide) ?_
  obtain ⟨H2, H3⟩ := H0
  refine Wp.icmp_ge 93 d_Group_learnFiller_66 (by decide) (fun c1 => ?_) (fun c1 => ?_)
  · have H4 := H2 c1
    exact Wq.vret d_Group_learnFiller_93 rfl H4
  · have H5 := H3 c1
    refine Wp.aload_n 0 0 d_Group_learnFiller_69 rfl rfl ?_
    refine Wp.getP 40 d_Group_learnFiller_70 fl_Group_15 rfl rfl rfl ?_
    refine Wp.iload_n 1 2 d_Group_learnFiller_73 rfl rfl ?_
    refine Wp.dup2 d_Group_learnFiller_74 rfl rfl ?_
    obtain ⟨s6, H7⟩ := H5
    refine Wp.iald d_Group_learnFiller_75 rfl (Or.inl rfl) s6.1 s6.2 ?_
    refine Wp.aload_n 0 0 d_Group_learnFiller_76 rfl rfl ?_
    refine Wp.getP 41 d_Group_learnFiller_77 fl_Group_21 rfl rfl rfl ?_
    refine Wp.getP 42 d_Group_learnFiller_80 fl_Group_87 rfl rfl rfl ?_
    refine Wp.iload_n 1 2 d_Group_learnFiller_83 rfl rfl ?_
    obtain ⟨s8, H9⟩ := H7
    refine Wp.iald d_Group_learnFiller_84 rfl (Or.inl rfl) s8.1 s8.2 ?_
    obtain ⟨s10, H11⟩ := H9
    refine Wp.isub d_Group_learnFiller_85 s10 ?_
    obtain ⟨s19, H20⟩ := H11
    refine Wq.iast d_Group_learnFiller_86 rfl s19.1 s19.2 (fun m12 hm13 => ?_)
    have H14 := H20 m12 hm13
    obtain ⟨s17, H18⟩ := H14
    refine Wp.iinc 1 2 [(0, .inr (.inr 38)), (2, .inl (x2 + 1))] d_Group_learnFiller_87 rfl s17 (by decide) rfl ?_
    refine Wp.goto 64 d_Group_learnFiller_90 (by decide) ?_
    exact H18
theorem d_Group_toOwn_0 : decode Y_Group_toOwn.2.1 0 = .ok (.aload_n 0, 1) := by decide +kernel
theorem d_Group_toOwn_1 : decode Y_Group_toOwn.2.1 1 = .ok (.getfield 21, 3) := by decide +kernel
theorem d_Group_toOwn_4 : decode Y_Group_toOwn.2.1 4 = .ok (.aload_n 2, 1) := by decide +kernel
theorem d_Group_toOwn_5 : decode Y_Group_toOwn.2.1 5 = .ok (.invokevirtual 80, 3) := by decide +kernel
theorem d_Group_toOwn_8 : decode Y_Group_toOwn.2.1 8 = .ok (.iconst 0, 1) := by decide +kernel
theorem d_Group_toOwn_9 : decode Y_Group_toOwn.2.1 9 = .ok (.istore_n 3, 1) := by decide +kernel
theorem d_Group_toOwn_10 : decode Y_Group_toOwn.2.1 10 = .ok (.iload_n 3, 1) := by decide +kernel
theorem d_Group_toOwn_11 : decode Y_Group_toOwn.2.1 11 = .ok (.aload_n 1, 1) := by decide +kernel
theorem d_Group_toOwn_12 : decode Y_Group_toOwn.2.1 12 = .ok (.getfield 32, 3) := by decide +kernel
theorem d_Group_toOwn_15 : decode Y_Group_toOwn.2.1 15 = .ok (.if_icmp .ge 23, 3) := by decide +kernel
theorem d_Group_toOwn_18 : decode Y_Group_toOwn.2.1 18 = .ok (.aload_n 0, 1) := by decide +kernel
theorem d_Group_toOwn_19 : decode Y_Group_toOwn.2.1 19 = .ok (.getfield 21, 3) := by decide +kernel
theorem d_Group_toOwn_22 : decode Y_Group_toOwn.2.1 22 = .ok (.iload_n 3, 1) := by decide +kernel
theorem d_Group_toOwn_23 : decode Y_Group_toOwn.2.1 23 = .ok (.aload_n 0, 1) := by decide +kernel
theorem d_Group_toOwn_24 : decode Y_Group_toOwn.2.1 24 = .ok (.getfield 15, 3) := by decide +kernel
theorem d_Group_toOwn_27 : decode Y_Group_toOwn.2.1 27 = .ok (.iload_n 3, 1) := by decide +kernel
theorem d_Group_toOwn_28 : decode Y_Group_toOwn.2.1 28 = .ok (.iaload, 1) := by decide +kernel
theorem d_Group_toOwn_29 : decode Y_Group_toOwn.2.1 29 = .ok (.invokevirtual 94, 3) := by decide +kernel
theorem d_Group_toOwn_32 : decode Y_Group_toOwn.2.1 32 = .ok (.iinc 3 1, 3) := by decide +kernel
theorem d_Group_toOwn_35 : decode Y_Group_toOwn.2.1 35 = .ok (.goto (-25), 3) := by decide +kernel
theorem d_Group_toOwn_38 : decode Y_Group_toOwn.2.1 38 = .ok (.aload_n 0, 1) := by decide +kernel
theorem d_Group_toOwn_39 : decode Y_Group_toOwn.2.1 39 = .ok (.getfield 21, 3) := by decide +kernel
theorem d_Group_toOwn_42 : decode Y_Group_toOwn.2.1 42 = .ok (.aload_n 1, 1) := by decide +kernel
theorem d_Group_toOwn_43 : decode Y_Group_toOwn.2.1 43 = .ok (.invokevirtual 84, 3) := by decide +kernel
theorem d_Group_toOwn_46 : decode Y_Group_toOwn.2.1 46 = .ok (.iconst 0, 1) := by decide +kernel
theorem d_Group_toOwn_47 : decode Y_Group_toOwn.2.1 47 = .ok (.istore_n 3, 1) := by decide +kernel
theorem d_Group_toOwn_48 : decode Y_Group_toOwn.2.1 48 = .ok (.iload_n 3, 1) := by decide +kernel
theorem d_Group_toOwn_49 : decode Y_Group_toOwn.2.1 49 = .ok (.aload_n 1, 1) := by decide +kernel
theorem d_Group_toOwn_50 : decode Y_Group_toOwn.2.1 50 = .ok (.getfield 32, 3) := by decide +kernel
theorem d_Group_toOwn_53 : decode Y_Group_toOwn.2.1 53 = .ok (.if_icmp .ge 21, 3) := by decide +kernel
theorem d_Group_toOwn_56 : decode Y_Group_toOwn.2.1 56 = .ok (.aload_n 2, 1) := by decide +kernel
theorem d_Group_toOwn_57 : decode Y_Group_toOwn.2.1 57 = .ok (.iload_n 3, 1) := by decide +kernel
theorem d_Group_toOwn_58 : decode Y_Group_toOwn.2.1 58 = .ok (.aload_n 0, 1) := by decide +kernel
theorem d_Group_toOwn_59 : decode Y_Group_toOwn.2.1 59 = .ok (.getfield 21, 3) := by decide +kernel
theorem d_Group_toOwn_62 : decode Y_Group_toOwn.2.1 62 = .ok (.getfield 87, 3) := by decide +kernel
theorem d_Group_toOwn_65 : decode Y_Group_toOwn.2.1 65 = .ok (.iload_n 3, 1) := by decide +kernel
theorem d_Group_toOwn_66 : decode Y_Group_toOwn.2.1 66 = .ok (.iaload, 1) := by decide +kernel
theorem d_Group_toOwn_67 : decode Y_Group_toOwn.2.1 67 = .ok (.iastore, 1) := by decide +kernel
theorem d_Group_toOwn_68 : decode Y_Group_toOwn.2.1 68 = .ok (.iinc 3 1, 3) := by decide +kernel
theorem d_Group_toOwn_71 : decode Y_Group_toOwn.2.1 71 = .ok (.goto (-23), 3) := by decide +kernel
theorem d_Group_toOwn_74 : decode Y_Group_toOwn.2.1 74 = .ok (.return_, 1) := by decide +kernel
theorem e_Group_toOwn {l : Launch} {G : GT} {d : Nat} {P : MM → Prop} {m : MM} (b1_ : Nat) (h2 : Nat) (n2 : Nat) (hB1_ : isB b1_) (hl2 : q_lay h2 = .inr (0, n2)) (hlt_h2 : n2 < 2147483648) (H : wfM m → ∃ (e1 : Nat) (P2 : MM → Prop), e1 < d ∧ CV l G Y_Sand_take e1 [.inr (.inr 41), .inr (.inr h2)] m P2 ∧ (∀ m8, P2 m8 → wfM m8 → (Wq l G false Y_Group_toOwn d (QV P) 10 [(0, .inr (.inr 38)), (1, .inr (.inr b1_)), (2, .inr (.inr h2)), (3, .inl 0)] [] m8))) : CV l G Y_Group_toOwn d [.inr (.inr 38), .inr (.inr b1_), .inr (.inr h2)] m P := by
  refine CV.of [(0, .inr (.inr 38)), (1, .inr (.inr b1_)), (2, .inr (.inr h2))] k_Group_toOwn.1 (Nat.le_of_ble_eq_true rfl) rfl (Wp.wf (fun hw _ hl hs => ?_))
  have H0 := H hw
  refine Wp.aload_n 0 0 d_Group_toOwn_0 rfl rfl ?_
  refine Wp.getP 41 d_Group_toOwn_1 fl_Group_21 rfl rfl rfl ?_
  refine Wp.aload_n 2 2 d_Group_toOwn_4 rfl rfl ?_
  obtain ⟨e1, P2, hd3, ho4, H5⟩ := H0
  refine Wq.VV (st := []) [.inr (.inr h2)] d_Group_toOwn_5 k_Sand_take ml_Group_80 rfl rfl rfl (fun h => by cases h) (Nat.le_of_ble_eq_true rfl) hd3 ho4 (fun m8 hp9 hw11 => ?_)
  have H6 := H5 m8 hp9 hw11
  refine Wp.iconst d_Group_toOwn_8 (by decide) ?_
  refine Wp.istore_n 3 [(0, .inr (.inr 38)), (1, .inr (.inr b1_)), (2, .inr (.inr h2)), (3, .inl 0)] d_Group_toOwn_9 rfl (by decide) rfl ?_
  exact H6
theorem s_Group_toOwn_10 {l : Launch} {G : GT} {d : Nat} {P : MM → Prop} {m : MM} (x3 : Int) (b1_ : Nat) (h2 : Nat) (n2 : Nat) (hB1_ : isB b1_) (hl2 : q_lay h2 = .inr (0, n2)) (hlt_h2 : n2 < 2147483648) (H : wfM m → inR x3 → (x3 ≥ (m b1_ 0) → (∃ (e6 : Nat) (P7 : MM → Prop), e6 < d ∧ CV l G Y_Sand_calm e6 [.inr (.inr 41), .inr (.inr b1_)] m P7 ∧ (∀ m13, P7 m13 → wfM m13 → (Wq l G false Y_Group_toOwn d (QV P) 48 [(0, .inr (.inr 38)), (1, .inr (.inr b1_)), (2, .inr (.inr h2)), (3, .inl 0)] [] m13)))) ∧ (¬ (x3 ≥ (m b1_ 0)) → ((0 ≤ x3 ∧ x3 < (5 : Int)) ∧ (∃ (e19 : Nat) (P20 : MM → Prop), e19 < d ∧ CV l G Y_Sand_put e19 [.inr (.inr 41), .inl x3, .inl (m 40 x3)] m P20 ∧ (∀ m26, P20 m26 → wfM m26 → ((inR (x3 + 1)) ∧ (Wq l G false Y_Group_toOwn d (QV P) 10 [(0, .inr (.inr 38)), (1, .inr (.inr b1_)), (2, .inr (.inr h2)), (3, .inl (x3 + 1))] [] m26))))))) : Wq l G false Y_Group_toOwn d (QV P) 10 [(0, .inr (.inr 38)), (1, .inr (.inr b1_)), (2, .inr (.inr h2)), (3, .inl x3)] [] m := by
  refine Wp.wf (fun hw _ hl hs => ?_)
  have H0 := H hw (hl _ (List.mem_of_getElem? (i := 3) rfl))
  refine Wp.iload_n 3 3 d_Group_toOwn_10 rfl rfl ?_
  refine Wp.aload_n 1 1 d_Group_toOwn_11 rfl rfl ?_
  refine Wq.getI 0 rfl d_Group_toOwn_12 fl_Group_32 (isB_lay hB1_) (Or.inl rfl) ?_
  obtain ⟨H2, H3⟩ := H0
  refine Wp.icmp_ge 38 d_Group_toOwn_15 (by decide) (fun c1 => ?_) (fun c1 => ?_)
  · have H4 := H2 c1
    refine Wp.aload_n 0 0 d_Group_toOwn_38 rfl rfl ?_
    refine Wp.getP 41 d_Group_toOwn_39 fl_Group_21 rfl rfl rfl ?_
    refine Wp.aload_n 1 1 d_Group_toOwn_42 rfl rfl ?_
    obtain ⟨e6, P7, hd8, ho9, H10⟩ := H4
    refine Wq.VV (st := []) [.inr (.inr b1_)] d_Group_toOwn_43 k_Sand_calm ml_Group_84 rfl rfl rfl (fun h => by cases h) (Nat.le_of_ble_eq_true rfl) hd8 ho9 (fun m13 hp14 hw16 => ?_)
    have H11 := H10 m13 hp14 hw16
    refine Wp.iconst d_Group_toOwn_46 (by decide) ?_
    refine Wp.istore_n 3 [(0, .inr (.inr 38)), (1, .inr (.inr b1_)), (2, .inr (.inr h2)), (3, .inl 0)] d_Group_toOwn_47 rfl (by decide) rfl ?_
    exact H11
  · have H5 := H3 c1
    refine Wp.aload_n 0 0 d_Group_toOwn_18 rfl rfl ?_
    refine Wp.getP 41 d_Group_toOwn_19 fl_Group_21 rfl rfl rfl ?_
    refine Wp.iload_n 3 3 d_Group_toOwn_22 rfl rfl ?_
    refine Wp.aload_n 0 0 d_Group_toOwn_23 rfl rfl ?_
    refine Wp.getP 40 d_Group_toOwn_24 fl_Group_15 rfl rfl rfl ?_
    refine Wp.iload_n 3 3 d_Group_toOwn_27 rfl rfl ?_
    obtain ⟨s17, H18⟩ := H5
    refine Wp.iald d_Group_toOwn_28 rfl (Or.inl rfl) s17.1 s17.2 ?_
    obtain ⟨e19, P20, hd21, ho22, H23⟩ := H18
    refine Wq.VV (st := []) [.inl x3, .inl (m 40 x3)] d_Group_toOwn_29 k_Sand_put ml_Group_94 rfl rfl rfl (fun h => by cases h) (Nat.le_of_ble_eq_true rfl) hd21 ho22 (fun m26 hp27 hw29 => ?_)
    have H24 := H23 m26 hp27 hw29
    obtain ⟨s30, H31⟩ := H24
    refine Wp.iinc 3 3 [(0, .inr (.inr 38)), (1, .inr (.inr b1_)), (2, .inr (.inr h2)), (3, .inl (x3 + 1))] d_Group_toOwn_32 rfl s30 (by decide) rfl ?_
    refine Wp.goto 10 d_Group_toOwn_35 (by decide) ?_
    exact H31
theorem s_Group_toOwn_48 {l : Launch} {G : GT} {d : Nat} {P : MM → Prop} {m : MM} (x3 : Int) (b1_ : Nat) (h2 : Nat) (n2 : Nat) (hB1_ : isB b1_) (hl2 : q_lay h2 = .inr (0, n2)) (hlt_h2 : n2 < 2147483648) (H : wfM m → inR x3 → (x3 ≥ (m b1_ 0) → (P m)) ∧ (¬ (x3 ≥ (m b1_ 0)) → ((0 ≤ x3 ∧ x3 < (5 : Int)) ∧ ((0 ≤ x3 ∧ x3 < (n2 : Int)) ∧ (∀ m8, m8 = up m h2 x3 (m 42 x3) → ((inR (x3 + 1)) ∧ (Wq l G false Y_Group_toOwn d (QV P) 48 [(0, .inr (.inr 38)), (1, .inr (.inr b1_)), (2, .inr (.inr h2)), (3, .inl (x3 + 1))] [] m8))))))) : Wq l G false Y_Group_toOwn d (QV P) 48 [(0, .inr (.inr 38)), (1, .inr (.inr b1_)), (2, .inr (.inr h2)), (3, .inl x3)] [] m := by
  refine Wp.wf (fun hw _ hl hs => ?_)
  have H0 := H hw (hl _ (List.mem_of_getElem? (i := 3) rfl))
  refine Wp.iload_n 3 3 d_Group_toOwn_48 rfl rfl ?_
  refine Wp.aload_n 1 1 d_Group_toOwn_49 rfl rfl ?_
  refine Wq.getI 0 rfl d_Group_toOwn_50 fl_Group_32 (isB_lay hB1_) (Or.inl rfl) ?_
  obtain ⟨H2, H3⟩ := H0
  refine Wp.icmp_ge 74 d_Group_toOwn_53 (by decide) (fun c1 => ?_) (fun c1 => ?_)
  · have H4 := H2 c1
    exact Wq.vret d_Group_toOwn_74 rfl H4
  · have H5 := H3 c1
    refine Wp.aload_n 2 2 d_Group_toOwn_56 rfl rfl ?_
    refine Wp.iload_n 3 3 d_Group_toOwn_57 rfl rfl ?_
    refine Wp.aload_n 0 0 d_Group_toOwn_58 rfl rfl ?_
    refine Wp.getP 41 d_Group_toOwn_59 fl_Group_21 rfl rfl rfl ?_
    refine Wp.getP 42 d_Group_toOwn_62 fl_Group_87 rfl rfl rfl ?_
    refine Wp.iload_n 3 3 d_Group_toOwn_65 rfl rfl ?_
    obtain ⟨s6, H7⟩ := H5
    refine Wp.iald d_Group_toOwn_66 rfl (Or.inl rfl) s6.1 s6.2 ?_
    obtain ⟨s15, H16⟩ := H7
    refine Wq.iast d_Group_toOwn_67 hl2 s15.1 s15.2 (fun m8 hm9 => ?_)
    have H10 := H16 m8 hm9
    obtain ⟨s13, H14⟩ := H10
    refine Wp.iinc 3 3 [(0, .inr (.inr 38)), (1, .inr (.inr b1_)), (2, .inr (.inr h2)), (3, .inl (x3 + 1))] d_Group_toOwn_68 rfl s13 (by decide) rfl ?_
    refine Wp.goto 48 d_Group_toOwn_71 (by decide) ?_
    exact H14
theorem d_Group_toBare_0 : decode Y_Group_toBare.2.1 0 = .ok (.aload_n 0, 1) := by decide +kernel
theorem d_Group_toBare_1 : decode Y_Group_toBare.2.1 1 = .ok (.aload_n 1, 1) := by decide +kernel
theorem d_Group_toBare_2 : decode Y_Group_toBare.2.1 2 = .ok (.aload_n 2, 1) := by decide +kernel
theorem d_Group_toBare_3 : decode Y_Group_toBare.2.1 3 = .ok (.invokevirtual 98, 3) := by decide +kernel
theorem d_Group_toBare_6 : decode Y_Group_toBare.2.1 6 = .ok (.aload_n 1, 1) := by decide +kernel
theorem d_Group_toBare_7 : decode Y_Group_toBare.2.1 7 = .ok (.aload_n 2, 1) := by decide +kernel
theorem d_Group_toBare_8 : decode Y_Group_toBare.2.1 8 = .ok (.invokestatic 102, 3) := by decide +kernel
theorem d_Group_toBare_11 : decode Y_Group_toBare.2.1 11 = .ok (.aload_n 0, 1) := by decide +kernel
theorem d_Group_toBare_12 : decode Y_Group_toBare.2.1 12 = .ok (.aload_n 1, 1) := by decide +kernel
theorem d_Group_toBare_13 : decode Y_Group_toBare.2.1 13 = .ok (.aload_n 2, 1) := by decide +kernel
theorem d_Group_toBare_14 : decode Y_Group_toBare.2.1 14 = .ok (.invokevirtual 98, 3) := by decide +kernel
theorem d_Group_toBare_17 : decode Y_Group_toBare.2.1 17 = .ok (.aload_n 1, 1) := by decide +kernel
theorem d_Group_toBare_18 : decode Y_Group_toBare.2.1 18 = .ok (.aload_n 2, 1) := by decide +kernel
theorem d_Group_toBare_19 : decode Y_Group_toBare.2.1 19 = .ok (.invokestatic 102, 3) := by decide +kernel
theorem d_Group_toBare_22 : decode Y_Group_toBare.2.1 22 = .ok (.return_, 1) := by decide +kernel
theorem e_Group_toBare {l : Launch} {G : GT} {d : Nat} {P : MM → Prop} {m : MM} (b1_ : Nat) (h2 : Nat) (n2 : Nat) (hB1_ : isB b1_) (hl2 : q_lay h2 = .inr (0, n2)) (hlt_h2 : n2 < 2147483648) (H : wfM m → ∃ (e1 : Nat) (P2 : MM → Prop), e1 < d ∧ CV l G Y_Group_toOwn e1 [.inr (.inr 38), .inr (.inr b1_), .inr (.inr h2)] m P2 ∧ (∀ m8, P2 m8 → wfM m8 → (∃ (e12 : Nat) (P13 : MM → Prop), e12 < d ∧ CV l G Y_Group_turnOver e12 [.inr (.inr b1_), .inr (.inr h2)] m8 P13 ∧ (∀ m19, P13 m19 → wfM m19 → (∃ (e23 : Nat) (P24 : MM → Prop), e23 < d ∧ CV l G Y_Group_toOwn e23 [.inr (.inr 38), .inr (.inr b1_), .inr (.inr h2)] m19 P24 ∧ (∀ m30, P24 m30 → wfM m30 → (∃ (e34 : Nat) (P35 : MM → Prop), e34 < d ∧ CV l G Y_Group_turnOver e34 [.inr (.inr b1_), .inr (.inr h2)] m30 P35 ∧ (∀ m41, P35 m41 → wfM m41 → (P m41))))))))) : CV l G Y_Group_toBare d [.inr (.inr 38), .inr (.inr b1_), .inr (.inr h2)] m P := by
  refine CV.of [(0, .inr (.inr 38)), (1, .inr (.inr b1_)), (2, .inr (.inr h2))] k_Group_toBare.1 (Nat.le_of_ble_eq_true rfl) rfl (Wp.wf (fun hw _ hl hs => ?_))
  have H0 := H hw
  refine Wp.aload_n 0 0 d_Group_toBare_0 rfl rfl ?_
  refine Wp.aload_n 1 1 d_Group_toBare_1 rfl rfl ?_
  refine Wp.aload_n 2 2 d_Group_toBare_2 rfl rfl ?_
  obtain ⟨e1, P2, hd3, ho4, H5⟩ := H0
  refine Wq.VV (st := []) [.inr (.inr b1_), .inr (.inr h2)] d_Group_toBare_3 k_Group_toOwn ml_Group_98 rfl rfl rfl (fun h => by cases h) (Nat.le_of_ble_eq_true rfl) hd3 ho4 (fun m8 hp9 hw11 => ?_)
  have H6 := H5 m8 hp9 hw11
  refine Wp.aload_n 1 1 d_Group_toBare_6 rfl rfl ?_
  refine Wp.aload_n 2 2 d_Group_toBare_7 rfl rfl ?_
  obtain ⟨e12, P13, hd14, ho15, H16⟩ := H6
  refine Wq.SV (st := []) [.inr (.inr b1_), .inr (.inr h2)] d_Group_toBare_8 k_Group_turnOver ml_Group_102 rfl  (fun h => by cases h) (Nat.le_of_ble_eq_true rfl) hd14 ho15 (fun m19 hp20 hw22 => ?_)
  have H17 := H16 m19 hp20 hw22
  refine Wp.aload_n 0 0 d_Group_toBare_11 rfl rfl ?_
  refine Wp.aload_n 1 1 d_Group_toBare_12 rfl rfl ?_
  refine Wp.aload_n 2 2 d_Group_toBare_13 rfl rfl ?_
  obtain ⟨e23, P24, hd25, ho26, H27⟩ := H17
  refine Wq.VV (st := []) [.inr (.inr b1_), .inr (.inr h2)] d_Group_toBare_14 k_Group_toOwn ml_Group_98 rfl rfl rfl (fun h => by cases h) (Nat.le_of_ble_eq_true rfl) hd25 ho26 (fun m30 hp31 hw33 => ?_)
  have H28 := H27 m30 hp31 hw33
  refine Wp.aload_n 1 1 d_Group_toBare_17 rfl rfl ?_
  refine Wp.aload_n 2 2 d_Group_toBare_18 rfl rfl ?_
  obtain ⟨e34, P35, hd36, ho37, H38⟩ := H28
  refine Wq.SV (st := []) [.inr (.inr b1_), .inr (.inr h2)] d_Group_toBare_19 k_Group_turnOver ml_Group_102 rfl  (fun h => by cases h) (Nat.le_of_ble_eq_true rfl) hd36 ho37 (fun m41 hp42 hw44 => ?_)
  have H39 := H38 m41 hp42 hw44
  exact Wq.vret d_Group_toBare_22 rfl H39
theorem d_Group_turnOver_0 : decode Y_Group_turnOver.2.1 0 = .ok (.iconst 0, 1) := by decide +kernel
theorem d_Group_turnOver_1 : decode Y_Group_turnOver.2.1 1 = .ok (.istore_n 2, 1) := by decide +kernel
theorem d_Group_turnOver_2 : decode Y_Group_turnOver.2.1 2 = .ok (.iload_n 2, 1) := by decide +kernel
theorem d_Group_turnOver_3 : decode Y_Group_turnOver.2.1 3 = .ok (.aload_n 0, 1) := by decide +kernel
theorem d_Group_turnOver_4 : decode Y_Group_turnOver.2.1 4 = .ok (.getfield 32, 3) := by decide +kernel
theorem d_Group_turnOver_7 : decode Y_Group_turnOver.2.1 7 = .ok (.if_icmp .ge 24, 3) := by decide +kernel
theorem d_Group_turnOver_10 : decode Y_Group_turnOver.2.1 10 = .ok (.aload_n 1, 1) := by decide +kernel
theorem d_Group_turnOver_11 : decode Y_Group_turnOver.2.1 11 = .ok (.iload_n 2, 1) := by decide +kernel
theorem d_Group_turnOver_12 : decode Y_Group_turnOver.2.1 12 = .ok (.aload_n 0, 1) := by decide +kernel
theorem d_Group_turnOver_13 : decode Y_Group_turnOver.2.1 13 = .ok (.getfield 62, 3) := by decide +kernel
theorem d_Group_turnOver_16 : decode Y_Group_turnOver.2.1 16 = .ok (.iload_n 2, 1) := by decide +kernel
theorem d_Group_turnOver_17 : decode Y_Group_turnOver.2.1 17 = .ok (.iaload, 1) := by decide +kernel
theorem d_Group_turnOver_18 : decode Y_Group_turnOver.2.1 18 = .ok (.iconst 1, 1) := by decide +kernel
theorem d_Group_turnOver_19 : decode Y_Group_turnOver.2.1 19 = .ok (.isub, 1) := by decide +kernel
theorem d_Group_turnOver_20 : decode Y_Group_turnOver.2.1 20 = .ok (.aload_n 1, 1) := by decide +kernel
theorem d_Group_turnOver_21 : decode Y_Group_turnOver.2.1 21 = .ok (.iload_n 2, 1) := by decide +kernel
theorem d_Group_turnOver_22 : decode Y_Group_turnOver.2.1 22 = .ok (.iaload, 1) := by decide +kernel
theorem d_Group_turnOver_23 : decode Y_Group_turnOver.2.1 23 = .ok (.isub, 1) := by decide +kernel
theorem d_Group_turnOver_24 : decode Y_Group_turnOver.2.1 24 = .ok (.iastore, 1) := by decide +kernel
theorem d_Group_turnOver_25 : decode Y_Group_turnOver.2.1 25 = .ok (.iinc 2 1, 3) := by decide +kernel
theorem d_Group_turnOver_28 : decode Y_Group_turnOver.2.1 28 = .ok (.goto (-26), 3) := by decide +kernel
theorem d_Group_turnOver_31 : decode Y_Group_turnOver.2.1 31 = .ok (.return_, 1) := by decide +kernel
theorem e_Group_turnOver {l : Launch} {G : GT} {d : Nat} {P : MM → Prop} {m : MM} (b0_ : Nat) (h1 : Nat) (n1 : Nat) (hB0_ : isB b0_) (hl1 : q_lay h1 = .inr (0, n1)) (hlt_h1 : n1 < 2147483648) (H : wfM m → Wq l G false Y_Group_turnOver d (QV P) 2 [(0, .inr (.inr b0_)), (1, .inr (.inr h1)), (2, .inl 0)] [] m) : CV l G Y_Group_turnOver d [.inr (.inr b0_), .inr (.inr h1)] m P := by
  refine CV.of [(0, .inr (.inr b0_)), (1, .inr (.inr h1))] k_Group_turnOver.1 (Nat.le_of_ble_eq_true rfl) rfl (Wp.wf (fun hw _ hl hs => ?_))
  have H0 := H hw
  refine Wp.iconst d_Group_turnOver_0 (by decide) ?_
  refine Wp.istore_n 2 [(0, .inr (.inr b0_)), (1, .inr (.inr h1)), (2, .inl 0)] d_Group_turnOver_1 rfl (by decide) rfl ?_
  exact H0
theorem s_Group_turnOver_2 {l : Launch} {G : GT} {d : Nat} {P : MM → Prop} {m : MM} (x2 : Int) (b0_ : Nat) (h1 : Nat) (n1 : Nat) (hB0_ : isB b0_) (hl1 : q_lay h1 = .inr (0, n1)) (hlt_h1 : n1 < 2147483648) (H : wfM m → inR x2 → (x2 ≥ (m b0_ 0) → (P m)) ∧ (¬ (x2 ≥ (m b0_ 0)) → ((0 ≤ x2 ∧ x2 < (5 : Int)) ∧ ((inR ((m (b0_ + 4) x2) - 1)) ∧ ((0 ≤ x2 ∧ x2 < (n1 : Int)) ∧ ((inR (((m (b0_ + 4) x2) - 1) - (m h1 x2))) ∧ ((0 ≤ x2 ∧ x2 < (n1 : Int)) ∧ (∀ m14, m14 = up m h1 x2 (((m (b0_ + 4) x2) - 1) - (m h1 x2)) → ((inR (x2 + 1)) ∧ (Wq l G false Y_Group_turnOver d (QV P) 2 [(0, .inr (.inr b0_)), (1, .inr (.inr h1)), (2, .inl (x2 + 1))] [] m14)))))))))) : Wq l G false Y_Group_turnOver d (QV P) 2 [(0, .inr (.inr b0_)), (1, .inr (.inr h1)), (2, .inl x2)] [] m := by
  refine Wp.wf (fun hw _ hl hs => ?_)
  have H0 := H hw (hl _ (List.mem_of_getElem? (i := 2) rfl))
  refine Wp.iload_n 2 2 d_Group_turnOver_2 rfl rfl ?_
  refine Wp.aload_n 0 0 d_Group_turnOver_3 rfl rfl ?_
  refine Wq.getI 0 rfl d_Group_turnOver_4 fl_Group_32 (isB_lay hB0_) (Or.inl rfl) ?_
  obtain ⟨H2, H3⟩ := H0
  refine Wp.icmp_ge 31 d_Group_turnOver_7 (by decide) (fun c1 => ?_) (fun c1 => ?_)
  · have H4 := H2 c1
    exact Wq.vret d_Group_turnOver_31 rfl H4
  · have H5 := H3 c1
    refine Wp.aload_n 1 1 d_Group_turnOver_10 rfl rfl ?_
    refine Wp.iload_n 2 2 d_Group_turnOver_11 rfl rfl ?_
    refine Wp.aload_n 0 0 d_Group_turnOver_12 rfl rfl ?_
    refine Wp.getP (b0_ + 4) d_Group_turnOver_13 fl_Group_62 (isB_lay hB0_) rfl (isB_p8 hB0_) ?_
    refine Wp.iload_n 2 2 d_Group_turnOver_16 rfl rfl ?_
    obtain ⟨s6, H7⟩ := H5
    refine Wp.iald d_Group_turnOver_17 (isB_l8 hB0_) (Or.inl rfl) s6.1 s6.2 ?_
    refine Wp.iconst d_Group_turnOver_18 (by decide) ?_
    obtain ⟨s8, H9⟩ := H7
    refine Wp.isub d_Group_turnOver_19 s8 ?_
    refine Wp.aload_n 1 1 d_Group_turnOver_20 rfl rfl ?_
    refine Wp.iload_n 2 2 d_Group_turnOver_21 rfl rfl ?_
    obtain ⟨s10, H11⟩ := H9
    refine Wp.iald d_Group_turnOver_22 hl1 (Or.inl rfl) s10.1 s10.2 ?_
    obtain ⟨s12, H13⟩ := H11
    refine Wp.isub d_Group_turnOver_23 s12 ?_
    obtain ⟨s21, H22⟩ := H13
    refine Wq.iast d_Group_turnOver_24 hl1 s21.1 s21.2 (fun m14 hm15 => ?_)
    have H16 := H22 m14 hm15
    obtain ⟨s19, H20⟩ := H16
    refine Wp.iinc 2 2 [(0, .inr (.inr b0_)), (1, .inr (.inr h1)), (2, .inl (x2 + 1))] d_Group_turnOver_25 rfl s19 (by decide) rfl ?_
    refine Wp.goto 2 d_Group_turnOver_28 (by decide) ?_
    exact H20
theorem d_Group_turns_0 : decode Y_Group_turns.2.1 0 = .ok (.aload_n 0, 1) := by decide +kernel
theorem d_Group_turns_1 : decode Y_Group_turns.2.1 1 = .ok (.getfield 28, 3) := by decide +kernel
theorem d_Group_turns_4 : decode Y_Group_turns.2.1 4 = .ok (.lstore_n 3, 1) := by decide +kernel
theorem d_Group_turns_5 : decode Y_Group_turns.2.1 5 = .ok (.iconst 0, 1) := by decide +kernel
theorem d_Group_turns_6 : decode Y_Group_turns.2.1 6 = .ok (.istore 5, 2) := by decide +kernel
theorem d_Group_turns_8 : decode Y_Group_turns.2.1 8 = .ok (.iload 5, 2) := by decide +kernel
theorem d_Group_turns_10 : decode Y_Group_turns.2.1 10 = .ok (.aload_n 1, 1) := by decide +kernel
theorem d_Group_turns_11 : decode Y_Group_turns.2.1 11 = .ok (.getfield 32, 3) := by decide +kernel
theorem d_Group_turns_14 : decode Y_Group_turns.2.1 14 = .ok (.if_icmp .ge 56, 3) := by decide +kernel
theorem d_Group_turns_17 : decode Y_Group_turns.2.1 17 = .ok (.lconst 0, 1) := by decide +kernel
theorem d_Group_turns_18 : decode Y_Group_turns.2.1 18 = .ok (.lstore 6, 2) := by decide +kernel
theorem d_Group_turns_20 : decode Y_Group_turns.2.1 20 = .ok (.iconst 0, 1) := by decide +kernel
theorem d_Group_turns_21 : decode Y_Group_turns.2.1 21 = .ok (.istore 8, 2) := by decide +kernel
theorem d_Group_turns_23 : decode Y_Group_turns.2.1 23 = .ok (.iload 8, 2) := by decide +kernel
theorem d_Group_turns_25 : decode Y_Group_turns.2.1 25 = .ok (.aload_n 1, 1) := by decide +kernel
theorem d_Group_turns_26 : decode Y_Group_turns.2.1 26 = .ok (.getfield 32, 3) := by decide +kernel
theorem d_Group_turns_29 : decode Y_Group_turns.2.1 29 = .ok (.if_icmp .ge 28, 3) := by decide +kernel
theorem d_Group_turns_32 : decode Y_Group_turns.2.1 32 = .ok (.lload 6, 2) := by decide +kernel
theorem d_Group_turns_34 : decode Y_Group_turns.2.1 34 = .ok (.aload_n 0, 1) := by decide +kernel
theorem d_Group_turns_35 : decode Y_Group_turns.2.1 35 = .ok (.iload 5, 2) := by decide +kernel
theorem d_Group_turns_37 : decode Y_Group_turns.2.1 37 = .ok (.iload 8, 2) := by decide +kernel
theorem d_Group_turns_39 : decode Y_Group_turns.2.1 39 = .ok (.invokevirtual 90, 3) := by decide +kernel
theorem d_Group_turns_42 : decode Y_Group_turns.2.1 42 = .ok (.aload_n 2, 1) := by decide +kernel
theorem d_Group_turns_43 : decode Y_Group_turns.2.1 43 = .ok (.iload 8, 2) := by decide +kernel
theorem d_Group_turns_45 : decode Y_Group_turns.2.1 45 = .ok (.iaload, 1) := by decide +kernel
theorem d_Group_turns_46 : decode Y_Group_turns.2.1 46 = .ok (.i2l, 1) := by decide +kernel
theorem d_Group_turns_47 : decode Y_Group_turns.2.1 47 = .ok (.lmul, 1) := by decide +kernel
theorem d_Group_turns_48 : decode Y_Group_turns.2.1 48 = .ok (.ladd, 1) := by decide +kernel
theorem d_Group_turns_49 : decode Y_Group_turns.2.1 49 = .ok (.lstore 6, 2) := by decide +kernel
theorem d_Group_turns_51 : decode Y_Group_turns.2.1 51 = .ok (.iinc 8 1, 3) := by decide +kernel
theorem d_Group_turns_54 : decode Y_Group_turns.2.1 54 = .ok (.goto (-31), 3) := by decide +kernel
theorem d_Group_turns_57 : decode Y_Group_turns.2.1 57 = .ok (.lload_n 3, 1) := by decide +kernel
theorem d_Group_turns_58 : decode Y_Group_turns.2.1 58 = .ok (.lload 6, 2) := by decide +kernel
theorem d_Group_turns_60 : decode Y_Group_turns.2.1 60 = .ok (.invokestatic 76, 3) := by decide +kernel
theorem d_Group_turns_63 : decode Y_Group_turns.2.1 63 = .ok (.lstore_n 3, 1) := by decide +kernel
theorem d_Group_turns_64 : decode Y_Group_turns.2.1 64 = .ok (.iinc 5 1, 3) := by decide +kernel
theorem d_Group_turns_67 : decode Y_Group_turns.2.1 67 = .ok (.goto (-59), 3) := by decide +kernel
theorem d_Group_turns_70 : decode Y_Group_turns.2.1 70 = .ok (.lload_n 3, 1) := by decide +kernel
theorem d_Group_turns_71 : decode Y_Group_turns.2.1 71 = .ok (.lconst 0, 1) := by decide +kernel
theorem d_Group_turns_72 : decode Y_Group_turns.2.1 72 = .ok (.lcmp, 1) := by decide +kernel
theorem d_Group_turns_73 : decode Y_Group_turns.2.1 73 = .ok (.ifCond .le 12, 3) := by decide +kernel
theorem d_Group_turns_76 : decode Y_Group_turns.2.1 76 = .ok (.aload_n 0, 1) := by decide +kernel
theorem d_Group_turns_77 : decode Y_Group_turns.2.1 77 = .ok (.getfield 28, 3) := by decide +kernel
theorem d_Group_turns_80 : decode Y_Group_turns.2.1 80 = .ok (.lload_n 3, 1) := by decide +kernel
theorem d_Group_turns_81 : decode Y_Group_turns.2.1 81 = .ok (.ldiv, 1) := by decide +kernel
theorem d_Group_turns_82 : decode Y_Group_turns.2.1 82 = .ok (.goto 4, 3) := by decide +kernel
theorem d_Group_turns_85 : decode Y_Group_turns.2.1 85 = .ok (.lconst 1, 1) := by decide +kernel
theorem d_Group_turns_86 : decode Y_Group_turns.2.1 86 = .ok (.lreturn, 1) := by decide +kernel
theorem e_Group_turns {l : Launch} {G : GT} {d : Nat} {P : Int → MM → Prop} {m : MM} (b1_ : Nat) (h2 : Nat) (n2 : Nat) (hB1_ : isB b1_) (hl2 : q_lay h2 = .inr (0, n2)) (hlt_h2 : n2 < 2147483648) (H : wfM m → Wq l G false Y_Group_turns d (QJ P) 8 [(0, .inr (.inr 38)), (1, .inr (.inr b1_)), (2, .inr (.inr h2)), (3, .inr (.inl (m 38 6))), (5, .inl 0)] [] m) : CJ l G Y_Group_turns d [.inr (.inr 38), .inr (.inr b1_), .inr (.inr h2)] m P := by
  refine CJ.of [(0, .inr (.inr 38)), (1, .inr (.inr b1_)), (2, .inr (.inr h2))] k_Group_turns.1 (Nat.le_of_ble_eq_true rfl) rfl (Wp.wf (fun hw _ hl hs => ?_))
  have H0 := H hw
  refine Wp.aload_n 0 0 d_Group_turns_0 rfl rfl ?_
  refine Wq.getL 6 rfl d_Group_turns_1 fl_Group_28 rfl rfl ?_
  refine Wp.lstore_n 3 [(0, .inr (.inr 38)), (1, .inr (.inr b1_)), (2, .inr (.inr h2)), (3, .inr (.inl (m 38 6)))] d_Group_turns_4 rfl (by decide) rfl ?_
  refine Wp.iconst d_Group_turns_5 (by decide) ?_
  refine Wp.istore 5 [(0, .inr (.inr 38)), (1, .inr (.inr b1_)), (2, .inr (.inr h2)), (3, .inr (.inl (m 38 6))), (5, .inl 0)] d_Group_turns_6 (by decide) rfl ?_
  exact H0
theorem s_Group_turns_8 {l : Launch} {G : GT} {d : Nat} {P : Int → MM → Prop} {m : MM} (x3 : Int) (x5 : Int) (b1_ : Nat) (h2 : Nat) (n2 : Nat) (hB1_ : isB b1_) (hl2 : q_lay h2 = .inr (0, n2)) (hlt_h2 : n2 < 2147483648) (H : wfM m → inL x3 → inR x5 → (x5 ≥ (m b1_ 0) → ((x3 ≤ 0 → (P 1 m)) ∧ (¬ (x3 ≤ 0) → ((x3 ≠ 0 ∧ inL (Int.tdiv (m 38 6) x3)) ∧ (P (Int.tdiv (m 38 6) x3) m))))) ∧ (¬ (x5 ≥ (m b1_ 0)) → (Wq l G false Y_Group_turns d (QJ P) 23 [(0, .inr (.inr 38)), (1, .inr (.inr b1_)), (2, .inr (.inr h2)), (3, .inr (.inl x3)), (5, .inl x5), (6, .inr (.inl 0)), (8, .inl 0)] [] m))) : Wq l G false Y_Group_turns d (QJ P) 8 [(0, .inr (.inr 38)), (1, .inr (.inr b1_)), (2, .inr (.inr h2)), (3, .inr (.inl x3)), (5, .inl x5)] [] m := by
  refine Wp.wf (fun hw _ hl hs => ?_)
  have H0 := H hw (hl _ (List.mem_of_getElem? (i := 3) rfl)) (hl _ (List.mem_of_getElem? (i := 4) rfl))
  refine Wp.iload 4 5 d_Group_turns_8 rfl ?_
  refine Wp.aload_n 1 1 d_Group_turns_10 rfl rfl ?_
  refine Wq.getI 0 rfl d_Group_turns_11 fl_Group_32 (isB_lay hB1_) (Or.inl rfl) ?_
  obtain ⟨H2, H3⟩ := H0
  refine Wp.icmp_ge 70 d_Group_turns_14 (by decide) (fun c1 => ?_) (fun c1 => ?_)
  · have H4 := H2 c1
    refine Wp.lload_n 3 3 d_Group_turns_70 rfl rfl ?_
    refine Wp.lconst (x := 0) d_Group_turns_71 (by decide) (by decide) ?_
    obtain ⟨H7, H8⟩ := H4
    refine Wq.lif_le 85 d_Group_turns_72 d_Group_turns_73 (by decide) (fun c6 => ?_) (fun c6 => ?_)
    · have H9 := H7 c6
      refine Wp.lconst (x := 1) d_Group_turns_85 (by decide) (by decide) ?_
      exact Wq.lret d_Group_turns_86 rfl H9
    · have H10 := H8 c6
      refine Wp.aload_n 0 0 d_Group_turns_76 rfl rfl ?_
      refine Wq.getL 6 rfl d_Group_turns_77 fl_Group_28 rfl rfl ?_
      refine Wp.lload_n 3 3 d_Group_turns_80 rfl rfl ?_
      obtain ⟨s11, H12⟩ := H10
      refine Wq.ldiv d_Group_turns_81 s11.1 s11.2 ?_
      refine Wp.goto 86 d_Group_turns_82 (by decide) ?_
      exact Wq.lret d_Group_turns_86 rfl H12
  · have H5 := H3 c1
    refine Wp.lconst (x := 0) d_Group_turns_17 (by decide) (by decide) ?_
    refine Wp.lstore 6 [(0, .inr (.inr 38)), (1, .inr (.inr b1_)), (2, .inr (.inr h2)), (3, .inr (.inl x3)), (5, .inl x5), (6, .inr (.inl 0))] d_Group_turns_18 (by decide) rfl ?_
    refine Wp.iconst d_Group_turns_20 (by decide) ?_
    refine Wp.istore 8 [(0, .inr (.inr 38)), (1, .inr (.inr b1_)), (2, .inr (.inr h2)), (3, .inr (.inl x3)), (5, .inl x5), (6, .inr (.inl 0)), (8, .inl 0)] d_Group_turns_21 (by decide) rfl ?_
    exact H5
theorem s_Group_turns_23 {l : Launch} {G : GT} {d : Nat} {P : Int → MM → Prop} {m : MM} (x3 : Int) (x5 : Int) (x6 : Int) (x8 : Int) (b1_ : Nat) (h2 : Nat) (n2 : Nat) (hB1_ : isB b1_) (hl2 : q_lay h2 = .inr (0, n2)) (hlt_h2 : n2 < 2147483648) (H : wfM m → inL x3 → inR x5 → inL x6 → inR x8 → (x8 ≥ (m b1_ 0) → (∃ (e6 : Nat) (P7 : Int → MM → Prop), e6 < d ∧ CJ l G Y_S_commonDivisor e6 [.inr (.inl x3), .inr (.inl x6)] m P7 ∧ (∀ z12 m13, P7 z12 m13 → inL z12 → wfM m13 → ((inR (x5 + 1)) ∧ (Wq l G false Y_Group_turns d (QJ P) 8 [(0, .inr (.inr 38)), (1, .inr (.inr b1_)), (2, .inr (.inr h2)), (3, .inr (.inl z12)), (5, .inl (x5 + 1))] [] m13))))) ∧ (¬ (x8 ≥ (m b1_ 0)) → (∃ (e19 : Nat) (P20 : Int → MM → Prop), e19 < d ∧ CJ l G Y_Group_cofactor e19 [.inr (.inr 38), .inl x5, .inl x8] m P20 ∧ (∀ z25 m26, P20 z25 m26 → inL z25 → wfM m26 → ((0 ≤ x8 ∧ x8 < (n2 : Int)) ∧ ((inL (z25 * (m26 h2 x8))) ∧ ((inL (x6 + (z25 * (m26 h2 x8)))) ∧ ((inR (x8 + 1)) ∧ (Wq l G false Y_Group_turns d (QJ P) 23 [(0, .inr (.inr 38)), (1, .inr (.inr b1_)), (2, .inr (.inr h2)), (3, .inr (.inl x3)), (5, .inl x5), (6, .inr (.inl (x6 + (z25 * (m26 h2 x8))))), (8, .inl (x8 + 1))] [] m26))))))))) : Wq l G false Y_Group_turns d (QJ P) 23 [(0, .inr (.inr 38)), (1, .inr (.inr b1_)), (2, .inr (.inr h2)), (3, .inr (.inl x3)), (5, .inl x5), (6, .inr (.inl x6)), (8, .inl x8)] [] m := by
  refine Wp.wf (fun hw _ hl hs => ?_)
  have H0 := H hw (hl _ (List.mem_of_getElem? (i := 3) rfl)) (hl _ (List.mem_of_getElem? (i := 4) rfl)) (hl _ (List.mem_of_getElem? (i := 5) rfl)) (hl _ (List.mem_of_getElem? (i := 6) rfl))
  refine Wp.iload 6 8 d_Group_turns_23 rfl ?_
  refine Wp.aload_n 1 1 d_Group_turns_25 rfl rfl ?_
  refine Wq.getI 0 rfl d_Group_turns_26 fl_Group_32 (isB_lay hB1_) (Or.inl rfl) ?_
  obtain ⟨H2, H3⟩ := H0
  refine Wp.icmp_ge 57 d_Group_turns_29 (by decide) (fun c1 => ?_) (fun c1 => ?_)
  · have H4 := H2 c1
    refine Wp.lload_n 3 3 d_Group_turns_57 rfl rfl ?_
    refine Wp.lload 5 6 d_Group_turns_58 rfl ?_
    obtain ⟨e6, P7, hd8, ho9, H10⟩ := H4
    refine Wq.SNJ (st := []) [.inr (.inl x3), .inr (.inl x6)] d_Group_turns_60 k_S_commonDivisor (List.mem_of_getElem? (i := 11) rfl) rfl  (fun h => by cases h) (Nat.le_of_ble_eq_true rfl) hd8 ho9 (fun z12 m13 hp14 hz15 hw16 => ?_)
    have H11 := H10 z12 m13 hp14 hz15 hw16
    refine Wp.lstore_n 3 [(0, .inr (.inr 38)), (1, .inr (.inr b1_)), (2, .inr (.inr h2)), (3, .inr (.inl z12)), (5, .inl x5), (6, .inr (.inl x6)), (8, .inl x8)] d_Group_turns_63 rfl (by decide) rfl ?_
    obtain ⟨s17, H18⟩ := H11
    refine Wp.iinc 4 5 [(0, .inr (.inr 38)), (1, .inr (.inr b1_)), (2, .inr (.inr h2)), (3, .inr (.inl z12)), (5, .inl (x5 + 1)), (6, .inr (.inl x6)), (8, .inl x8)] d_Group_turns_64 rfl s17 (by decide) rfl ?_
    refine Wp.goto 8 d_Group_turns_67 (by decide) ?_
    refine Wp.pick [0, 1, 2, 3, 4] [(0, .inr (.inr 38)), (1, .inr (.inr b1_)), (2, .inr (.inr h2)), (3, .inr (.inl z12)), (5, .inl (x5 + 1))] rfl ?_
    exact H18
  · have H5 := H3 c1
    refine Wp.lload 5 6 d_Group_turns_32 rfl ?_
    refine Wp.aload_n 0 0 d_Group_turns_34 rfl rfl ?_
    refine Wp.iload 4 5 d_Group_turns_35 rfl ?_
    refine Wp.iload 6 8 d_Group_turns_37 rfl ?_
    obtain ⟨e19, P20, hd21, ho22, H23⟩ := H5
    refine Wq.VJ (st := [.inr (.inl x6)]) [.inl x5, .inl x8] d_Group_turns_39 k_Group_cofactor ml_Group_90 rfl rfl rfl (fun h => by cases h) (Nat.le_of_ble_eq_true rfl) hd21 ho22 (fun z25 m26 hp27 hz28 hw29 => ?_)
    have H24 := H23 z25 m26 hp27 hz28 hw29
    refine Wp.aload_n 2 2 d_Group_turns_42 rfl rfl ?_
    refine Wp.iload 6 8 d_Group_turns_43 rfl ?_
    obtain ⟨s30, H31⟩ := H24
    refine Wp.iald d_Group_turns_45 hl2 (Or.inl rfl) s30.1 s30.2 ?_
    refine Wp.i2l d_Group_turns_46 ?_
    obtain ⟨s32, H33⟩ := H31
    refine Wq.lmul d_Group_turns_47 s32 ?_
    obtain ⟨s34, H35⟩ := H33
    refine Wq.ladd d_Group_turns_48 s34 ?_
    refine Wp.lstore 6 [(0, .inr (.inr 38)), (1, .inr (.inr b1_)), (2, .inr (.inr h2)), (3, .inr (.inl x3)), (5, .inl x5), (6, .inr (.inl (x6 + (z25 * (m26 h2 x8))))), (8, .inl x8)] d_Group_turns_49 (by decide) rfl ?_
    obtain ⟨s36, H37⟩ := H35
    refine Wp.iinc 6 8 [(0, .inr (.inr 38)), (1, .inr (.inr b1_)), (2, .inr (.inr h2)), (3, .inr (.inl x3)), (5, .inl x5), (6, .inr (.inl (x6 + (z25 * (m26 h2 x8))))), (8, .inl (x8 + 1))] d_Group_turns_51 rfl s36 (by decide) rfl ?_
    refine Wp.goto 23 d_Group_turns_54 (by decide) ?_
    exact H37
theorem d_Group_cofactor_0 : decode Y_Group_cofactor.2.1 0 = .ok (.aload_n 0, 1) := by decide +kernel
theorem d_Group_cofactor_1 : decode Y_Group_cofactor.2.1 1 = .ok (.getfield 38, 3) := by decide +kernel
theorem d_Group_cofactor_4 : decode Y_Group_cofactor.2.1 4 = .ok (.iconst 1, 1) := by decide +kernel
theorem d_Group_cofactor_5 : decode Y_Group_cofactor.2.1 5 = .ok (.iload_n 1, 1) := by decide +kernel
theorem d_Group_cofactor_6 : decode Y_Group_cofactor.2.1 6 = .ok (.ishl, 1) := by decide +kernel
theorem d_Group_cofactor_7 : decode Y_Group_cofactor.2.1 7 = .ok (.iconst (-1), 1) := by decide +kernel
theorem d_Group_cofactor_8 : decode Y_Group_cofactor.2.1 8 = .ok (.ixor, 1) := by decide +kernel
theorem d_Group_cofactor_9 : decode Y_Group_cofactor.2.1 9 = .ok (.iand, 1) := by decide +kernel
theorem d_Group_cofactor_10 : decode Y_Group_cofactor.2.1 10 = .ok (.istore_n 3, 1) := by decide +kernel
theorem d_Group_cofactor_11 : decode Y_Group_cofactor.2.1 11 = .ok (.aload_n 0, 1) := by decide +kernel
theorem d_Group_cofactor_12 : decode Y_Group_cofactor.2.1 12 = .ok (.getfield 38, 3) := by decide +kernel
theorem d_Group_cofactor_15 : decode Y_Group_cofactor.2.1 15 = .ok (.iconst 1, 1) := by decide +kernel
theorem d_Group_cofactor_16 : decode Y_Group_cofactor.2.1 16 = .ok (.iload_n 2, 1) := by decide +kernel
theorem d_Group_cofactor_17 : decode Y_Group_cofactor.2.1 17 = .ok (.ishl, 1) := by decide +kernel
theorem d_Group_cofactor_18 : decode Y_Group_cofactor.2.1 18 = .ok (.iconst (-1), 1) := by decide +kernel
theorem d_Group_cofactor_19 : decode Y_Group_cofactor.2.1 19 = .ok (.ixor, 1) := by decide +kernel
theorem d_Group_cofactor_20 : decode Y_Group_cofactor.2.1 20 = .ok (.iand, 1) := by decide +kernel
theorem d_Group_cofactor_21 : decode Y_Group_cofactor.2.1 21 = .ok (.istore 4, 2) := by decide +kernel
theorem d_Group_cofactor_23 : decode Y_Group_cofactor.2.1 23 = .ok (.aload_n 0, 1) := by decide +kernel
theorem d_Group_cofactor_24 : decode Y_Group_cofactor.2.1 24 = .ok (.getfield 11, 3) := by decide +kernel
theorem d_Group_cofactor_27 : decode Y_Group_cofactor.2.1 27 = .ok (.iload_n 3, 1) := by decide +kernel
theorem d_Group_cofactor_28 : decode Y_Group_cofactor.2.1 28 = .ok (.bipush 32, 2) := by decide +kernel
theorem d_Group_cofactor_30 : decode Y_Group_cofactor.2.1 30 = .ok (.imul, 1) := by decide +kernel
theorem d_Group_cofactor_31 : decode Y_Group_cofactor.2.1 31 = .ok (.iload 4, 2) := by decide +kernel
theorem d_Group_cofactor_33 : decode Y_Group_cofactor.2.1 33 = .ok (.iadd, 1) := by decide +kernel
theorem d_Group_cofactor_34 : decode Y_Group_cofactor.2.1 34 = .ok (.iaload, 1) := by decide +kernel
theorem d_Group_cofactor_35 : decode Y_Group_cofactor.2.1 35 = .ok (.i2l, 1) := by decide +kernel
theorem d_Group_cofactor_36 : decode Y_Group_cofactor.2.1 36 = .ok (.lstore 5, 2) := by decide +kernel
theorem d_Group_cofactor_38 : decode Y_Group_cofactor.2.1 38 = .ok (.iload_n 1, 1) := by decide +kernel
theorem d_Group_cofactor_39 : decode Y_Group_cofactor.2.1 39 = .ok (.iload_n 2, 1) := by decide +kernel
theorem d_Group_cofactor_40 : decode Y_Group_cofactor.2.1 40 = .ok (.iadd, 1) := by decide +kernel
theorem d_Group_cofactor_41 : decode Y_Group_cofactor.2.1 41 = .ok (.iconst 2, 1) := by decide +kernel
theorem d_Group_cofactor_42 : decode Y_Group_cofactor.2.1 42 = .ok (.irem, 1) := by decide +kernel
theorem d_Group_cofactor_43 : decode Y_Group_cofactor.2.1 43 = .ok (.ifCond .ne 8, 3) := by decide +kernel
theorem d_Group_cofactor_46 : decode Y_Group_cofactor.2.1 46 = .ok (.lload 5, 2) := by decide +kernel
theorem d_Group_cofactor_48 : decode Y_Group_cofactor.2.1 48 = .ok (.goto 6, 3) := by decide +kernel
theorem d_Group_cofactor_51 : decode Y_Group_cofactor.2.1 51 = .ok (.lload 5, 2) := by decide +kernel
theorem d_Group_cofactor_53 : decode Y_Group_cofactor.2.1 53 = .ok (.lneg, 1) := by decide +kernel
theorem d_Group_cofactor_54 : decode Y_Group_cofactor.2.1 54 = .ok (.lreturn, 1) := by decide +kernel
theorem e_Group_cofactor {l : Launch} {G : GT} {d : Nat} {P : Int → MM → Prop} {m : MM} (x1 : Int) (x2 : Int)  (H : wfM m → inR x1 → inR x2 → (inR ((bAnd (m 38 1) (bXor (bShl 1 x1) (-1))) * 32)) ∧ ((inR (((bAnd (m 38 1) (bXor (bShl 1 x1) (-1))) * 32) + (bAnd (m 38 1) (bXor (bShl 1 x2) (-1))))) ∧ ((0 ≤ (((bAnd (m 38 1) (bXor (bShl 1 x1) (-1))) * 32) + (bAnd (m 38 1) (bXor (bShl 1 x2) (-1)))) ∧ (((bAnd (m 38 1) (bXor (bShl 1 x1) (-1))) * 32) + (bAnd (m 38 1) (bXor (bShl 1 x2) (-1)))) < (1024 : Int)) ∧ ((inR (x1 + x2)) ∧ (((Int.tmod (x1 + x2) 2) ≠ 0 → ((inL (-(m 39 (((bAnd (m 38 1) (bXor (bShl 1 x1) (-1))) * 32) + (bAnd (m 38 1) (bXor (bShl 1 x2) (-1))))))) ∧ (P (-(m 39 (((bAnd (m 38 1) (bXor (bShl 1 x1) (-1))) * 32) + (bAnd (m 38 1) (bXor (bShl 1 x2) (-1)))))) m))) ∧ (¬ ((Int.tmod (x1 + x2) 2) ≠ 0) → (P (m 39 (((bAnd (m 38 1) (bXor (bShl 1 x1) (-1))) * 32) + (bAnd (m 38 1) (bXor (bShl 1 x2) (-1))))) m))))))) : CJ l G Y_Group_cofactor d [.inr (.inr 38), .inl x1, .inl x2] m P := by
  refine CJ.of [(0, .inr (.inr 38)), (1, .inl x1), (2, .inl x2)] k_Group_cofactor.1 (Nat.le_of_ble_eq_true rfl) rfl (Wp.wf (fun hw _ hl hs => ?_))
  have H0 := H hw (hl _ (List.mem_of_getElem? (i := 1) rfl)) (hl _ (List.mem_of_getElem? (i := 2) rfl))
  refine Wp.aload_n 0 0 d_Group_cofactor_0 rfl rfl ?_
  refine Wq.getI 1 rfl d_Group_cofactor_1 fl_Group_38 rfl (Or.inl rfl) ?_
  refine Wp.iconst d_Group_cofactor_4 (by decide) ?_
  refine Wp.iload_n 1 1 d_Group_cofactor_5 rfl rfl ?_
  refine Wp.ishl d_Group_cofactor_6 ?_
  refine Wp.iconst d_Group_cofactor_7 (by decide) ?_
  refine Wp.ixor d_Group_cofactor_8 ?_
  refine Wp.iand d_Group_cofactor_9 ?_
  refine Wp.istore_n 3 [(0, .inr (.inr 38)), (1, .inl x1), (2, .inl x2), (3, .inl (bAnd (m 38 1) (bXor (bShl 1 x1) (-1))))] d_Group_cofactor_10 rfl (by decide) rfl ?_
  refine Wp.aload_n 0 0 d_Group_cofactor_11 rfl rfl ?_
  refine Wq.getI 1 rfl d_Group_cofactor_12 fl_Group_38 rfl (Or.inl rfl) ?_
  refine Wp.iconst d_Group_cofactor_15 (by decide) ?_
  refine Wp.iload_n 2 2 d_Group_cofactor_16 rfl rfl ?_
  refine Wp.ishl d_Group_cofactor_17 ?_
  refine Wp.iconst d_Group_cofactor_18 (by decide) ?_
  refine Wp.ixor d_Group_cofactor_19 ?_
  refine Wp.iand d_Group_cofactor_20 ?_
  refine Wp.istore 4 [(0, .inr (.inr 38)), (1, .inl x1), (2, .inl x2), (3, .inl (bAnd (m 38 1) (bXor (bShl 1 x1) (-1)))), (4, .inl (bAnd (m 38 1) (bXor (bShl 1 x2) (-1))))] d_Group_cofactor_21 (by decide) rfl ?_
  refine Wp.aload_n 0 0 d_Group_cofactor_23 rfl rfl ?_
  refine Wp.getP 39 d_Group_cofactor_24 fl_Group_11 rfl rfl rfl ?_
  refine Wp.iload_n 3 3 d_Group_cofactor_27 rfl rfl ?_
  refine Wp.bipush d_Group_cofactor_28 (by decide) (by decide) ?_
  obtain ⟨s1, H2⟩ := H0
  refine Wp.imul d_Group_cofactor_30 s1 ?_
  refine Wp.iload 4 4 d_Group_cofactor_31 rfl ?_
  obtain ⟨s3, H4⟩ := H2
  refine Wp.iadd d_Group_cofactor_33 s3 ?_
  obtain ⟨s5, H6⟩ := H4
  refine Wp.iald d_Group_cofactor_34 rfl (Or.inl rfl) s5.1 s5.2 ?_
  refine Wp.i2l d_Group_cofactor_35 ?_
  refine Wp.lstore 5 [(0, .inr (.inr 38)), (1, .inl x1), (2, .inl x2), (3, .inl (bAnd (m 38 1) (bXor (bShl 1 x1) (-1)))), (4, .inl (bAnd (m 38 1) (bXor (bShl 1 x2) (-1)))), (5, .inr (.inl (m 39 (((bAnd (m 38 1) (bXor (bShl 1 x1) (-1))) * 32) + (bAnd (m 38 1) (bXor (bShl 1 x2) (-1)))))))] d_Group_cofactor_36 (by decide) rfl ?_
  refine Wp.iload_n 1 1 d_Group_cofactor_38 rfl rfl ?_
  refine Wp.iload_n 2 2 d_Group_cofactor_39 rfl rfl ?_
  obtain ⟨s7, H8⟩ := H6
  refine Wp.iadd d_Group_cofactor_40 s7 ?_
  refine Wp.iconst d_Group_cofactor_41 (by decide) ?_
  refine Wq.irem d_Group_cofactor_42 (by decide) ?_
  obtain ⟨H10, H11⟩ := H8
  refine Wp.if_ne 51 d_Group_cofactor_43 (by decide) (fun c9 => ?_) (fun c9 => ?_)
  · have H12 := H10 c9
    refine Wp.lload 5 5 d_Group_cofactor_51 rfl ?_
    obtain ⟨s14, H15⟩ := H12
    refine Wq.lneg d_Group_cofactor_53 s14 ?_
    exact Wq.lret d_Group_cofactor_54 rfl H15
  · have H13 := H11 c9
    refine Wp.lload 5 5 d_Group_cofactor_46 rfl ?_
    refine Wp.goto 54 d_Group_cofactor_48 (by decide) ?_
    exact Wq.lret d_Group_cofactor_54 rfl H13
theorem d_Fire_forget_0 : decode Y_Fire_forget.2.1 0 = .ok (.aload_n 0, 1) := by decide +kernel
theorem d_Fire_forget_1 : decode Y_Fire_forget.2.1 1 = .ok (.iconst 0, 1) := by decide +kernel
theorem d_Fire_forget_2 : decode Y_Fire_forget.2.1 2 = .ok (.putfield 23, 3) := by decide +kernel
theorem d_Fire_forget_5 : decode Y_Fire_forget.2.1 5 = .ok (.return_, 1) := by decide +kernel
theorem e_Fire_forget {l : Launch} {G : GT} {d : Nat} {P : MM → Prop} {m : MM}   (H : wfM m → ∀ m1, m1 = up m 45 3 0 → (P m1)) : CV l G Y_Fire_forget d [.inr (.inr 45)] m P := by
  refine CV.of [(0, .inr (.inr 45))] k_Fire_forget.1 (Nat.le_of_ble_eq_true rfl) rfl (Wp.wf (fun hw _ hl hs => ?_))
  have H0 := H hw
  refine Wp.aload_n 0 0 d_Fire_forget_0 rfl rfl ?_
  refine Wp.iconst d_Fire_forget_1 (by decide) ?_
  refine Wq.putZ 3 rfl d_Fire_forget_2 fl_Fire_23 (fun _ _ _ h => by cases h; rfl) rfl rfl rfl (by decide) (fun m1 hm2 => ?_)
  have H3 := H0 m1 hm2
  exact Wq.vret d_Fire_forget_5 rfl H3
theorem d_Fire_burn_0 : decode Y_Fire_burn.2.1 0 = .ok (.iconst 0, 1) := by decide +kernel
theorem d_Fire_burn_1 : decode Y_Fire_burn.2.1 1 = .ok (.istore 4, 2) := by decide +kernel
theorem d_Fire_burn_3 : decode Y_Fire_burn.2.1 3 = .ok (.aload_n 1, 1) := by decide +kernel
theorem d_Fire_burn_4 : decode Y_Fire_burn.2.1 4 = .ok (.aload_n 2, 1) := by decide +kernel
theorem d_Fire_burn_5 : decode Y_Fire_burn.2.1 5 = .ok (.iload 4, 2) := by decide +kernel
theorem d_Fire_burn_7 : decode Y_Fire_burn.2.1 7 = .ok (.invokestatic 27, 3) := by decide +kernel
theorem d_Fire_burn_10 : decode Y_Fire_burn.2.1 10 = .ok (.istore 5, 2) := by decide +kernel
theorem d_Fire_burn_12 : decode Y_Fire_burn.2.1 12 = .ok (.iconst 0, 1) := by decide +kernel
theorem d_Fire_burn_13 : decode Y_Fire_burn.2.1 13 = .ok (.istore 6, 2) := by decide +kernel
theorem d_Fire_burn_15 : decode Y_Fire_burn.2.1 15 = .ok (.iload 6, 2) := by decide +kernel
theorem d_Fire_burn_17 : decode Y_Fire_burn.2.1 17 = .ok (.iconst 5, 1) := by decide +kernel
theorem d_Fire_burn_18 : decode Y_Fire_burn.2.1 18 = .ok (.if_icmp .ge 39, 3) := by decide +kernel
theorem d_Fire_burn_21 : decode Y_Fire_burn.2.1 21 = .ok (.iload 5, 2) := by decide +kernel
theorem d_Fire_burn_23 : decode Y_Fire_burn.2.1 23 = .ok (.iconst (-1), 1) := by decide +kernel
theorem d_Fire_burn_24 : decode Y_Fire_burn.2.1 24 = .ok (.if_icmp .eq 33, 3) := by decide +kernel
theorem d_Fire_burn_27 : decode Y_Fire_burn.2.1 27 = .ok (.iload 4, 2) := by decide +kernel
theorem d_Fire_burn_29 : decode Y_Fire_burn.2.1 29 = .ok (.iconst 1, 1) := by decide +kernel
theorem d_Fire_burn_30 : decode Y_Fire_burn.2.1 30 = .ok (.iload 5, 2) := by decide +kernel
theorem d_Fire_burn_32 : decode Y_Fire_burn.2.1 32 = .ok (.ishl, 1) := by decide +kernel
theorem d_Fire_burn_33 : decode Y_Fire_burn.2.1 33 = .ok (.ior, 1) := by decide +kernel
theorem d_Fire_burn_34 : decode Y_Fire_burn.2.1 34 = .ok (.istore 4, 2) := by decide +kernel
theorem d_Fire_burn_36 : decode Y_Fire_burn.2.1 36 = .ok (.aload_n 3, 1) := by decide +kernel
theorem d_Fire_burn_37 : decode Y_Fire_burn.2.1 37 = .ok (.iload 5, 2) := by decide +kernel
theorem d_Fire_burn_39 : decode Y_Fire_burn.2.1 39 = .ok (.invokevirtual 31, 3) := by decide +kernel
theorem d_Fire_burn_42 : decode Y_Fire_burn.2.1 42 = .ok (.aload_n 1, 1) := by decide +kernel
theorem d_Fire_burn_43 : decode Y_Fire_burn.2.1 43 = .ok (.aload_n 2, 1) := by decide +kernel
theorem d_Fire_burn_44 : decode Y_Fire_burn.2.1 44 = .ok (.iload 4, 2) := by decide +kernel
theorem d_Fire_burn_46 : decode Y_Fire_burn.2.1 46 = .ok (.invokestatic 27, 3) := by decide +kernel
theorem d_Fire_burn_49 : decode Y_Fire_burn.2.1 49 = .ok (.istore 5, 2) := by decide +kernel
theorem d_Fire_burn_51 : decode Y_Fire_burn.2.1 51 = .ok (.iinc 6 1, 3) := by decide +kernel
theorem d_Fire_burn_54 : decode Y_Fire_burn.2.1 54 = .ok (.goto (-39), 3) := by decide +kernel
theorem d_Fire_burn_57 : decode Y_Fire_burn.2.1 57 = .ok (.iload 4, 2) := by decide +kernel
theorem d_Fire_burn_59 : decode Y_Fire_burn.2.1 59 = .ok (.invokestatic 37, 3) := by decide +kernel
theorem d_Fire_burn_62 : decode Y_Fire_burn.2.1 62 = .ok (.ireturn, 1) := by decide +kernel
theorem e_Fire_burn {l : Launch} {G : GT} {d : Nat} {P : Int → MM → Prop} {m : MM} (b1_ : Nat) (h2 : Nat) (n2 : Nat) (hB1_ : isB b1_) (hl2 : q_lay h2 = .inr (0, n2)) (hlt_h2 : n2 < 2147483648) (H : wfM m → ∃ (e1 : Nat) (P2 : Int → MM → Prop), e1 < d ∧ CI l G Y_Fire_firstToBurn e1 [.inr (.inr b1_), .inr (.inr h2), .inl 0] m P2 ∧ (∀ z7 m8, P2 z7 m8 → inR z7 → wfM m8 → (Wq l G false Y_Fire_burn d (QI P) 15 [(1, .inr (.inr b1_)), (2, .inr (.inr h2)), (3, .inr (.inr 67)), (4, .inl 0), (5, .inl z7), (6, .inl 0)] [] m8))) : CI l G Y_Fire_burn d [.inr (.inr 45), .inr (.inr b1_), .inr (.inr h2), .inr (.inr 67)] m P := by
  refine CI.of [(0, .inr (.inr 45)), (1, .inr (.inr b1_)), (2, .inr (.inr h2)), (3, .inr (.inr 67))] k_Fire_burn.1 (Nat.le_of_ble_eq_true rfl) rfl (Wp.wf (fun hw _ hl hs => ?_))
  have H0 := H hw
  refine Wp.iconst d_Fire_burn_0 (by decide) ?_
  refine Wp.istore 4 [(0, .inr (.inr 45)), (1, .inr (.inr b1_)), (2, .inr (.inr h2)), (3, .inr (.inr 67)), (4, .inl 0)] d_Fire_burn_1 (by decide) rfl ?_
  refine Wp.aload_n 1 1 d_Fire_burn_3 rfl rfl ?_
  refine Wp.aload_n 2 2 d_Fire_burn_4 rfl rfl ?_
  refine Wp.iload 4 4 d_Fire_burn_5 rfl ?_
  obtain ⟨e1, P2, hd3, ho4, H5⟩ := H0
  refine Wq.SI (st := []) [.inr (.inr b1_), .inr (.inr h2), .inl 0] d_Fire_burn_7 k_Fire_firstToBurn ml_Fire_27 rfl  (fun h => by cases h) (Nat.le_of_ble_eq_true rfl) hd3 ho4 (fun z7 m8 hp9 hz10 hw11 => ?_)
  have H6 := H5 z7 m8 hp9 hz10 hw11
  refine Wp.istore 5 [(0, .inr (.inr 45)), (1, .inr (.inr b1_)), (2, .inr (.inr h2)), (3, .inr (.inr 67)), (4, .inl 0), (5, .inl z7)] d_Fire_burn_10 (by decide) rfl ?_
  refine Wp.iconst d_Fire_burn_12 (by decide) ?_
  refine Wp.istore 6 [(0, .inr (.inr 45)), (1, .inr (.inr b1_)), (2, .inr (.inr h2)), (3, .inr (.inr 67)), (4, .inl 0), (5, .inl z7), (6, .inl 0)] d_Fire_burn_13 (by decide) rfl ?_
  refine Wp.pick [1, 2, 3, 4, 5, 6] [(1, .inr (.inr b1_)), (2, .inr (.inr h2)), (3, .inr (.inr 67)), (4, .inl 0), (5, .inl z7), (6, .inl 0)] rfl ?_
  exact H6
theorem s_Fire_burn_15 {l : Launch} {G : GT} {d : Nat} {P : Int → MM → Prop} {m : MM} (x4 : Int) (x5 : Int) (x6 : Int) (b1_ : Nat) (h2 : Nat) (n2 : Nat) (hB1_ : isB b1_) (hl2 : q_lay h2 = .inr (0, n2)) (hlt_h2 : n2 < 2147483648) (H : wfM m → inR x4 → inR x5 → inR x6 → (x6 ≥ 5 → (∃ (e6 : Nat) (P7 : Int → MM → Prop), e6 < d ∧ CI l G Y_Integer_bitCount e6 [.inl x4] m P7 ∧ (∀ z12 m13, P7 z12 m13 → inR z12 → wfM m13 → (P z12 m13)))) ∧ (¬ (x6 ≥ 5) → ((x5 = (-1) → (∃ (e22 : Nat) (P23 : Int → MM → Prop), e22 < d ∧ CI l G Y_Integer_bitCount e22 [.inl x4] m P23 ∧ (∀ z28 m29, P23 z28 m29 → inR z28 → wfM m29 → (P z28 m29)))) ∧ (¬ (x5 = (-1)) → (∃ (e33 : Nat) (P34 : MM → Prop), e33 < d ∧ CV l G Y_Lying_put e33 [.inr (.inr 67), .inl x5] m P34 ∧ (∀ m40, P34 m40 → wfM m40 → (∃ (e44 : Nat) (P45 : Int → MM → Prop), e44 < d ∧ CI l G Y_Fire_firstToBurn e44 [.inr (.inr b1_), .inr (.inr h2), .inl (bOr x4 (bShl 1 x5))] m40 P45 ∧ (∀ z50 m51, P45 z50 m51 → inR z50 → wfM m51 → ((inR (x6 + 1)) ∧ (Wq l G false Y_Fire_burn d (QI P) 15 [(1, .inr (.inr b1_)), (2, .inr (.inr h2)), (3, .inr (.inr 67)), (4, .inl (bOr x4 (bShl 1 x5))), (5, .inl z50), (6, .inl (x6 + 1))] [] m51)))))))))) : Wq l G false Y_Fire_burn d (QI P) 15 [(1, .inr (.inr b1_)), (2, .inr (.inr h2)), (3, .inr (.inr 67)), (4, .inl x4), (5, .inl x5), (6, .inl x6)] [] m := by
  refine Wp.wf (fun hw _ hl hs => ?_)
  have H0 := H hw (hl _ (List.mem_of_getElem? (i := 3) rfl)) (hl _ (List.mem_of_getElem? (i := 4) rfl)) (hl _ (List.mem_of_getElem? (i := 5) rfl))
  refine Wp.iload 5 6 d_Fire_burn_15 rfl ?_
  refine Wp.iconst d_Fire_burn_17 (by decide) ?_
  obtain ⟨H2, H3⟩ := H0
  refine Wp.icmp_ge 57 d_Fire_burn_18 (by decide) (fun c1 => ?_) (fun c1 => ?_)
  · have H4 := H2 c1
    refine Wp.iload 3 4 d_Fire_burn_57 rfl ?_
    obtain ⟨e6, P7, hd8, ho9, H10⟩ := H4
    refine Wq.SI (st := []) [.inl x4] d_Fire_burn_59 k_Integer_bitCount ml_Fire_37 rfl  (fun h => by cases h) (Nat.le_of_ble_eq_true rfl) hd8 ho9 (fun z12 m13 hp14 hz15 hw16 => ?_)
    have H11 := H10 z12 m13 hp14 hz15 hw16
    exact Wq.iret d_Fire_burn_62 rfl H11
  · have H5 := H3 c1
    refine Wp.iload 4 5 d_Fire_burn_21 rfl ?_
    refine Wp.iconst d_Fire_burn_23 (by decide) ?_
    obtain ⟨H18, H19⟩ := H5
    refine Wp.icmp_eq 57 d_Fire_burn_24 (by decide) (fun c17 => ?_) (fun c17 => ?_)
    · have H20 := H18 c17
      refine Wp.iload 3 4 d_Fire_burn_57 rfl ?_
      obtain ⟨e22, P23, hd24, ho25, H26⟩ := H20
      refine Wq.SI (st := []) [.inl x4] d_Fire_burn_59 k_Integer_bitCount ml_Fire_37 rfl  (fun h => by cases h) (Nat.le_of_ble_eq_true rfl) hd24 ho25 (fun z28 m29 hp30 hz31 hw32 => ?_)
      have H27 := H26 z28 m29 hp30 hz31 hw32
      exact Wq.iret d_Fire_burn_62 rfl H27
    · have H21 := H19 c17
      refine Wp.iload 3 4 d_Fire_burn_27 rfl ?_
      refine Wp.iconst d_Fire_burn_29 (by decide) ?_
      refine Wp.iload 4 5 d_Fire_burn_30 rfl ?_
      refine Wp.ishl d_Fire_burn_32 ?_
      refine Wp.ior d_Fire_burn_33 ?_
      refine Wp.istore 4 [(1, .inr (.inr b1_)), (2, .inr (.inr h2)), (3, .inr (.inr 67)), (4, .inl (bOr x4 (bShl 1 x5))), (5, .inl x5), (6, .inl x6)] d_Fire_burn_34 (by decide) rfl ?_
      refine Wp.aload_n 2 3 d_Fire_burn_36 rfl rfl ?_
      refine Wp.iload 4 5 d_Fire_burn_37 rfl ?_
      obtain ⟨e33, P34, hd35, ho36, H37⟩ := H21
      refine Wq.VV (st := []) [.inl x5] d_Fire_burn_39 k_Lying_put ml_Fire_31 rfl rfl rfl (fun h => by cases h) (Nat.le_of_ble_eq_true rfl) hd35 ho36 (fun m40 hp41 hw43 => ?_)
      have H38 := H37 m40 hp41 hw43
      refine Wp.aload_n 0 1 d_Fire_burn_42 rfl rfl ?_
      refine Wp.aload_n 1 2 d_Fire_burn_43 rfl rfl ?_
      refine Wp.iload 3 4 d_Fire_burn_44 rfl ?_
      obtain ⟨e44, P45, hd46, ho47, H48⟩ := H38
      refine Wq.SI (st := []) [.inr (.inr b1_), .inr (.inr h2), .inl (bOr x4 (bShl 1 x5))] d_Fire_burn_46 k_Fire_firstToBurn ml_Fire_27 rfl  (fun h => by cases h) (Nat.le_of_ble_eq_true rfl) hd46 ho47 (fun z50 m51 hp52 hz53 hw54 => ?_)
      have H49 := H48 z50 m51 hp52 hz53 hw54
      refine Wp.istore 5 [(1, .inr (.inr b1_)), (2, .inr (.inr h2)), (3, .inr (.inr 67)), (4, .inl (bOr x4 (bShl 1 x5))), (5, .inl z50), (6, .inl x6)] d_Fire_burn_49 (by decide) rfl ?_
      obtain ⟨s55, H56⟩ := H49
      refine Wp.iinc 5 6 [(1, .inr (.inr b1_)), (2, .inr (.inr h2)), (3, .inr (.inr 67)), (4, .inl (bOr x4 (bShl 1 x5))), (5, .inl z50), (6, .inl (x6 + 1))] d_Fire_burn_51 rfl s55 (by decide) rfl ?_
      refine Wp.goto 15 d_Fire_burn_54 (by decide) ?_
      exact H56
theorem d_Fire_firstToBurn_0 : decode Y_Fire_firstToBurn.2.1 0 = .ok (.iconst 0, 1) := by decide +kernel
theorem d_Fire_firstToBurn_1 : decode Y_Fire_firstToBurn.2.1 1 = .ok (.istore_n 3, 1) := by decide +kernel
theorem d_Fire_firstToBurn_2 : decode Y_Fire_firstToBurn.2.1 2 = .ok (.iload_n 3, 1) := by decide +kernel
theorem d_Fire_firstToBurn_3 : decode Y_Fire_firstToBurn.2.1 3 = .ok (.aload_n 0, 1) := by decide +kernel
theorem d_Fire_firstToBurn_4 : decode Y_Fire_firstToBurn.2.1 4 = .ok (.getfield 43, 3) := by decide +kernel
theorem d_Fire_firstToBurn_7 : decode Y_Fire_firstToBurn.2.1 7 = .ok (.if_icmp .ge 38, 3) := by decide +kernel
theorem d_Fire_firstToBurn_10 : decode Y_Fire_firstToBurn.2.1 10 = .ok (.iload_n 2, 1) := by decide +kernel
theorem d_Fire_firstToBurn_11 : decode Y_Fire_firstToBurn.2.1 11 = .ok (.iload_n 3, 1) := by decide +kernel
theorem d_Fire_firstToBurn_12 : decode Y_Fire_firstToBurn.2.1 12 = .ok (.ishr, 1) := by decide +kernel
theorem d_Fire_firstToBurn_13 : decode Y_Fire_firstToBurn.2.1 13 = .ok (.iconst 1, 1) := by decide +kernel
theorem d_Fire_firstToBurn_14 : decode Y_Fire_firstToBurn.2.1 14 = .ok (.iand, 1) := by decide +kernel
theorem d_Fire_firstToBurn_15 : decode Y_Fire_firstToBurn.2.1 15 = .ok (.ifCond .ne 24, 3) := by decide +kernel
theorem d_Fire_firstToBurn_18 : decode Y_Fire_firstToBurn.2.1 18 = .ok (.aload_n 1, 1) := by decide +kernel
theorem d_Fire_firstToBurn_19 : decode Y_Fire_firstToBurn.2.1 19 = .ok (.iload_n 3, 1) := by decide +kernel
theorem d_Fire_firstToBurn_20 : decode Y_Fire_firstToBurn.2.1 20 = .ok (.iaload, 1) := by decide +kernel
theorem d_Fire_firstToBurn_21 : decode Y_Fire_firstToBurn.2.1 21 = .ok (.aload_n 0, 1) := by decide +kernel
theorem d_Fire_firstToBurn_22 : decode Y_Fire_firstToBurn.2.1 22 = .ok (.getfield 49, 3) := by decide +kernel
theorem d_Fire_firstToBurn_25 : decode Y_Fire_firstToBurn.2.1 25 = .ok (.iload_n 3, 1) := by decide +kernel
theorem d_Fire_firstToBurn_26 : decode Y_Fire_firstToBurn.2.1 26 = .ok (.iaload, 1) := by decide +kernel
theorem d_Fire_firstToBurn_27 : decode Y_Fire_firstToBurn.2.1 27 = .ok (.aload_n 0, 1) := by decide +kernel
theorem d_Fire_firstToBurn_28 : decode Y_Fire_firstToBurn.2.1 28 = .ok (.iload_n 3, 1) := by decide +kernel
theorem d_Fire_firstToBurn_29 : decode Y_Fire_firstToBurn.2.1 29 = .ok (.iload_n 2, 1) := by decide +kernel
theorem d_Fire_firstToBurn_30 : decode Y_Fire_firstToBurn.2.1 30 = .ok (.invokevirtual 52, 3) := by decide +kernel
theorem d_Fire_firstToBurn_33 : decode Y_Fire_firstToBurn.2.1 33 = .ok (.isub, 1) := by decide +kernel
theorem d_Fire_firstToBurn_34 : decode Y_Fire_firstToBurn.2.1 34 = .ok (.if_icmp .lt 5, 3) := by decide +kernel
theorem d_Fire_firstToBurn_37 : decode Y_Fire_firstToBurn.2.1 37 = .ok (.iload_n 3, 1) := by decide +kernel
theorem d_Fire_firstToBurn_38 : decode Y_Fire_firstToBurn.2.1 38 = .ok (.ireturn, 1) := by decide +kernel
theorem d_Fire_firstToBurn_39 : decode Y_Fire_firstToBurn.2.1 39 = .ok (.iinc 3 1, 3) := by decide +kernel
theorem d_Fire_firstToBurn_42 : decode Y_Fire_firstToBurn.2.1 42 = .ok (.goto (-40), 3) := by decide +kernel
theorem d_Fire_firstToBurn_45 : decode Y_Fire_firstToBurn.2.1 45 = .ok (.iconst (-1), 1) := by decide +kernel
theorem d_Fire_firstToBurn_46 : decode Y_Fire_firstToBurn.2.1 46 = .ok (.ireturn, 1) := by decide +kernel
theorem e_Fire_firstToBurn {l : Launch} {G : GT} {d : Nat} {P : Int → MM → Prop} {m : MM} (x2 : Int) (b0_ : Nat) (h1 : Nat) (n1 : Nat) (hB0_ : isB b0_) (hl1 : q_lay h1 = .inr (0, n1)) (hlt_h1 : n1 < 2147483648) (H : wfM m → inR x2 → Wq l G false Y_Fire_firstToBurn d (QI P) 2 [(0, .inr (.inr b0_)), (1, .inr (.inr h1)), (2, .inl x2), (3, .inl 0)] [] m) : CI l G Y_Fire_firstToBurn d [.inr (.inr b0_), .inr (.inr h1), .inl x2] m P := by
  refine CI.of [(0, .inr (.inr b0_)), (1, .inr (.inr h1)), (2, .inl x2)] k_Fire_firstToBurn.1 (Nat.le_of_ble_eq_true rfl) rfl (Wp.wf (fun hw _ hl hs => ?_))
  have H0 := H hw (hl _ (List.mem_of_getElem? (i := 2) rfl))
  refine Wp.iconst d_Fire_firstToBurn_0 (by decide) ?_
  refine Wp.istore_n 3 [(0, .inr (.inr b0_)), (1, .inr (.inr h1)), (2, .inl x2), (3, .inl 0)] d_Fire_firstToBurn_1 rfl (by decide) rfl ?_
  exact H0
theorem s_Fire_firstToBurn_2 {l : Launch} {G : GT} {d : Nat} {P : Int → MM → Prop} {m : MM} (x2 : Int) (x3 : Int) (b0_ : Nat) (h1 : Nat) (n1 : Nat) (hB0_ : isB b0_) (hl1 : q_lay h1 = .inr (0, n1)) (hlt_h1 : n1 < 2147483648) (H : wfM m → inR x2 → inR x3 → (x3 ≥ (m b0_ 0) → (P (-1) m)) ∧ (¬ (x3 ≥ (m b0_ 0)) → (((bAnd (bShr x2 x3) 1) ≠ 0 → ((inR (x3 + 1)) ∧ (Wq l G false Y_Fire_firstToBurn d (QI P) 2 [(0, .inr (.inr b0_)), (1, .inr (.inr h1)), (2, .inl x2), (3, .inl (x3 + 1))] [] m))) ∧ (¬ ((bAnd (bShr x2 x3) 1) ≠ 0) → ((0 ≤ x3 ∧ x3 < (n1 : Int)) ∧ ((0 ≤ x3 ∧ x3 < (5 : Int)) ∧ (∃ (e17 : Nat) (P18 : Int → MM → Prop), e17 < d ∧ CI l G Y_Board_widthToBurnt e17 [.inr (.inr b0_), .inl x3, .inl x2] m P18 ∧ (∀ z23 m24, P18 z23 m24 → inR z23 → wfM m24 → ((inR ((m (b0_ + 4) x3) - z23)) ∧ (((m h1 x3) < ((m (b0_ + 4) x3) - z23) → ((inR (x3 + 1)) ∧ (Wq l G false Y_Fire_firstToBurn d (QI P) 2 [(0, .inr (.inr b0_)), (1, .inr (.inr h1)), (2, .inl x2), (3, .inl (x3 + 1))] [] m24))) ∧ (¬ ((m h1 x3) < ((m (b0_ + 4) x3) - z23)) → (P x3 m24)))))))))))) : Wq l G false Y_Fire_firstToBurn d (QI P) 2 [(0, .inr (.inr b0_)), (1, .inr (.inr h1)), (2, .inl x2), (3, .inl x3)] [] m := by
  refine Wp.wf (fun hw _ hl hs => ?_)
  have H0 := H hw (hl _ (List.mem_of_getElem? (i := 2) rfl)) (hl _ (List.mem_of_getElem? (i := 3) rfl))
  refine Wp.iload_n 3 3 d_Fire_firstToBurn_2 rfl rfl ?_
  refine Wp.aload_n 0 0 d_Fire_firstToBurn_3 rfl rfl ?_
  refine Wq.getI 0 rfl d_Fire_firstToBurn_4 fl_Fire_43 (isB_lay hB0_) (Or.inl rfl) ?_
  obtain ⟨H2, H3⟩ := H0
  refine Wp.icmp_ge 45 d_Fire_firstToBurn_7 (by decide) (fun c1 => ?_) (fun c1 => ?_)
  · have H4 := H2 c1
    refine Wp.iconst d_Fire_firstToBurn_45 (by decide) ?_
    exact Wq.iret d_Fire_firstToBurn_46 rfl H4
  · have H5 := H3 c1
    refine Wp.iload_n 2 2 d_Fire_firstToBurn_10 rfl rfl ?_
    refine Wp.iload_n 3 3 d_Fire_firstToBurn_11 rfl rfl ?_
    refine Wp.ishr d_Fire_firstToBurn_12 ?_
    refine Wp.iconst d_Fire_firstToBurn_13 (by decide) ?_
    refine Wp.iand d_Fire_firstToBurn_14 ?_
    obtain ⟨H7, H8⟩ := H5
    refine Wp.if_ne 39 d_Fire_firstToBurn_15 (by decide) (fun c6 => ?_) (fun c6 => ?_)
    · have H9 := H7 c6
      obtain ⟨s11, H12⟩ := H9
      refine Wp.iinc 3 3 [(0, .inr (.inr b0_)), (1, .inr (.inr h1)), (2, .inl x2), (3, .inl (x3 + 1))] d_Fire_firstToBurn_39 rfl s11 (by decide) rfl ?_
      refine Wp.goto 2 d_Fire_firstToBurn_42 (by decide) ?_
      exact H12
    · have H10 := H8 c6
      refine Wp.aload_n 1 1 d_Fire_firstToBurn_18 rfl rfl ?_
      refine Wp.iload_n 3 3 d_Fire_firstToBurn_19 rfl rfl ?_
      obtain ⟨s13, H14⟩ := H10
      refine Wp.iald d_Fire_firstToBurn_20 hl1 (Or.inl rfl) s13.1 s13.2 ?_
      refine Wp.aload_n 0 0 d_Fire_firstToBurn_21 rfl rfl ?_
      refine Wp.getP (b0_ + 4) d_Fire_firstToBurn_22 fl_Fire_49 (isB_lay hB0_) rfl (isB_p8 hB0_) ?_
      refine Wp.iload_n 3 3 d_Fire_firstToBurn_25 rfl rfl ?_
      obtain ⟨s15, H16⟩ := H14
      refine Wp.iald d_Fire_firstToBurn_26 (isB_l8 hB0_) (Or.inl rfl) s15.1 s15.2 ?_
      refine Wp.aload_n 0 0 d_Fire_firstToBurn_27 rfl rfl ?_
      refine Wp.iload_n 3 3 d_Fire_firstToBurn_28 rfl rfl ?_
      refine Wp.iload_n 2 2 d_Fire_firstToBurn_29 rfl rfl ?_
      obtain ⟨e17, P18, hd19, ho20, H21⟩ := H16
      refine Wq.VI (st := [.inl (m (b0_ + 4) x3), .inl (m h1 x3)]) [.inl x3, .inl x2] d_Fire_firstToBurn_30 k_Board_widthToBurnt ml_Fire_52 rfl (isB_lay hB0_) rfl (fun h => by cases h) (Nat.le_of_ble_eq_true rfl) hd19 ho20 (fun z23 m24 hp25 hz26 hw27 => ?_)
      have H22 := H21 z23 m24 hp25 hz26 hw27
      obtain ⟨s28, H29⟩ := H22
      refine Wp.isub d_Fire_firstToBurn_33 s28 ?_
      obtain ⟨H31, H32⟩ := H29
      refine Wp.icmp_lt 39 d_Fire_firstToBurn_34 (by decide) (fun c30 => ?_) (fun c30 => ?_)
      · have H33 := H31 c30
        obtain ⟨s35, H36⟩ := H33
        refine Wp.iinc 3 3 [(0, .inr (.inr b0_)), (1, .inr (.inr h1)), (2, .inl x2), (3, .inl (x3 + 1))] d_Fire_firstToBurn_39 rfl s35 (by decide) rfl ?_
        refine Wp.goto 2 d_Fire_firstToBurn_42 (by decide) ?_
        exact H36
      · have H34 := H32 c30
        refine Wp.iload_n 3 3 d_Fire_firstToBurn_37 rfl rfl ?_
        exact Wq.iret d_Fire_firstToBurn_38 rfl H34
theorem d_Fire_ofLevel_0 : decode Y_Fire_ofLevel.2.1 0 = .ok (.aload_n 0, 1) := by decide +kernel
theorem d_Fire_ofLevel_1 : decode Y_Fire_ofLevel.2.1 1 = .ok (.getfield 23, 3) := by decide +kernel
theorem d_Fire_ofLevel_4 : decode Y_Fire_ofLevel.2.1 4 = .ok (.ifCond .ne 43, 3) := by decide +kernel
theorem d_Fire_ofLevel_7 : decode Y_Fire_ofLevel.2.1 7 = .ok (.aload_n 0, 1) := by decide +kernel
theorem d_Fire_ofLevel_8 : decode Y_Fire_ofLevel.2.1 8 = .ok (.getfield 11, 3) := by decide +kernel
theorem d_Fire_ofLevel_11 : decode Y_Fire_ofLevel.2.1 11 = .ok (.iconst 0, 1) := by decide +kernel
theorem d_Fire_ofLevel_12 : decode Y_Fire_ofLevel.2.1 12 = .ok (.invokestatic 56, 3) := by decide +kernel
theorem d_Fire_ofLevel_15 : decode Y_Fire_ofLevel.2.1 15 = .ok (.aload_n 0, 1) := by decide +kernel
theorem d_Fire_ofLevel_16 : decode Y_Fire_ofLevel.2.1 16 = .ok (.getfield 17, 3) := by decide +kernel
theorem d_Fire_ofLevel_19 : decode Y_Fire_ofLevel.2.1 19 = .ok (.iconst 0, 1) := by decide +kernel
theorem d_Fire_ofLevel_20 : decode Y_Fire_ofLevel.2.1 20 = .ok (.aaload, 1) := by decide +kernel
theorem d_Fire_ofLevel_21 : decode Y_Fire_ofLevel.2.1 21 = .ok (.iconst 0, 1) := by decide +kernel
theorem d_Fire_ofLevel_22 : decode Y_Fire_ofLevel.2.1 22 = .ok (.invokestatic 56, 3) := by decide +kernel
theorem d_Fire_ofLevel_25 : decode Y_Fire_ofLevel.2.1 25 = .ok (.aload_n 0, 1) := by decide +kernel
theorem d_Fire_ofLevel_26 : decode Y_Fire_ofLevel.2.1 26 = .ok (.getfield 17, 3) := by decide +kernel
theorem d_Fire_ofLevel_29 : decode Y_Fire_ofLevel.2.1 29 = .ok (.iconst 0, 1) := by decide +kernel
theorem d_Fire_ofLevel_30 : decode Y_Fire_ofLevel.2.1 30 = .ok (.aaload, 1) := by decide +kernel
theorem d_Fire_ofLevel_31 : decode Y_Fire_ofLevel.2.1 31 = .ok (.iconst 0, 1) := by decide +kernel
theorem d_Fire_ofLevel_32 : decode Y_Fire_ofLevel.2.1 32 = .ok (.iconst 1, 1) := by decide +kernel
theorem d_Fire_ofLevel_33 : decode Y_Fire_ofLevel.2.1 33 = .ok (.iastore, 1) := by decide +kernel
theorem d_Fire_ofLevel_34 : decode Y_Fire_ofLevel.2.1 34 = .ok (.aload_n 0, 1) := by decide +kernel
theorem d_Fire_ofLevel_35 : decode Y_Fire_ofLevel.2.1 35 = .ok (.aload_n 1, 1) := by decide +kernel
theorem d_Fire_ofLevel_36 : decode Y_Fire_ofLevel.2.1 36 = .ok (.iconst 0, 1) := by decide +kernel
theorem d_Fire_ofLevel_37 : decode Y_Fire_ofLevel.2.1 37 = .ok (.iconst 0, 1) := by decide +kernel
theorem d_Fire_ofLevel_38 : decode Y_Fire_ofLevel.2.1 38 = .ok (.iconst 0, 1) := by decide +kernel
theorem d_Fire_ofLevel_39 : decode Y_Fire_ofLevel.2.1 39 = .ok (.invokevirtual 62, 3) := by decide +kernel
theorem d_Fire_ofLevel_42 : decode Y_Fire_ofLevel.2.1 42 = .ok (.aload_n 0, 1) := by decide +kernel
theorem d_Fire_ofLevel_43 : decode Y_Fire_ofLevel.2.1 43 = .ok (.iconst 1, 1) := by decide +kernel
theorem d_Fire_ofLevel_44 : decode Y_Fire_ofLevel.2.1 44 = .ok (.putfield 23, 3) := by decide +kernel
theorem d_Fire_ofLevel_47 : decode Y_Fire_ofLevel.2.1 47 = .ok (.iload_n 2, 1) := by decide +kernel
theorem d_Fire_ofLevel_48 : decode Y_Fire_ofLevel.2.1 48 = .ok (.ifCond .lt 18, 3) := by decide +kernel
theorem d_Fire_ofLevel_51 : decode Y_Fire_ofLevel.2.1 51 = .ok (.iload_n 2, 1) := by decide +kernel
theorem d_Fire_ofLevel_52 : decode Y_Fire_ofLevel.2.1 52 = .ok (.bipush 46, 2) := by decide +kernel
theorem d_Fire_ofLevel_54 : decode Y_Fire_ofLevel.2.1 54 = .ok (.if_icmp .ge 12, 3) := by decide +kernel
theorem d_Fire_ofLevel_57 : decode Y_Fire_ofLevel.2.1 57 = .ok (.aload_n 0, 1) := by decide +kernel
theorem d_Fire_ofLevel_58 : decode Y_Fire_ofLevel.2.1 58 = .ok (.getfield 11, 3) := by decide +kernel
theorem d_Fire_ofLevel_61 : decode Y_Fire_ofLevel.2.1 61 = .ok (.iload_n 2, 1) := by decide +kernel
theorem d_Fire_ofLevel_62 : decode Y_Fire_ofLevel.2.1 62 = .ok (.iaload, 1) := by decide +kernel
theorem d_Fire_ofLevel_63 : decode Y_Fire_ofLevel.2.1 63 = .ok (.goto 4, 3) := by decide +kernel
theorem d_Fire_ofLevel_66 : decode Y_Fire_ofLevel.2.1 66 = .ok (.iconst 0, 1) := by decide +kernel
theorem d_Fire_ofLevel_67 : decode Y_Fire_ofLevel.2.1 67 = .ok (.ireturn, 1) := by decide +kernel
theorem e_Fire_ofLevel {l : Launch} {G : GT} {d : Nat} {P : Int → MM → Prop} {m : MM} (x2 : Int) (b1_ : Nat) (hB1_ : isB b1_) (H : wfM m → inR x2 → ((m 45 3) ≠ 0 → ((x2 < 0 → (P 0 m)) ∧ (¬ (x2 < 0) → ((x2 ≥ 46 → (P 0 m)) ∧ (¬ (x2 ≥ 46) → ((0 ≤ x2 ∧ x2 < (46 : Int)) ∧ (P (m 46 x2) m))))))) ∧ (¬ ((m 45 3) ≠ 0) → (∃ (e18 : Nat) (P19 : MM → Prop), e18 < d ∧ CV l G Y_Arrays_fill e18 [.inr (.inr 46), .inl 0] m P19 ∧ (∀ m25, P19 m25 → wfM m25 → (∃ (e29 : Nat) (P30 : MM → Prop), e29 < d ∧ CV l G Y_Arrays_fill e29 [.inr (.inr 48), .inl 0] m25 P30 ∧ (∀ m36, P30 m36 → wfM m36 → (∀ m40, m40 = up m36 48 0 1 → (∃ (e45 : Nat) (P46 : MM → Prop), e45 < d ∧ CV l G Y_Fire_countFrom e45 [.inr (.inr 45), .inr (.inr b1_), .inl 0, .inl 0, .inl 0] m40 P46 ∧ (∀ m52, P46 m52 → wfM m52 → (∀ m56, m56 = up m52 45 3 1 → ((x2 < 0 → (P 0 m56)) ∧ (¬ (x2 < 0) → ((x2 ≥ 46 → (P 0 m56)) ∧ (¬ (x2 ≥ 46) → ((0 ≤ x2 ∧ x2 < (46 : Int)) ∧ (P (m56 46 x2) m56)))))))))))))))) : CI l G Y_Fire_ofLevel d [.inr (.inr 45), .inr (.inr b1_), .inl x2] m P := by
  refine CI.of [(0, .inr (.inr 45)), (1, .inr (.inr b1_)), (2, .inl x2)] k_Fire_ofLevel.1 (Nat.le_of_ble_eq_true rfl) rfl (Wp.wf (fun hw _ hl hs => ?_))
  have H0 := H hw (hl _ (List.mem_of_getElem? (i := 2) rfl))
  refine Wp.aload_n 0 0 d_Fire_ofLevel_0 rfl rfl ?_
  refine Wq.getI 3 rfl d_Fire_ofLevel_1 fl_Fire_23 rfl (Or.inr rfl) ?_
  obtain ⟨H2, H3⟩ := H0
  refine Wp.if_ne 47 d_Fire_ofLevel_4 (by decide) (fun c1 => ?_) (fun c1 => ?_)
  · have H4 := H2 c1
    refine Wp.iload_n 2 2 d_Fire_ofLevel_47 rfl rfl ?_
    obtain ⟨H7, H8⟩ := H4
    refine Wp.if_lt 66 d_Fire_ofLevel_48 (by decide) (fun c6 => ?_) (fun c6 => ?_)
    · have H9 := H7 c6
      refine Wp.iconst d_Fire_ofLevel_66 (by decide) ?_
      exact Wq.iret d_Fire_ofLevel_67 rfl H9
    · have H10 := H8 c6
      refine Wp.iload_n 2 2 d_Fire_ofLevel_51 rfl rfl ?_
      refine Wp.bipush d_Fire_ofLevel_52 (by decide) (by decide) ?_
      obtain ⟨H12, H13⟩ := H10
      refine Wp.icmp_ge 66 d_Fire_ofLevel_54 (by decide) (fun c11 => ?_) (fun c11 => ?_)
      · have H14 := H12 c11
        refine Wp.iconst d_Fire_ofLevel_66 (by decide) ?_
        exact Wq.iret d_Fire_ofLevel_67 rfl H14
      · have H15 := H13 c11
        refine Wp.aload_n 0 0 d_Fire_ofLevel_57 rfl rfl ?_
        refine Wp.getP 46 d_Fire_ofLevel_58 fl_Fire_11 rfl rfl rfl ?_
        refine Wp.iload_n 2 2 d_Fire_ofLevel_61 rfl rfl ?_
        obtain ⟨s16, H17⟩ := H15
        refine Wp.iald d_Fire_ofLevel_62 rfl (Or.inl rfl) s16.1 s16.2 ?_
        refine Wp.goto 67 d_Fire_ofLevel_63 (by decide) ?_
        exact Wq.iret d_Fire_ofLevel_67 rfl H17
  · have H5 := H3 c1
    refine Wp.aload_n 0 0 d_Fire_ofLevel_7 rfl rfl ?_
    refine Wp.getP 46 d_Fire_ofLevel_8 fl_Fire_11 rfl rfl rfl ?_
    refine Wp.iconst d_Fire_ofLevel_11 (by decide) ?_
    obtain ⟨e18, P19, hd20, ho21, H22⟩ := H5
    refine Wq.SV (st := []) [.inr (.inr 46), .inl 0] d_Fire_ofLevel_12 k_Arrays_fill ml_Fire_56 rfl  (fun h => by cases h) (Nat.le_of_ble_eq_true rfl) hd20 ho21 (fun m25 hp26 hw28 => ?_)
    have H23 := H22 m25 hp26 hw28
    refine Wp.aload_n 0 0 d_Fire_ofLevel_15 rfl rfl ?_
    refine Wp.getP 47 d_Fire_ofLevel_16 fl_Fire_17 rfl rfl rfl ?_
    refine Wp.iconst d_Fire_ofLevel_19 (by decide) ?_
    refine Wp.aald d_Fire_ofLevel_20 rfl (by decide) (by decide) rfl ?_
    refine Wp.iconst d_Fire_ofLevel_21 (by decide) ?_
    obtain ⟨e29, P30, hd31, ho32, H33⟩ := H23
    refine Wq.SV (st := []) [.inr (.inr 48), .inl 0] d_Fire_ofLevel_22 k_Arrays_fill ml_Fire_56 rfl  (fun h => by cases h) (Nat.le_of_ble_eq_true rfl) hd31 ho32 (fun m36 hp37 hw39 => ?_)
    have H34 := H33 m36 hp37 hw39
    refine Wp.aload_n 0 0 d_Fire_ofLevel_25 rfl rfl ?_
    refine Wp.getP 47 d_Fire_ofLevel_26 fl_Fire_17 rfl rfl rfl ?_
    refine Wp.iconst d_Fire_ofLevel_29 (by decide) ?_
    refine Wp.aald d_Fire_ofLevel_30 rfl (by decide) (by decide) rfl ?_
    refine Wp.iconst d_Fire_ofLevel_31 (by decide) ?_
    refine Wp.iconst d_Fire_ofLevel_32 (by decide) ?_
    refine Wq.iast d_Fire_ofLevel_33 rfl (by decide) (by decide) (fun m40 hm41 => ?_)
    have H42 := H34 m40 hm41
    refine Wp.aload_n 0 0 d_Fire_ofLevel_34 rfl rfl ?_
    refine Wp.aload_n 1 1 d_Fire_ofLevel_35 rfl rfl ?_
    refine Wp.iconst d_Fire_ofLevel_36 (by decide) ?_
    refine Wp.iconst d_Fire_ofLevel_37 (by decide) ?_
    refine Wp.iconst d_Fire_ofLevel_38 (by decide) ?_
    obtain ⟨e45, P46, hd47, ho48, H49⟩ := H42
    refine Wq.VV (st := []) [.inr (.inr b1_), .inl 0, .inl 0, .inl 0] d_Fire_ofLevel_39 k_Fire_countFrom ml_Fire_62 rfl rfl rfl (fun h => by cases h) (Nat.le_of_ble_eq_true rfl) hd47 ho48 (fun m52 hp53 hw55 => ?_)
    have H50 := H49 m52 hp53 hw55
    refine Wp.aload_n 0 0 d_Fire_ofLevel_42 rfl rfl ?_
    refine Wp.iconst d_Fire_ofLevel_43 (by decide) ?_
    refine Wq.putZ 3 rfl d_Fire_ofLevel_44 fl_Fire_23 (fun _ _ _ h => by cases h; rfl) rfl rfl rfl (by decide) (fun m56 hm57 => ?_)
    have H58 := H50 m56 hm57
    refine Wp.iload_n 2 2 d_Fire_ofLevel_47 rfl rfl ?_
    obtain ⟨H60, H61⟩ := H58
    refine Wp.if_lt 66 d_Fire_ofLevel_48 (by decide) (fun c59 => ?_) (fun c59 => ?_)
    · have H62 := H60 c59
      refine Wp.iconst d_Fire_ofLevel_66 (by decide) ?_
      exact Wq.iret d_Fire_ofLevel_67 rfl H62
    · have H63 := H61 c59
      refine Wp.iload_n 2 2 d_Fire_ofLevel_51 rfl rfl ?_
      refine Wp.bipush d_Fire_ofLevel_52 (by decide) (by decide) ?_
      obtain ⟨H65, H66⟩ := H63
      refine Wp.icmp_ge 66 d_Fire_ofLevel_54 (by decide) (fun c64 => ?_) (fun c64 => ?_)
      · have H67 := H65 c64
        refine Wp.iconst d_Fire_ofLevel_66 (by decide) ?_
        exact Wq.iret d_Fire_ofLevel_67 rfl H67
      · have H68 := H66 c64
        refine Wp.aload_n 0 0 d_Fire_ofLevel_57 rfl rfl ?_
        refine Wp.getP 46 d_Fire_ofLevel_58 fl_Fire_11 rfl rfl rfl ?_
        refine Wp.iload_n 2 2 d_Fire_ofLevel_61 rfl rfl ?_
        obtain ⟨s69, H70⟩ := H68
        refine Wp.iald d_Fire_ofLevel_62 rfl (Or.inl rfl) s69.1 s69.2 ?_
        refine Wp.goto 67 d_Fire_ofLevel_63 (by decide) ?_
        exact Wq.iret d_Fire_ofLevel_67 rfl H70
theorem d_Fire_countFrom_0 : decode Y_Fire_countFrom.2.1 0 = .ok (.iconst 1, 1) := by decide +kernel
theorem d_Fire_countFrom_1 : decode Y_Fire_countFrom.2.1 1 = .ok (.aload_n 1, 1) := by decide +kernel
theorem d_Fire_countFrom_2 : decode Y_Fire_countFrom.2.1 2 = .ok (.getfield 43, 3) := by decide +kernel
theorem d_Fire_countFrom_5 : decode Y_Fire_countFrom.2.1 5 = .ok (.ishl, 1) := by decide +kernel
theorem d_Fire_countFrom_6 : decode Y_Fire_countFrom.2.1 6 = .ok (.iconst 1, 1) := by decide +kernel
theorem d_Fire_countFrom_7 : decode Y_Fire_countFrom.2.1 7 = .ok (.isub, 1) := by decide +kernel
theorem d_Fire_countFrom_8 : decode Y_Fire_countFrom.2.1 8 = .ok (.iload_n 2, 1) := by decide +kernel
theorem d_Fire_countFrom_9 : decode Y_Fire_countFrom.2.1 9 = .ok (.iconst (-1), 1) := by decide +kernel
theorem d_Fire_countFrom_10 : decode Y_Fire_countFrom.2.1 10 = .ok (.ixor, 1) := by decide +kernel
theorem d_Fire_countFrom_11 : decode Y_Fire_countFrom.2.1 11 = .ok (.iand, 1) := by decide +kernel
theorem d_Fire_countFrom_12 : decode Y_Fire_countFrom.2.1 12 = .ok (.istore 5, 2) := by decide +kernel
theorem d_Fire_countFrom_14 : decode Y_Fire_countFrom.2.1 14 = .ok (.iload 5, 2) := by decide +kernel
theorem d_Fire_countFrom_16 : decode Y_Fire_countFrom.2.1 16 = .ok (.ifCond .ne 40, 3) := by decide +kernel
theorem d_Fire_countFrom_19 : decode Y_Fire_countFrom.2.1 19 = .ok (.iconst 0, 1) := by decide +kernel
theorem d_Fire_countFrom_20 : decode Y_Fire_countFrom.2.1 20 = .ok (.istore 6, 2) := by decide +kernel
theorem d_Fire_countFrom_22 : decode Y_Fire_countFrom.2.1 22 = .ok (.iload 6, 2) := by decide +kernel
theorem d_Fire_countFrom_24 : decode Y_Fire_countFrom.2.1 24 = .ok (.bipush 46, 2) := by decide +kernel
theorem d_Fire_countFrom_26 : decode Y_Fire_countFrom.2.1 26 = .ok (.if_icmp .ge 29, 3) := by decide +kernel
theorem d_Fire_countFrom_29 : decode Y_Fire_countFrom.2.1 29 = .ok (.aload_n 0, 1) := by decide +kernel
theorem d_Fire_countFrom_30 : decode Y_Fire_countFrom.2.1 30 = .ok (.getfield 11, 3) := by decide +kernel
theorem d_Fire_countFrom_33 : decode Y_Fire_countFrom.2.1 33 = .ok (.iload 6, 2) := by decide +kernel
theorem d_Fire_countFrom_35 : decode Y_Fire_countFrom.2.1 35 = .ok (.dup2, 1) := by decide +kernel
theorem d_Fire_countFrom_36 : decode Y_Fire_countFrom.2.1 36 = .ok (.iaload, 1) := by decide +kernel
theorem d_Fire_countFrom_37 : decode Y_Fire_countFrom.2.1 37 = .ok (.aload_n 0, 1) := by decide +kernel
theorem d_Fire_countFrom_38 : decode Y_Fire_countFrom.2.1 38 = .ok (.getfield 17, 3) := by decide +kernel
theorem d_Fire_countFrom_41 : decode Y_Fire_countFrom.2.1 41 = .ok (.iload 4, 2) := by decide +kernel
theorem d_Fire_countFrom_43 : decode Y_Fire_countFrom.2.1 43 = .ok (.aaload, 1) := by decide +kernel
theorem d_Fire_countFrom_44 : decode Y_Fire_countFrom.2.1 44 = .ok (.iload 6, 2) := by decide +kernel
theorem d_Fire_countFrom_46 : decode Y_Fire_countFrom.2.1 46 = .ok (.iaload, 1) := by decide +kernel
theorem d_Fire_countFrom_47 : decode Y_Fire_countFrom.2.1 47 = .ok (.iadd, 1) := by decide +kernel
theorem d_Fire_countFrom_48 : decode Y_Fire_countFrom.2.1 48 = .ok (.iastore, 1) := by decide +kernel
theorem d_Fire_countFrom_49 : decode Y_Fire_countFrom.2.1 49 = .ok (.iinc 6 1, 3) := by decide +kernel
theorem d_Fire_countFrom_52 : decode Y_Fire_countFrom.2.1 52 = .ok (.goto (-30), 3) := by decide +kernel
theorem d_Fire_countFrom_55 : decode Y_Fire_countFrom.2.1 55 = .ok (.return_, 1) := by decide +kernel
theorem d_Fire_countFrom_56 : decode Y_Fire_countFrom.2.1 56 = .ok (.iload 4, 2) := by decide +kernel
theorem d_Fire_countFrom_58 : decode Y_Fire_countFrom.2.1 58 = .ok (.iconst 5, 1) := by decide +kernel
theorem d_Fire_countFrom_59 : decode Y_Fire_countFrom.2.1 59 = .ok (.if_icmp .lt 4, 3) := by decide +kernel
theorem d_Fire_countFrom_62 : decode Y_Fire_countFrom.2.1 62 = .ok (.return_, 1) := by decide +kernel
theorem d_Fire_countFrom_63 : decode Y_Fire_countFrom.2.1 63 = .ok (.iload 5, 2) := by decide +kernel
theorem d_Fire_countFrom_65 : decode Y_Fire_countFrom.2.1 65 = .ok (.istore 6, 2) := by decide +kernel
theorem d_Fire_countFrom_67 : decode Y_Fire_countFrom.2.1 67 = .ok (.iload 6, 2) := by decide +kernel
theorem d_Fire_countFrom_69 : decode Y_Fire_countFrom.2.1 69 = .ok (.ifCond .le 26, 3) := by decide +kernel
theorem d_Fire_countFrom_72 : decode Y_Fire_countFrom.2.1 72 = .ok (.aload_n 0, 1) := by decide +kernel
theorem d_Fire_countFrom_73 : decode Y_Fire_countFrom.2.1 73 = .ok (.aload_n 1, 1) := by decide +kernel
theorem d_Fire_countFrom_74 : decode Y_Fire_countFrom.2.1 74 = .ok (.iload_n 2, 1) := by decide +kernel
theorem d_Fire_countFrom_75 : decode Y_Fire_countFrom.2.1 75 = .ok (.iload_n 3, 1) := by decide +kernel
theorem d_Fire_countFrom_76 : decode Y_Fire_countFrom.2.1 76 = .ok (.iload 6, 2) := by decide +kernel
theorem d_Fire_countFrom_78 : decode Y_Fire_countFrom.2.1 78 = .ok (.iload 4, 2) := by decide +kernel
theorem d_Fire_countFrom_80 : decode Y_Fire_countFrom.2.1 80 = .ok (.invokevirtual 66, 3) := by decide +kernel
theorem d_Fire_countFrom_83 : decode Y_Fire_countFrom.2.1 83 = .ok (.iload 6, 2) := by decide +kernel
theorem d_Fire_countFrom_85 : decode Y_Fire_countFrom.2.1 85 = .ok (.iconst 1, 1) := by decide +kernel
theorem d_Fire_countFrom_86 : decode Y_Fire_countFrom.2.1 86 = .ok (.isub, 1) := by decide +kernel
theorem d_Fire_countFrom_87 : decode Y_Fire_countFrom.2.1 87 = .ok (.iload 5, 2) := by decide +kernel
theorem d_Fire_countFrom_89 : decode Y_Fire_countFrom.2.1 89 = .ok (.iand, 1) := by decide +kernel
theorem d_Fire_countFrom_90 : decode Y_Fire_countFrom.2.1 90 = .ok (.istore 6, 2) := by decide +kernel
theorem d_Fire_countFrom_92 : decode Y_Fire_countFrom.2.1 92 = .ok (.goto (-25), 3) := by decide +kernel
theorem d_Fire_countFrom_95 : decode Y_Fire_countFrom.2.1 95 = .ok (.return_, 1) := by decide +kernel
theorem e_Fire_countFrom {l : Launch} {G : GT} {d : Nat} {P : MM → Prop} {m : MM} (x2 : Int) (x3 : Int) (x4 : Int) (b1_ : Nat) (hB1_ : isB b1_) (H : wfM m → inR x2 → inR x3 → inR x4 → (inR ((bShl 1 (m b1_ 0)) - 1)) ∧ (((bAnd ((bShl 1 (m b1_ 0)) - 1) (bXor x2 (-1))) ≠ 0 → ((x4 < 5 → (Wq l G false Y_Fire_countFrom d (QV P) 67 [(0, .inr (.inr 45)), (1, .inr (.inr b1_)), (2, .inl x2), (3, .inl x3), (4, .inl x4), (5, .inl (bAnd ((bShl 1 (m b1_ 0)) - 1) (bXor x2 (-1)))), (6, .inl (bAnd ((bShl 1 (m b1_ 0)) - 1) (bXor x2 (-1))))] [] m)) ∧ (¬ (x4 < 5) → (P m)))) ∧ (¬ ((bAnd ((bShl 1 (m b1_ 0)) - 1) (bXor x2 (-1))) ≠ 0) → (Wq l G false Y_Fire_countFrom d (QV P) 22 [(0, .inr (.inr 45)), (4, .inl x4), (6, .inl 0)] [] m)))) : CV l G Y_Fire_countFrom d [.inr (.inr 45), .inr (.inr b1_), .inl x2, .inl x3, .inl x4] m P := by
  refine CV.of [(0, .inr (.inr 45)), (1, .inr (.inr b1_)), (2, .inl x2), (3, .inl x3), (4, .inl x4)] k_Fire_countFrom.1 (Nat.le_of_ble_eq_true rfl) rfl (Wp.wf (fun hw _ hl hs => ?_))
  have H0 := H hw (hl _ (List.mem_of_getElem? (i := 2) rfl)) (hl _ (List.mem_of_getElem? (i := 3) rfl)) (hl _ (List.mem_of_getElem? (i := 4) rfl))
  refine Wp.iconst d_Fire_countFrom_0 (by decide) ?_
  refine Wp.aload_n 1 1 d_Fire_countFrom_1 rfl rfl ?_
  refine Wq.getI 0 rfl d_Fire_countFrom_2 fl_Fire_43 (isB_lay hB1_) (Or.inl rfl) ?_
  refine Wp.ishl d_Fire_countFrom_5 ?_
  refine Wp.iconst d_Fire_countFrom_6 (by decide) ?_
  obtain ⟨s1, H2⟩ := H0
  refine Wp.isub d_Fire_countFrom_7 s1 ?_
  refine Wp.iload_n 2 2 d_Fire_countFrom_8 rfl rfl ?_
  refine Wp.iconst d_Fire_countFrom_9 (by decide) ?_
  refine Wp.ixor d_Fire_countFrom_10 ?_
  refine Wp.iand d_Fire_countFrom_11 ?_
  refine Wp.istore 5 [(0, .inr (.inr 45)), (1, .inr (.inr b1_)), (2, .inl x2), (3, .inl x3), (4, .inl x4), (5, .inl (bAnd ((bShl 1 (m b1_ 0)) - 1) (bXor x2 (-1))))] d_Fire_countFrom_12 (by decide) rfl ?_
  refine Wp.iload 5 5 d_Fire_countFrom_14 rfl ?_
  obtain ⟨H4, H5⟩ := H2
  refine Wp.if_ne 56 d_Fire_countFrom_16 (by decide) (fun c3 => ?_) (fun c3 => ?_)
  · have H6 := H4 c3
    refine Wp.iload 4 4 d_Fire_countFrom_56 rfl ?_
    refine Wp.iconst d_Fire_countFrom_58 (by decide) ?_
    obtain ⟨H9, H10⟩ := H6
    refine Wp.icmp_lt 63 d_Fire_countFrom_59 (by decide) (fun c8 => ?_) (fun c8 => ?_)
    · have H11 := H9 c8
      refine Wp.iload 5 5 d_Fire_countFrom_63 rfl ?_
      refine Wp.istore 6 [(0, .inr (.inr 45)), (1, .inr (.inr b1_)), (2, .inl x2), (3, .inl x3), (4, .inl x4), (5, .inl (bAnd ((bShl 1 (m b1_ 0)) - 1) (bXor x2 (-1)))), (6, .inl (bAnd ((bShl 1 (m b1_ 0)) - 1) (bXor x2 (-1))))] d_Fire_countFrom_65 (by decide) rfl ?_
      exact H11
    · have H12 := H10 c8
      exact Wq.vret d_Fire_countFrom_62 rfl H12
  · have H7 := H5 c3
    refine Wp.iconst d_Fire_countFrom_19 (by decide) ?_
    refine Wp.istore 6 [(0, .inr (.inr 45)), (1, .inr (.inr b1_)), (2, .inl x2), (3, .inl x3), (4, .inl x4), (5, .inl (bAnd ((bShl 1 (m b1_ 0)) - 1) (bXor x2 (-1)))), (6, .inl 0)] d_Fire_countFrom_20 (by decide) rfl ?_
    refine Wp.pick [0, 4, 6] [(0, .inr (.inr 45)), (4, .inl x4), (6, .inl 0)] rfl ?_
    exact H7
theorem s_Fire_countFrom_22 {l : Launch} {G : GT} {d : Nat} {P : MM → Prop} {m : MM} (x4 : Int) (x6 : Int)  (H : wfM m → inR x4 → inR x6 → (x6 ≥ 46 → (P m)) ∧ (¬ (x6 ≥ 46) → ((0 ≤ x6 ∧ x6 < (46 : Int)) ∧ (∃ r8 : Nat, ((0 : Int) ≤ x4 ∧ x4 < (6 : Int)) ∧ q_pt 47 x4 = some r8 ∧ q_lay r8 = .inr (0, 46) ∧ ((0 ≤ x6 ∧ x6 < (46 : Int)) ∧ ((inR ((m 46 x6) + (m r8 x6))) ∧ ((0 ≤ x6 ∧ x6 < (46 : Int)) ∧ (∀ m17, m17 = up m 46 x6 ((m 46 x6) + (m r8 x6)) → ((inR (x6 + 1)) ∧ (Wq l G false Y_Fire_countFrom d (QV P) 22 [(0, .inr (.inr 45)), (4, .inl x4), (6, .inl (x6 + 1))] [] m17)))))))))) : Wq l G false Y_Fire_countFrom d (QV P) 22 [(0, .inr (.inr 45)), (4, .inl x4), (6, .inl x6)] [] m := by
  refine Wp.wf (fun hw _ hl hs => ?_)
  have H0 := H hw (hl _ (List.mem_of_getElem? (i := 1) rfl)) (hl _ (List.mem_of_getElem? (i := 2) rfl))
  refine Wp.iload 2 6 d_Fire_countFrom_22 rfl ?_
  refine Wp.bipush d_Fire_countFrom_24 (by decide) (by decide) ?_
  obtain ⟨H2, H3⟩ := H0
  refine Wp.icmp_ge 55 d_Fire_countFrom_26 (by decide) (fun c1 => ?_) (fun c1 => ?_)
  · have H4 := H2 c1
    exact Wq.vret d_Fire_countFrom_55 rfl H4
  · have H5 := H3 c1
    refine Wp.aload_n 0 0 d_Fire_countFrom_29 rfl rfl ?_
    refine Wp.getP 46 d_Fire_countFrom_30 fl_Fire_11 rfl rfl rfl ?_
    refine Wp.iload 2 6 d_Fire_countFrom_33 rfl ?_
    refine Wp.dup2 d_Fire_countFrom_35 rfl rfl ?_
    obtain ⟨s6, H7⟩ := H5
    refine Wp.iald d_Fire_countFrom_36 rfl (Or.inl rfl) s6.1 s6.2 ?_
    refine Wp.aload_n 0 0 d_Fire_countFrom_37 rfl rfl ?_
    refine Wp.getP 47 d_Fire_countFrom_38 fl_Fire_17 rfl rfl rfl ?_
    refine Wp.iload 1 4 d_Fire_countFrom_41 rfl ?_
    obtain ⟨r8, s12, hp9, hl10, H11⟩ := H7
    refine Wp.aald d_Fire_countFrom_43 rfl s12.1 s12.2 hp9 ?_
    refine Wp.iload 2 6 d_Fire_countFrom_44 rfl ?_
    obtain ⟨s13, H14⟩ := H11
    refine Wp.iald d_Fire_countFrom_46 hl10 (Or.inl rfl) s13.1 s13.2 ?_
    obtain ⟨s15, H16⟩ := H14
    refine Wp.iadd d_Fire_countFrom_47 s15 ?_
    obtain ⟨s24, H25⟩ := H16
    refine Wq.iast d_Fire_countFrom_48 rfl s24.1 s24.2 (fun m17 hm18 => ?_)
    have H19 := H25 m17 hm18
    obtain ⟨s22, H23⟩ := H19
    refine Wp.iinc 2 6 [(0, .inr (.inr 45)), (4, .inl x4), (6, .inl (x6 + 1))] d_Fire_countFrom_49 rfl s22 (by decide) rfl ?_
    refine Wp.goto 22 d_Fire_countFrom_52 (by decide) ?_
    exact H23
theorem s_Fire_countFrom_67 {l : Launch} {G : GT} {d : Nat} {P : MM → Prop} {m : MM} (x2 : Int) (x3 : Int) (x4 : Int) (x5 : Int) (x6 : Int) (b1_ : Nat) (hB1_ : isB b1_) (H : wfM m → inR x2 → inR x3 → inR x4 → inR x5 → inR x6 → (x6 ≤ 0 → (P m)) ∧ (¬ (x6 ≤ 0) → (∃ (e6 : Nat) (P7 : MM → Prop), e6 < d ∧ CV l G Y_Fire_countWith e6 [.inr (.inr 45), .inr (.inr b1_), .inl x2, .inl x3, .inl x6, .inl x4] m P7 ∧ (∀ m13, P7 m13 → wfM m13 → ((inR (x6 - 1)) ∧ (Wq l G false Y_Fire_countFrom d (QV P) 67 [(0, .inr (.inr 45)), (1, .inr (.inr b1_)), (2, .inl x2), (3, .inl x3), (4, .inl x4), (5, .inl x5), (6, .inl (bAnd (x6 - 1) x5))] [] m13)))))) : Wq l G false Y_Fire_countFrom d (QV P) 67 [(0, .inr (.inr 45)), (1, .inr (.inr b1_)), (2, .inl x2), (3, .inl x3), (4, .inl x4), (5, .inl x5), (6, .inl x6)] [] m := by
  refine Wp.wf (fun hw _ hl hs => ?_)
  have H0 := H hw (hl _ (List.mem_of_getElem? (i := 2) rfl)) (hl _ (List.mem_of_getElem? (i := 3) rfl)) (hl _ (List.mem_of_getElem? (i := 4) rfl)) (hl _ (List.mem_of_getElem? (i := 5) rfl)) (hl _ (List.mem_of_getElem? (i := 6) rfl))
  refine Wp.iload 6 6 d_Fire_countFrom_67 rfl ?_
  obtain ⟨H2, H3⟩ := H0
  refine Wp.if_le 95 d_Fire_countFrom_69 (by decide) (fun c1 => ?_) (fun c1 => ?_)
  · have H4 := H2 c1
    exact Wq.vret d_Fire_countFrom_95 rfl H4
  · have H5 := H3 c1
    refine Wp.aload_n 0 0 d_Fire_countFrom_72 rfl rfl ?_
    refine Wp.aload_n 1 1 d_Fire_countFrom_73 rfl rfl ?_
    refine Wp.iload_n 2 2 d_Fire_countFrom_74 rfl rfl ?_
    refine Wp.iload_n 3 3 d_Fire_countFrom_75 rfl rfl ?_
    refine Wp.iload 6 6 d_Fire_countFrom_76 rfl ?_
    refine Wp.iload 4 4 d_Fire_countFrom_78 rfl ?_
    obtain ⟨e6, P7, hd8, ho9, H10⟩ := H5
    refine Wq.VV (st := []) [.inr (.inr b1_), .inl x2, .inl x3, .inl x6, .inl x4] d_Fire_countFrom_80 k_Fire_countWith ml_Fire_66 rfl rfl rfl (fun h => by cases h) (Nat.le_of_ble_eq_true rfl) hd8 ho9 (fun m13 hp14 hw16 => ?_)
    have H11 := H10 m13 hp14 hw16
    refine Wp.iload 6 6 d_Fire_countFrom_83 rfl ?_
    refine Wp.iconst d_Fire_countFrom_85 (by decide) ?_
    obtain ⟨s17, H18⟩ := H11
    refine Wp.isub d_Fire_countFrom_86 s17 ?_
    refine Wp.iload 5 5 d_Fire_countFrom_87 rfl ?_
    refine Wp.iand d_Fire_countFrom_89 ?_
    refine Wp.istore 6 [(0, .inr (.inr 45)), (1, .inr (.inr b1_)), (2, .inl x2), (3, .inl x3), (4, .inl x4), (5, .inl x5), (6, .inl (bAnd (x6 - 1) x5))] d_Fire_countFrom_90 (by decide) rfl ?_
    refine Wp.goto 67 d_Fire_countFrom_92 (by decide) ?_
    exact H18
theorem d_Fire_countWith_0 : decode Y_Fire_countWith.2.1 0 = .ok (.aload_n 0, 1) := by decide +kernel
theorem d_Fire_countWith_1 : decode Y_Fire_countWith.2.1 1 = .ok (.aload_n 1, 1) := by decide +kernel
theorem d_Fire_countWith_2 : decode Y_Fire_countWith.2.1 2 = .ok (.iload_n 2, 1) := by decide +kernel
theorem d_Fire_countWith_3 : decode Y_Fire_countWith.2.1 3 = .ok (.iload_n 3, 1) := by decide +kernel
theorem d_Fire_countWith_4 : decode Y_Fire_countWith.2.1 4 = .ok (.iload 4, 2) := by decide +kernel
theorem d_Fire_countWith_6 : decode Y_Fire_countWith.2.1 6 = .ok (.iload 5, 2) := by decide +kernel
theorem d_Fire_countWith_8 : decode Y_Fire_countWith.2.1 8 = .ok (.invokevirtual 70, 3) := by decide +kernel
theorem d_Fire_countWith_11 : decode Y_Fire_countWith.2.1 11 = .ok (.ifCond .eq 18, 3) := by decide +kernel
theorem d_Fire_countWith_14 : decode Y_Fire_countWith.2.1 14 = .ok (.aload_n 0, 1) := by decide +kernel
theorem d_Fire_countWith_15 : decode Y_Fire_countWith.2.1 15 = .ok (.aload_n 1, 1) := by decide +kernel
theorem d_Fire_countWith_16 : decode Y_Fire_countWith.2.1 16 = .ok (.iload_n 2, 1) := by decide +kernel
theorem d_Fire_countWith_17 : decode Y_Fire_countWith.2.1 17 = .ok (.iload 4, 2) := by decide +kernel
theorem d_Fire_countWith_19 : decode Y_Fire_countWith.2.1 19 = .ok (.ior, 1) := by decide +kernel
theorem d_Fire_countWith_20 : decode Y_Fire_countWith.2.1 20 = .ok (.iload 4, 2) := by decide +kernel
theorem d_Fire_countWith_22 : decode Y_Fire_countWith.2.1 22 = .ok (.iload 5, 2) := by decide +kernel
theorem d_Fire_countWith_24 : decode Y_Fire_countWith.2.1 24 = .ok (.iconst 1, 1) := by decide +kernel
theorem d_Fire_countWith_25 : decode Y_Fire_countWith.2.1 25 = .ok (.iadd, 1) := by decide +kernel
theorem d_Fire_countWith_26 : decode Y_Fire_countWith.2.1 26 = .ok (.invokevirtual 62, 3) := by decide +kernel
theorem d_Fire_countWith_29 : decode Y_Fire_countWith.2.1 29 = .ok (.return_, 1) := by decide +kernel
theorem e_Fire_countWith {l : Launch} {G : GT} {d : Nat} {P : MM → Prop} {m : MM} (x2 : Int) (x3 : Int) (x4 : Int) (x5 : Int) (b1_ : Nat) (hB1_ : isB b1_) (H : wfM m → inR x2 → inR x3 → inR x4 → inR x5 → ∃ (e1 : Nat) (P2 : Int → MM → Prop), e1 < d ∧ CI l G Y_Fire_growBy e1 [.inr (.inr 45), .inr (.inr b1_), .inl x2, .inl x3, .inl x4, .inl x5] m P2 ∧ (∀ z7 m8, P2 z7 m8 → inR z7 → wfM m8 → ((z7 = 0 → (P m8)) ∧ (¬ (z7 = 0) → ((inR (x5 + 1)) ∧ (∃ (e19 : Nat) (P20 : MM → Prop), e19 < d ∧ CV l G Y_Fire_countFrom e19 [.inr (.inr 45), .inr (.inr b1_), .inl (bOr x2 x4), .inl x4, .inl (x5 + 1)] m8 P20 ∧ (∀ m26, P20 m26 → wfM m26 → (P m26)))))))) : CV l G Y_Fire_countWith d [.inr (.inr 45), .inr (.inr b1_), .inl x2, .inl x3, .inl x4, .inl x5] m P := by
  refine CV.of [(0, .inr (.inr 45)), (1, .inr (.inr b1_)), (2, .inl x2), (3, .inl x3), (4, .inl x4), (5, .inl x5)] k_Fire_countWith.1 (Nat.le_of_ble_eq_true rfl) rfl (Wp.wf (fun hw _ hl hs => ?_))
  have H0 := H hw (hl _ (List.mem_of_getElem? (i := 2) rfl)) (hl _ (List.mem_of_getElem? (i := 3) rfl)) (hl _ (List.mem_of_getElem? (i := 4) rfl)) (hl _ (List.mem_of_getElem? (i := 5) rfl))
  refine Wp.aload_n 0 0 d_Fire_countWith_0 rfl rfl ?_
  refine Wp.aload_n 1 1 d_Fire_countWith_1 rfl rfl ?_
  refine Wp.iload_n 2 2 d_Fire_countWith_2 rfl rfl ?_
  refine Wp.iload_n 3 3 d_Fire_countWith_3 rfl rfl ?_
  refine Wp.iload 4 4 d_Fire_countWith_4 rfl ?_
  refine Wp.iload 5 5 d_Fire_countWith_6 rfl ?_
  obtain ⟨e1, P2, hd3, ho4, H5⟩ := H0
  refine Wq.VI (st := []) [.inr (.inr b1_), .inl x2, .inl x3, .inl x4, .inl x5] d_Fire_countWith_8 k_Fire_growBy ml_Fire_70 rfl rfl rfl (fun h => by cases h) (Nat.le_of_ble_eq_true rfl) hd3 ho4 (fun z7 m8 hp9 hz10 hw11 => ?_)
  have H6 := H5 z7 m8 hp9 hz10 hw11
  obtain ⟨H13, H14⟩ := H6
  refine Wp.if_eq 29 d_Fire_countWith_11 (by decide) (fun c12 => ?_) (fun c12 => ?_)
  · have H15 := H13 c12
    exact Wq.vret d_Fire_countWith_29 rfl H15
  · have H16 := H14 c12
    refine Wp.aload_n 0 0 d_Fire_countWith_14 rfl rfl ?_
    refine Wp.aload_n 1 1 d_Fire_countWith_15 rfl rfl ?_
    refine Wp.iload_n 2 2 d_Fire_countWith_16 rfl rfl ?_
    refine Wp.iload 4 4 d_Fire_countWith_17 rfl ?_
    refine Wp.ior d_Fire_countWith_19 ?_
    refine Wp.iload 4 4 d_Fire_countWith_20 rfl ?_
    refine Wp.iload 5 5 d_Fire_countWith_22 rfl ?_
    refine Wp.iconst d_Fire_countWith_24 (by decide) ?_
    obtain ⟨s17, H18⟩ := H16
    refine Wp.iadd d_Fire_countWith_25 s17 ?_
    obtain ⟨e19, P20, hd21, ho22, H23⟩ := H18
    refine Wq.VV (st := []) [.inr (.inr b1_), .inl (bOr x2 x4), .inl x4, .inl (x5 + 1)] d_Fire_countWith_26 k_Fire_countFrom ml_Fire_62 rfl rfl rfl (fun h => by cases h) (Nat.le_of_ble_eq_true rfl) hd21 ho22 (fun m26 hp27 hw29 => ?_)
    have H24 := H23 m26 hp27 hw29
    exact Wq.vret d_Fire_countWith_29 rfl H24
theorem d_Fire_growBy_0 : decode Y_Fire_growBy.2.1 0 = .ok (.aload_n 0, 1) := by decide +kernel
theorem d_Fire_growBy_1 : decode Y_Fire_growBy.2.1 1 = .ok (.getfield 17, 3) := by decide +kernel
theorem d_Fire_growBy_4 : decode Y_Fire_growBy.2.1 4 = .ok (.iload 5, 2) := by decide +kernel
theorem d_Fire_growBy_6 : decode Y_Fire_growBy.2.1 6 = .ok (.iconst 1, 1) := by decide +kernel
theorem d_Fire_growBy_7 : decode Y_Fire_growBy.2.1 7 = .ok (.iadd, 1) := by decide +kernel
theorem d_Fire_growBy_8 : decode Y_Fire_growBy.2.1 8 = .ok (.aaload, 1) := by decide +kernel
theorem d_Fire_growBy_9 : decode Y_Fire_growBy.2.1 9 = .ok (.astore 6, 2) := by decide +kernel
theorem d_Fire_growBy_11 : decode Y_Fire_growBy.2.1 11 = .ok (.aload_n 0, 1) := by decide +kernel
theorem d_Fire_growBy_12 : decode Y_Fire_growBy.2.1 12 = .ok (.getfield 17, 3) := by decide +kernel
theorem d_Fire_growBy_15 : decode Y_Fire_growBy.2.1 15 = .ok (.iload 5, 2) := by decide +kernel
theorem d_Fire_growBy_17 : decode Y_Fire_growBy.2.1 17 = .ok (.aaload, 1) := by decide +kernel
theorem d_Fire_growBy_18 : decode Y_Fire_growBy.2.1 18 = .ok (.iconst 0, 1) := by decide +kernel
theorem d_Fire_growBy_19 : decode Y_Fire_growBy.2.1 19 = .ok (.aload 6, 2) := by decide +kernel
theorem d_Fire_growBy_21 : decode Y_Fire_growBy.2.1 21 = .ok (.iconst 0, 1) := by decide +kernel
theorem d_Fire_growBy_22 : decode Y_Fire_growBy.2.1 22 = .ok (.bipush 46, 2) := by decide +kernel
theorem d_Fire_growBy_24 : decode Y_Fire_growBy.2.1 24 = .ok (.invokestatic 74, 3) := by decide +kernel
theorem d_Fire_growBy_27 : decode Y_Fire_growBy.2.1 27 = .ok (.iconst 0, 1) := by decide +kernel
theorem d_Fire_growBy_28 : decode Y_Fire_growBy.2.1 28 = .ok (.istore 7, 2) := by decide +kernel
theorem d_Fire_growBy_30 : decode Y_Fire_growBy.2.1 30 = .ok (.iload 7, 2) := by decide +kernel
theorem d_Fire_growBy_32 : decode Y_Fire_growBy.2.1 32 = .ok (.aload_n 1, 1) := by decide +kernel
theorem d_Fire_growBy_33 : decode Y_Fire_growBy.2.1 33 = .ok (.getfield 43, 3) := by decide +kernel
theorem d_Fire_growBy_36 : decode Y_Fire_growBy.2.1 36 = .ok (.if_icmp .ge 72, 3) := by decide +kernel
theorem d_Fire_growBy_39 : decode Y_Fire_growBy.2.1 39 = .ok (.iload 4, 2) := by decide +kernel
theorem d_Fire_growBy_41 : decode Y_Fire_growBy.2.1 41 = .ok (.iload 7, 2) := by decide +kernel
theorem d_Fire_growBy_43 : decode Y_Fire_growBy.2.1 43 = .ok (.ishr, 1) := by decide +kernel
theorem d_Fire_growBy_44 : decode Y_Fire_growBy.2.1 44 = .ok (.iconst 1, 1) := by decide +kernel
theorem d_Fire_growBy_45 : decode Y_Fire_growBy.2.1 45 = .ok (.iand, 1) := by decide +kernel
theorem d_Fire_growBy_46 : decode Y_Fire_growBy.2.1 46 = .ok (.ifCond .eq 56, 3) := by decide +kernel
theorem d_Fire_growBy_49 : decode Y_Fire_growBy.2.1 49 = .ok (.iload 5, 2) := by decide +kernel
theorem d_Fire_growBy_51 : decode Y_Fire_growBy.2.1 51 = .ok (.ifCond .ne 13, 3) := by decide +kernel
theorem d_Fire_growBy_54 : decode Y_Fire_growBy.2.1 54 = .ok (.aload_n 1, 1) := by decide +kernel
theorem d_Fire_growBy_55 : decode Y_Fire_growBy.2.1 55 = .ok (.getfield 80, 3) := by decide +kernel
theorem d_Fire_growBy_58 : decode Y_Fire_growBy.2.1 58 = .ok (.iload 7, 2) := by decide +kernel
theorem d_Fire_growBy_60 : decode Y_Fire_growBy.2.1 60 = .ok (.iaload, 1) := by decide +kernel
theorem d_Fire_growBy_61 : decode Y_Fire_growBy.2.1 61 = .ok (.goto 10, 3) := by decide +kernel
theorem d_Fire_growBy_64 : decode Y_Fire_growBy.2.1 64 = .ok (.aload_n 1, 1) := by decide +kernel
theorem d_Fire_growBy_65 : decode Y_Fire_growBy.2.1 65 = .ok (.iload 7, 2) := by decide +kernel
theorem d_Fire_growBy_67 : decode Y_Fire_growBy.2.1 67 = .ok (.iload_n 3, 1) := by decide +kernel
theorem d_Fire_growBy_68 : decode Y_Fire_growBy.2.1 68 = .ok (.invokevirtual 83, 3) := by decide +kernel
theorem d_Fire_growBy_71 : decode Y_Fire_growBy.2.1 71 = .ok (.istore 8, 2) := by decide +kernel
theorem d_Fire_growBy_73 : decode Y_Fire_growBy.2.1 73 = .ok (.iload 8, 2) := by decide +kernel
theorem d_Fire_growBy_75 : decode Y_Fire_growBy.2.1 75 = .ok (.ifCond .ne 5, 3) := by decide +kernel
theorem d_Fire_growBy_78 : decode Y_Fire_growBy.2.1 78 = .ok (.iconst 0, 1) := by decide +kernel
theorem d_Fire_growBy_79 : decode Y_Fire_growBy.2.1 79 = .ok (.ireturn, 1) := by decide +kernel
theorem d_Fire_growBy_80 : decode Y_Fire_growBy.2.1 80 = .ok (.aload 6, 2) := by decide +kernel
theorem d_Fire_growBy_82 : decode Y_Fire_growBy.2.1 82 = .ok (.aload_n 1, 1) := by decide +kernel
theorem d_Fire_growBy_83 : decode Y_Fire_growBy.2.1 83 = .ok (.getfield 49, 3) := by decide +kernel
theorem d_Fire_growBy_86 : decode Y_Fire_growBy.2.1 86 = .ok (.iload 7, 2) := by decide +kernel
theorem d_Fire_growBy_88 : decode Y_Fire_growBy.2.1 88 = .ok (.iaload, 1) := by decide +kernel
theorem d_Fire_growBy_89 : decode Y_Fire_growBy.2.1 89 = .ok (.aload_n 1, 1) := by decide +kernel
theorem d_Fire_growBy_90 : decode Y_Fire_growBy.2.1 90 = .ok (.iload 7, 2) := by decide +kernel
theorem d_Fire_growBy_92 : decode Y_Fire_growBy.2.1 92 = .ok (.iload_n 2, 1) := by decide +kernel
theorem d_Fire_growBy_93 : decode Y_Fire_growBy.2.1 93 = .ok (.invokevirtual 52, 3) := by decide +kernel
theorem d_Fire_growBy_96 : decode Y_Fire_growBy.2.1 96 = .ok (.isub, 1) := by decide +kernel
theorem d_Fire_growBy_97 : decode Y_Fire_growBy.2.1 97 = .ok (.iload 8, 2) := by decide +kernel
theorem d_Fire_growBy_99 : decode Y_Fire_growBy.2.1 99 = .ok (.invokestatic 86, 3) := by decide +kernel
theorem d_Fire_growBy_102 : decode Y_Fire_growBy.2.1 102 = .ok (.iinc 7 1, 3) := by decide +kernel
theorem d_Fire_growBy_105 : decode Y_Fire_growBy.2.1 105 = .ok (.goto (-75), 3) := by decide +kernel
theorem d_Fire_growBy_108 : decode Y_Fire_growBy.2.1 108 = .ok (.iconst 1, 1) := by decide +kernel
theorem d_Fire_growBy_109 : decode Y_Fire_growBy.2.1 109 = .ok (.ireturn, 1) := by decide +kernel
theorem e_Fire_growBy {l : Launch} {G : GT} {d : Nat} {P : Int → MM → Prop} {m : MM} (x2 : Int) (x3 : Int) (x4 : Int) (x5 : Int) (b1_ : Nat) (hB1_ : isB b1_) (hd1 : 1 ≤ d) (H : wfM m → inR x2 → inR x3 → inR x4 → inR x5 → (inR (x5 + 1)) ∧ (∃ r3 : Nat, ((0 : Int) ≤ (x5 + 1) ∧ (x5 + 1) < (6 : Int)) ∧ q_pt 47 (x5 + 1) = some r3 ∧ q_lay r3 = .inr (0, 46) ∧ (∃ r8 : Nat, ((0 : Int) ≤ x5 ∧ x5 < (6 : Int)) ∧ q_pt 47 x5 = some r8 ∧ q_lay r8 = .inr (0, 46) ∧ (((0 : Int) ≤ 0 ∧ (0 : Int) ≤ 0 ∧ (0 : Int) < 46 ∧ (0 : Int) + 46 ≤ (46 : Nat) ∧ (0 : Int) + 46 ≤ (46 : Nat)) ∧ (∀ m13, m13 = upC m r8 r3 0 0 46 → (Wq l G false Y_Fire_growBy d (QI P) 30 [(1, .inr (.inr b1_)), (2, .inl x2), (3, .inl x3), (4, .inl x4), (5, .inl x5), (6, .inr (.inr r3)), (7, .inl 0)] [] m13)))))) : CI l G Y_Fire_growBy d [.inr (.inr 45), .inr (.inr b1_), .inl x2, .inl x3, .inl x4, .inl x5] m P := by
  refine CI.of [(0, .inr (.inr 45)), (1, .inr (.inr b1_)), (2, .inl x2), (3, .inl x3), (4, .inl x4), (5, .inl x5)] k_Fire_growBy.1 (Nat.le_of_ble_eq_true rfl) rfl (Wp.wf (fun hw _ hl hs => ?_))
  have H0 := H hw (hl _ (List.mem_of_getElem? (i := 2) rfl)) (hl _ (List.mem_of_getElem? (i := 3) rfl)) (hl _ (List.mem_of_getElem? (i := 4) rfl)) (hl _ (List.mem_of_getElem? (i := 5) rfl))
  refine Wp.aload_n 0 0 d_Fire_growBy_0 rfl rfl ?_
  refine Wp.getP 47 d_Fire_growBy_1 fl_Fire_17 rfl rfl rfl ?_
  refine Wp.iload 5 5 d_Fire_growBy_4 rfl ?_
  refine Wp.iconst d_Fire_growBy_6 (by decide) ?_
  obtain ⟨s1, H2⟩ := H0
  refine Wp.iadd d_Fire_growBy_7 s1 ?_
  obtain ⟨r3, s7, hp4, hl5, H6⟩ := H2
  refine Wp.aald d_Fire_growBy_8 rfl s7.1 s7.2 hp4 ?_
  refine Wp.astore 6 [(0, .inr (.inr 45)), (1, .inr (.inr b1_)), (2, .inl x2), (3, .inl x3), (4, .inl x4), (5, .inl x5), (6, .inr (.inr r3))] d_Fire_growBy_9 (by decide) rfl ?_
  refine Wp.aload_n 0 0 d_Fire_growBy_11 rfl rfl ?_
  refine Wp.getP 47 d_Fire_growBy_12 fl_Fire_17 rfl rfl rfl ?_
  refine Wp.iload 5 5 d_Fire_growBy_15 rfl ?_
  obtain ⟨r8, s12, hp9, hl10, H11⟩ := H6
  refine Wp.aald d_Fire_growBy_17 rfl s12.1 s12.2 hp9 ?_
  refine Wp.iconst d_Fire_growBy_18 (by decide) ?_
  refine Wp.aload 6 6 d_Fire_growBy_19 rfl ?_
  refine Wp.iconst d_Fire_growBy_21 (by decide) ?_
  refine Wp.bipush d_Fire_growBy_22 (by decide) (by decide) ?_
  obtain ⟨s17, H16⟩ := H11
  refine Wq.acopy d_Fire_growBy_24 ml_Fire_74 hl10 hl5 (by decide) (by decide) hd1 (fun h => by cases h) (Nat.le_of_ble_eq_true rfl) s17 (fun m13 hm14 => ?_)
  have H15 := H16 m13 hm14
  refine Wp.iconst d_Fire_growBy_27 (by decide) ?_
  refine Wp.istore 7 [(0, .inr (.inr 45)), (1, .inr (.inr b1_)), (2, .inl x2), (3, .inl x3), (4, .inl x4), (5, .inl x5), (6, .inr (.inr r3)), (7, .inl 0)] d_Fire_growBy_28 (by decide) rfl ?_
  refine Wp.pick [1, 2, 3, 4, 5, 6, 7] [(1, .inr (.inr b1_)), (2, .inl x2), (3, .inl x3), (4, .inl x4), (5, .inl x5), (6, .inr (.inr r3)), (7, .inl 0)] rfl ?_
  exact H15
theorem s_Fire_growBy_30 {l : Launch} {G : GT} {d : Nat} {P : Int → MM → Prop} {m : MM} (x2 : Int) (x3 : Int) (x4 : Int) (x5 : Int) (x7 : Int) (b1_ : Nat) (r3 : Nat) (hB1_ : isB b1_) (hl5 : q_lay r3 = .inr (0, 46)) (H : wfM m → inR x2 → inR x3 → inR x4 → inR x5 → inR x7 → (x7 ≥ (m b1_ 0) → (P 1 m)) ∧ (¬ (x7 ≥ (m b1_ 0)) → (((bAnd (bShr x4 x7) 1) = 0 → ((inR (x7 + 1)) ∧ (Wq l G false Y_Fire_growBy d (QI P) 30 [(1, .inr (.inr b1_)), (2, .inl x2), (3, .inl x3), (4, .inl x4), (5, .inl x5), (6, .inr (.inr r3)), (7, .inl (x7 + 1))] [] m))) ∧ (¬ ((bAnd (bShr x4 x7) 1) = 0) → ((x5 ≠ 0 → (∃ (e18 : Nat) (P19 : Int → MM → Prop), e18 < d ∧ CI l G Y_Board_widthTo e18 [.inr (.inr b1_), .inl x7, .inl x3] m P19 ∧ (∀ z24 m25, P19 z24 m25 → inR z24 → wfM m25 → ((z24 ≠ 0 → ((0 ≤ x7 ∧ x7 < (5 : Int)) ∧ (∃ (e36 : Nat) (P37 : Int → MM → Prop), e36 < d ∧ CI l G Y_Board_widthToBurnt e36 [.inr (.inr b1_), .inl x7, .inl x2] m25 P37 ∧ (∀ z42 m43, P37 z42 m43 → inR z42 → wfM m43 → ((inR ((m25 (b1_ + 4) x7) - z42)) ∧ (∃ (e49 : Nat) (P50 : MM → Prop), e49 < d ∧ CV l G Y_Fire_spread e49 [.inr (.inr r3), .inl ((m25 (b1_ + 4) x7) - z42), .inl z24] m43 P50 ∧ (∀ m56, P50 m56 → wfM m56 → ((inR (x7 + 1)) ∧ (Wq l G false Y_Fire_growBy d (QI P) 30 [(1, .inr (.inr b1_)), (2, .inl x2), (3, .inl x3), (4, .inl x4), (5, .inl x5), (6, .inr (.inr r3)), (7, .inl (x7 + 1))] [] m56))))))))) ∧ (¬ (z24 ≠ 0) → (P 0 m25)))))) ∧ (¬ (x5 ≠ 0) → ((0 ≤ x7 ∧ x7 < (5 : Int)) ∧ (((m (b1_ + 3) x7) ≠ 0 → ((0 ≤ x7 ∧ x7 < (5 : Int)) ∧ (∃ (e71 : Nat) (P72 : Int → MM → Prop), e71 < d ∧ CI l G Y_Board_widthToBurnt e71 [.inr (.inr b1_), .inl x7, .inl x2] m P72 ∧ (∀ z77 m78, P72 z77 m78 → inR z77 → wfM m78 → ((inR ((m (b1_ + 4) x7) - z77)) ∧ (∃ (e84 : Nat) (P85 : MM → Prop), e84 < d ∧ CV l G Y_Fire_spread e84 [.inr (.inr r3), .inl ((m (b1_ + 4) x7) - z77), .inl (m (b1_ + 3) x7)] m78 P85 ∧ (∀ m91, P85 m91 → wfM m91 → ((inR (x7 + 1)) ∧ (Wq l G false Y_Fire_growBy d (QI P) 30 [(1, .inr (.inr b1_)), (2, .inl x2), (3, .inl x3), (4, .inl x4), (5, .inl x5), (6, .inr (.inr r3)), (7, .inl (x7 + 1))] [] m91))))))))) ∧ (¬ ((m (b1_ + 3) x7) ≠ 0) → (P 0 m)))))))))) : Wq l G false Y_Fire_growBy d (QI P) 30 [(1, .inr (.inr b1_)), (2, .inl x2), (3, .inl x3), (4, .inl x4), (5, .inl x5), (6, .inr (.inr r3)), (7, .inl x7)] [] m := by
  refine Wp.wf (fun hw _ hl hs => ?_)
  have H0 := H hw (hl _ (List.mem_of_getElem? (i := 1) rfl)) (hl _ (List.mem_of_getElem? (i := 2) rfl)) (hl _ (List.mem_of_getElem? (i := 3) rfl)) (hl _ (List.mem_of_getElem? (i := 4) rfl)) (hl _ (List.mem_of_getElem? (i := 6) rfl))
  refine Wp.iload 6 7 d_Fire_growBy_30 rfl ?_
  refine Wp.aload_n 0 1 d_Fire_growBy_32 rfl rfl ?_
  refine Wq.getI 0 rfl d_Fire_growBy_33 fl_Fire_43 (isB_lay hB1_) (Or.inl rfl) ?_
  obtain ⟨H2, H3⟩ := H0
  refine Wp.icmp_ge 108 d_Fire_growBy_36 (by decide) (fun c1 => ?_) (fun c1 => ?_)
  · have H4 := H2 c1
    refine Wp.iconst d_Fire_growBy_108 (by decide) ?_
    exact Wq.zret d_Fire_growBy_109 rfl (by decide) H4
  · have H5 := H3 c1
    refine Wp.iload 3 4 d_Fire_growBy_39 rfl ?_
    refine Wp.iload 6 7 d_Fire_growBy_41 rfl ?_
    refine Wp.ishr d_Fire_growBy_43 ?_
    refine Wp.iconst d_Fire_growBy_44 (by decide) ?_
    refine Wp.iand d_Fire_growBy_45 ?_
    obtain ⟨H7, H8⟩ := H5
    refine Wp.if_eq 102 d_Fire_growBy_46 (by decide) (fun c6 => ?_) (fun c6 => ?_)
    · have H9 := H7 c6
      obtain ⟨s11, H12⟩ := H9
      refine Wp.iinc 6 7 [(1, .inr (.inr b1_)), (2, .inl x2), (3, .inl x3), (4, .inl x4), (5, .inl x5), (6, .inr (.inr r3)), (7, .inl (x7 + 1))] d_Fire_growBy_102 rfl s11 (by decide) rfl ?_
      refine Wp.goto 30 d_Fire_growBy_105 (by decide) ?_
      exact H12
    · have H10 := H8 c6
      refine Wp.iload 4 5 d_Fire_growBy_49 rfl ?_
      obtain ⟨H14, H15⟩ := H10
      refine Wp.if_ne 64 d_Fire_growBy_51 (by decide) (fun c13 => ?_) (fun c13 => ?_)
      · have H16 := H14 c13
        refine Wp.aload_n 0 1 d_Fire_growBy_64 rfl rfl ?_
        refine Wp.iload 6 7 d_Fire_growBy_65 rfl ?_
        refine Wp.iload_n 2 3 d_Fire_growBy_67 rfl rfl ?_
        obtain ⟨e18, P19, hd20, ho21, H22⟩ := H16
        refine Wq.VI (st := []) [.inl x7, .inl x3] d_Fire_growBy_68 k_Board_widthTo ml_Fire_83 rfl (isB_lay hB1_) rfl (fun h => by cases h) (Nat.le_of_ble_eq_true rfl) hd20 ho21 (fun z24 m25 hp26 hz27 hw28 => ?_)
        have H23 := H22 z24 m25 hp26 hz27 hw28
        refine Wp.istore 8 [(1, .inr (.inr b1_)), (2, .inl x2), (3, .inl x3), (4, .inl x4), (5, .inl x5), (6, .inr (.inr r3)), (7, .inl x7), (8, .inl z24)] d_Fire_growBy_71 (by decide) rfl ?_
        refine Wp.iload 7 8 d_Fire_growBy_73 rfl ?_
        obtain ⟨H30, H31⟩ := H23
        refine Wp.if_ne 80 d_Fire_growBy_75 (by decide) (fun c29 => ?_) (fun c29 => ?_)
        · have H32 := H30 c29
          refine Wp.aload 5 6 d_Fire_growBy_80 rfl ?_
          refine Wp.aload_n 0 1 d_Fire_growBy_82 rfl rfl ?_
          refine Wp.getP (b1_ + 4) d_Fire_growBy_83 fl_Fire_49 (isB_lay hB1_) rfl (isB_p8 hB1_) ?_
          refine Wp.iload 6 7 d_Fire_growBy_86 rfl ?_
          obtain ⟨s34, H35⟩ := H32
          refine Wp.iald d_Fire_growBy_88 (isB_l8 hB1_) (Or.inl rfl) s34.1 s34.2 ?_
          refine Wp.aload_n 0 1 d_Fire_growBy_89 rfl rfl ?_
          refine Wp.iload 6 7 d_Fire_growBy_90 rfl ?_
          refine Wp.iload_n 1 2 d_Fire_growBy_92 rfl rfl ?_
          obtain ⟨e36, P37, hd38, ho39, H40⟩ := H35
          refine Wq.VI (st := [.inl (m25 (b1_ + 4) x7), .inr (.inr r3)]) [.inl x7, .inl x2] d_Fire_growBy_93 k_Board_widthToBurnt ml_Fire_52 rfl (isB_lay hB1_) rfl (fun h => by cases h) (Nat.le_of_ble_eq_true rfl) hd38 ho39 (fun z42 m43 hp44 hz45 hw46 => ?_)
          have H41 := H40 z42 m43 hp44 hz45 hw46
          obtain ⟨s47, H48⟩ := H41
          refine Wp.isub d_Fire_growBy_96 s47 ?_
          refine Wp.iload 7 8 d_Fire_growBy_97 rfl ?_
          obtain ⟨e49, P50, hd51, ho52, H53⟩ := H48
          refine Wq.SV (st := []) [.inr (.inr r3), .inl ((m25 (b1_ + 4) x7) - z42), .inl z24] d_Fire_growBy_99 k_Fire_spread ml_Fire_86 rfl  (fun h => by cases h) (Nat.le_of_ble_eq_true rfl) hd51 ho52 (fun m56 hp57 hw59 => ?_)
          have H54 := H53 m56 hp57 hw59
          obtain ⟨s60, H61⟩ := H54
          refine Wp.iinc 6 7 [(1, .inr (.inr b1_)), (2, .inl x2), (3, .inl x3), (4, .inl x4), (5, .inl x5), (6, .inr (.inr r3)), (7, .inl (x7 + 1)), (8, .inl z24)] d_Fire_growBy_102 rfl s60 (by decide) rfl ?_
          refine Wp.goto 30 d_Fire_growBy_105 (by decide) ?_
          refine Wp.pick [0, 1, 2, 3, 4, 5, 6] [(1, .inr (.inr b1_)), (2, .inl x2), (3, .inl x3), (4, .inl x4), (5, .inl x5), (6, .inr (.inr r3)), (7, .inl (x7 + 1))] rfl ?_
          exact H61
        · have H33 := H31 c29
          refine Wp.iconst d_Fire_growBy_78 (by decide) ?_
          exact Wq.zret d_Fire_growBy_79 rfl (by decide) H33
      · have H17 := H15 c13
        refine Wp.aload_n 0 1 d_Fire_growBy_54 rfl rfl ?_
        refine Wp.getP (b1_ + 3) d_Fire_growBy_55 fl_Fire_80 (isB_lay hB1_) rfl (isB_p7 hB1_) ?_
        refine Wp.iload 6 7 d_Fire_growBy_58 rfl ?_
        obtain ⟨s62, H63⟩ := H17
        refine Wp.iald d_Fire_growBy_60 (isB_l7 hB1_) (Or.inl rfl) s62.1 s62.2 ?_
        refine Wp.goto 71 d_Fire_growBy_61 (by decide) ?_
        refine Wp.istore 8 [(1, .inr (.inr b1_)), (2, .inl x2), (3, .inl x3), (4, .inl x4), (5, .inl x5), (6, .inr (.inr r3)), (7, .inl x7), (8, .inl (m (b1_ + 3) x7))] d_Fire_growBy_71 (by decide) rfl ?_
        refine Wp.iload 7 8 d_Fire_growBy_73 rfl ?_
        obtain ⟨H65, H66⟩ := H63
        refine Wp.if_ne 80 d_Fire_growBy_75 (by decide) (fun c64 => ?_) (fun c64 => ?_)
        · have H67 := H65 c64
          refine Wp.aload 5 6 d_Fire_growBy_80 rfl ?_
          refine Wp.aload_n 0 1 d_Fire_growBy_82 rfl rfl ?_
          refine Wp.getP (b1_ + 4) d_Fire_growBy_83 fl_Fire_49 (isB_lay hB1_) rfl (isB_p8 hB1_) ?_
          refine Wp.iload 6 7 d_Fire_growBy_86 rfl ?_
          obtain ⟨s69, H70⟩ := H67
          refine Wp.iald d_Fire_growBy_88 (isB_l8 hB1_) (Or.inl rfl) s69.1 s69.2 ?_
          refine Wp.aload_n 0 1 d_Fire_growBy_89 rfl rfl ?_
          refine Wp.iload 6 7 d_Fire_growBy_90 rfl ?_
          refine Wp.iload_n 1 2 d_Fire_growBy_92 rfl rfl ?_
          obtain ⟨e71, P72, hd73, ho74, H75⟩ := H70
          refine Wq.VI (st := [.inl (m (b1_ + 4) x7), .inr (.inr r3)]) [.inl x7, .inl x2] d_Fire_growBy_93 k_Board_widthToBurnt ml_Fire_52 rfl (isB_lay hB1_) rfl (fun h => by cases h) (Nat.le_of_ble_eq_true rfl) hd73 ho74 (fun z77 m78 hp79 hz80 hw81 => ?_)
          have H76 := H75 z77 m78 hp79 hz80 hw81
          obtain ⟨s82, H83⟩ := H76
          refine Wp.isub d_Fire_growBy_96 s82 ?_
          refine Wp.iload 7 8 d_Fire_growBy_97 rfl ?_
          obtain ⟨e84, P85, hd86, ho87, H88⟩ := H83
          refine Wq.SV (st := []) [.inr (.inr r3), .inl ((m (b1_ + 4) x7) - z77), .inl (m (b1_ + 3) x7)] d_Fire_growBy_99 k_Fire_spread ml_Fire_86 rfl  (fun h => by cases h) (Nat.le_of_ble_eq_true rfl) hd86 ho87 (fun m91 hp92 hw94 => ?_)
          have H89 := H88 m91 hp92 hw94
          obtain ⟨s95, H96⟩ := H89
          refine Wp.iinc 6 7 [(1, .inr (.inr b1_)), (2, .inl x2), (3, .inl x3), (4, .inl x4), (5, .inl x5), (6, .inr (.inr r3)), (7, .inl (x7 + 1)), (8, .inl (m (b1_ + 3) x7))] d_Fire_growBy_102 rfl s95 (by decide) rfl ?_
          refine Wp.goto 30 d_Fire_growBy_105 (by decide) ?_
          refine Wp.pick [0, 1, 2, 3, 4, 5, 6] [(1, .inr (.inr b1_)), (2, .inl x2), (3, .inl x3), (4, .inl x4), (5, .inl x5), (6, .inr (.inr r3)), (7, .inl (x7 + 1))] rfl ?_
          exact H96
        · have H68 := H66 c64
          refine Wp.iconst d_Fire_growBy_78 (by decide) ?_
          exact Wq.zret d_Fire_growBy_79 rfl (by decide) H68
theorem d_Fire_spread_0 : decode Y_Fire_spread.2.1 0 = .ok (.bipush 45, 2) := by decide +kernel
theorem d_Fire_spread_2 : decode Y_Fire_spread.2.1 2 = .ok (.istore_n 3, 1) := by decide +kernel
theorem d_Fire_spread_3 : decode Y_Fire_spread.2.1 3 = .ok (.iload_n 3, 1) := by decide +kernel
theorem d_Fire_spread_4 : decode Y_Fire_spread.2.1 4 = .ok (.ifCond .lt 51, 3) := by decide +kernel
theorem d_Fire_spread_7 : decode Y_Fire_spread.2.1 7 = .ok (.iconst 0, 1) := by decide +kernel
theorem d_Fire_spread_8 : decode Y_Fire_spread.2.1 8 = .ok (.istore 4, 2) := by decide +kernel
theorem d_Fire_spread_10 : decode Y_Fire_spread.2.1 10 = .ok (.iload_n 1, 1) := by decide +kernel
theorem d_Fire_spread_11 : decode Y_Fire_spread.2.1 11 = .ok (.istore 5, 2) := by decide +kernel
theorem d_Fire_spread_13 : decode Y_Fire_spread.2.1 13 = .ok (.iload 5, 2) := by decide +kernel
theorem d_Fire_spread_15 : decode Y_Fire_spread.2.1 15 = .ok (.iload_n 1, 1) := by decide +kernel
theorem d_Fire_spread_16 : decode Y_Fire_spread.2.1 16 = .ok (.iload_n 2, 1) := by decide +kernel
theorem d_Fire_spread_17 : decode Y_Fire_spread.2.1 17 = .ok (.iadd, 1) := by decide +kernel
theorem d_Fire_spread_18 : decode Y_Fire_spread.2.1 18 = .ok (.if_icmp .ge 26, 3) := by decide +kernel
theorem d_Fire_spread_21 : decode Y_Fire_spread.2.1 21 = .ok (.iload 5, 2) := by decide +kernel
theorem d_Fire_spread_23 : decode Y_Fire_spread.2.1 23 = .ok (.iload_n 3, 1) := by decide +kernel
theorem d_Fire_spread_24 : decode Y_Fire_spread.2.1 24 = .ok (.if_icmp .gt 20, 3) := by decide +kernel
theorem d_Fire_spread_27 : decode Y_Fire_spread.2.1 27 = .ok (.iload 4, 2) := by decide +kernel
theorem d_Fire_spread_29 : decode Y_Fire_spread.2.1 29 = .ok (.aload_n 0, 1) := by decide +kernel
theorem d_Fire_spread_30 : decode Y_Fire_spread.2.1 30 = .ok (.iload_n 3, 1) := by decide +kernel
theorem d_Fire_spread_31 : decode Y_Fire_spread.2.1 31 = .ok (.iload 5, 2) := by decide +kernel
theorem d_Fire_spread_33 : decode Y_Fire_spread.2.1 33 = .ok (.isub, 1) := by decide +kernel
theorem d_Fire_spread_34 : decode Y_Fire_spread.2.1 34 = .ok (.iaload, 1) := by decide +kernel
theorem d_Fire_spread_35 : decode Y_Fire_spread.2.1 35 = .ok (.iadd, 1) := by decide +kernel
theorem d_Fire_spread_36 : decode Y_Fire_spread.2.1 36 = .ok (.istore 4, 2) := by decide +kernel
theorem d_Fire_spread_38 : decode Y_Fire_spread.2.1 38 = .ok (.iinc 5 1, 3) := by decide +kernel
theorem d_Fire_spread_41 : decode Y_Fire_spread.2.1 41 = .ok (.goto (-28), 3) := by decide +kernel
theorem d_Fire_spread_44 : decode Y_Fire_spread.2.1 44 = .ok (.aload_n 0, 1) := by decide +kernel
theorem d_Fire_spread_45 : decode Y_Fire_spread.2.1 45 = .ok (.iload_n 3, 1) := by decide +kernel
theorem d_Fire_spread_46 : decode Y_Fire_spread.2.1 46 = .ok (.iload 4, 2) := by decide +kernel
theorem d_Fire_spread_48 : decode Y_Fire_spread.2.1 48 = .ok (.iastore, 1) := by decide +kernel
theorem d_Fire_spread_49 : decode Y_Fire_spread.2.1 49 = .ok (.iinc 3 (-1), 3) := by decide +kernel
theorem d_Fire_spread_52 : decode Y_Fire_spread.2.1 52 = .ok (.goto (-49), 3) := by decide +kernel
theorem d_Fire_spread_55 : decode Y_Fire_spread.2.1 55 = .ok (.return_, 1) := by decide +kernel
theorem e_Fire_spread {l : Launch} {G : GT} {d : Nat} {P : MM → Prop} {m : MM} (x1 : Int) (x2 : Int) (h0 : Nat) (n0 : Nat) (hl0 : q_lay h0 = .inr (0, n0)) (hlt_h0 : n0 < 2147483648) (H : wfM m → inR x1 → inR x2 → Wq l G false Y_Fire_spread d (QV P) 3 [(0, .inr (.inr h0)), (1, .inl x1), (2, .inl x2), (3, .inl 45)] [] m) : CV l G Y_Fire_spread d [.inr (.inr h0), .inl x1, .inl x2] m P := by
  refine CV.of [(0, .inr (.inr h0)), (1, .inl x1), (2, .inl x2)] k_Fire_spread.1 (Nat.le_of_ble_eq_true rfl) rfl (Wp.wf (fun hw _ hl hs => ?_))
  have H0 := H hw (hl _ (List.mem_of_getElem? (i := 1) rfl)) (hl _ (List.mem_of_getElem? (i := 2) rfl))
  refine Wp.bipush d_Fire_spread_0 (by decide) (by decide) ?_
  refine Wp.istore_n 3 [(0, .inr (.inr h0)), (1, .inl x1), (2, .inl x2), (3, .inl 45)] d_Fire_spread_2 rfl (by decide) rfl ?_
  exact H0
theorem s_Fire_spread_3 {l : Launch} {G : GT} {d : Nat} {P : MM → Prop} {m : MM} (x1 : Int) (x2 : Int) (x3 : Int) (h0 : Nat) (n0 : Nat) (hl0 : q_lay h0 = .inr (0, n0)) (hlt_h0 : n0 < 2147483648) (H : wfM m → inR x1 → inR x2 → inR x3 → (x3 < 0 → (P m)) ∧ (¬ (x3 < 0) → (Wq l G false Y_Fire_spread d (QV P) 13 [(0, .inr (.inr h0)), (1, .inl x1), (2, .inl x2), (3, .inl x3), (4, .inl 0), (5, .inl x1)] [] m))) : Wq l G false Y_Fire_spread d (QV P) 3 [(0, .inr (.inr h0)), (1, .inl x1), (2, .inl x2), (3, .inl x3)] [] m := by
  refine Wp.wf (fun hw _ hl hs => ?_)
  have H0 := H hw (hl _ (List.mem_of_getElem? (i := 1) rfl)) (hl _ (List.mem_of_getElem? (i := 2) rfl)) (hl _ (List.mem_of_getElem? (i := 3) rfl))
  refine Wp.iload_n 3 3 d_Fire_spread_3 rfl rfl ?_
  obtain ⟨H2, H3⟩ := H0
  refine Wp.if_lt 55 d_Fire_spread_4 (by decide) (fun c1 => ?_) (fun c1 => ?_)
  · have H4 := H2 c1
    exact Wq.vret d_Fire_spread_55 rfl H4
  · have H5 := H3 c1
    refine Wp.iconst d_Fire_spread_7 (by decide) ?_
    refine Wp.istore 4 [(0, .inr (.inr h0)), (1, .inl x1), (2, .inl x2), (3, .inl x3), (4, .inl 0)] d_Fire_spread_8 (by decide) rfl ?_
    refine Wp.iload_n 1 1 d_Fire_spread_10 rfl rfl ?_
    refine Wp.istore 5 [(0, .inr (.inr h0)), (1, .inl x1), (2, .inl x2), (3, .inl x3), (4, .inl 0), (5, .inl x1)] d_Fire_spread_11 (by decide) rfl ?_
    exact H5
theorem s_Fire_spread_13 {l : Launch} {G : GT} {d : Nat} {P : MM → Prop} {m : MM} (x1 : Int) (x2 : Int) (x3 : Int) (x4 : Int) (x5 : Int) (h0 : Nat) (n0 : Nat) (hl0 : q_lay h0 = .inr (0, n0)) (hlt_h0 : n0 < 2147483648) (H : wfM m → inR x1 → inR x2 → inR x3 → inR x4 → inR x5 → (inR (x1 + x2)) ∧ ((x5 ≥ (x1 + x2) → ((0 ≤ x3 ∧ x3 < (n0 : Int)) ∧ (∀ m8, m8 = up m h0 x3 x4 → ((inR (x3 + (-1))) ∧ (Wq l G false Y_Fire_spread d (QV P) 3 [(0, .inr (.inr h0)), (1, .inl x1), (2, .inl x2), (3, .inl (x3 + (-1)))] [] m8))))) ∧ (¬ (x5 ≥ (x1 + x2)) → ((x5 > x3 → ((0 ≤ x3 ∧ x3 < (n0 : Int)) ∧ (∀ m22, m22 = up m h0 x3 x4 → ((inR (x3 + (-1))) ∧ (Wq l G false Y_Fire_spread d (QV P) 3 [(0, .inr (.inr h0)), (1, .inl x1), (2, .inl x2), (3, .inl (x3 + (-1)))] [] m22))))) ∧ (¬ (x5 > x3) → ((inR (x3 - x5)) ∧ ((0 ≤ (x3 - x5) ∧ (x3 - x5) < (n0 : Int)) ∧ ((inR (x4 + (m h0 (x3 - x5)))) ∧ ((inR (x5 + 1)) ∧ (Wq l G false Y_Fire_spread d (QV P) 13 [(0, .inr (.inr h0)), (1, .inl x1), (2, .inl x2), (3, .inl x3), (4, .inl (x4 + (m h0 (x3 - x5)))), (5, .inl (x5 + 1))] [] m)))))))))) : Wq l G false Y_Fire_spread d (QV P) 13 [(0, .inr (.inr h0)), (1, .inl x1), (2, .inl x2), (3, .inl x3), (4, .inl x4), (5, .inl x5)] [] m := by
  refine Wp.wf (fun hw _ hl hs => ?_)
  have H0 := H hw (hl _ (List.mem_of_getElem? (i := 1) rfl)) (hl _ (List.mem_of_getElem? (i := 2) rfl)) (hl _ (List.mem_of_getElem? (i := 3) rfl)) (hl _ (List.mem_of_getElem? (i := 4) rfl)) (hl _ (List.mem_of_getElem? (i := 5) rfl))
  refine Wp.iload 5 5 d_Fire_spread_13 rfl ?_
  refine Wp.iload_n 1 1 d_Fire_spread_15 rfl rfl ?_
  refine Wp.iload_n 2 2 d_Fire_spread_16 rfl rfl ?_
  obtain ⟨s1, H2⟩ := H0
  refine Wp.iadd d_Fire_spread_17 s1 ?_
  obtain ⟨H4, H5⟩ := H2
  refine Wp.icmp_ge 44 d_Fire_spread_18 (by decide) (fun c3 => ?_) (fun c3 => ?_)
  · have H6 := H4 c3
    refine Wp.aload_n 0 0 d_Fire_spread_44 rfl rfl ?_
    refine Wp.iload_n 3 3 d_Fire_spread_45 rfl rfl ?_
    refine Wp.iload 4 4 d_Fire_spread_46 rfl ?_
    obtain ⟨s15, H16⟩ := H6
    refine Wq.iast d_Fire_spread_48 hl0 s15.1 s15.2 (fun m8 hm9 => ?_)
    have H10 := H16 m8 hm9
    obtain ⟨s13, H14⟩ := H10
    refine Wp.iinc 3 3 [(0, .inr (.inr h0)), (1, .inl x1), (2, .inl x2), (3, .inl (x3 + (-1))), (4, .inl x4), (5, .inl x5)] d_Fire_spread_49 rfl s13 (by decide) rfl ?_
    refine Wp.goto 3 d_Fire_spread_52 (by decide) ?_
    refine Wp.pick [0, 1, 2, 3] [(0, .inr (.inr h0)), (1, .inl x1), (2, .inl x2), (3, .inl (x3 + (-1)))] rfl ?_
    exact H14
  · have H7 := H5 c3
    refine Wp.iload 5 5 d_Fire_spread_21 rfl ?_
    refine Wp.iload_n 3 3 d_Fire_spread_23 rfl rfl ?_
    obtain ⟨H18, H19⟩ := H7
    refine Wp.icmp_gt 44 d_Fire_spread_24 (by decide) (fun c17 => ?_) (fun c17 => ?_)
    · have H20 := H18 c17
      refine Wp.aload_n 0 0 d_Fire_spread_44 rfl rfl ?_
      refine Wp.iload_n 3 3 d_Fire_spread_45 rfl rfl ?_
      refine Wp.iload 4 4 d_Fire_spread_46 rfl ?_
      obtain ⟨s29, H30⟩ := H20
      refine Wq.iast d_Fire_spread_48 hl0 s29.1 s29.2 (fun m22 hm23 => ?_)
      have H24 := H30 m22 hm23
      obtain ⟨s27, H28⟩ := H24
      refine Wp.iinc 3 3 [(0, .inr (.inr h0)), (1, .inl x1), (2, .inl x2), (3, .inl (x3 + (-1))), (4, .inl x4), (5, .inl x5)] d_Fire_spread_49 rfl s27 (by decide) rfl ?_
      refine Wp.goto 3 d_Fire_spread_52 (by decide) ?_
      refine Wp.pick [0, 1, 2, 3] [(0, .inr (.inr h0)), (1, .inl x1), (2, .inl x2), (3, .inl (x3 + (-1)))] rfl ?_
      exact H28
    · have H21 := H19 c17
      refine Wp.iload 4 4 d_Fire_spread_27 rfl ?_
      refine Wp.aload_n 0 0 d_Fire_spread_29 rfl rfl ?_
      refine Wp.iload_n 3 3 d_Fire_spread_30 rfl rfl ?_
      refine Wp.iload 5 5 d_Fire_spread_31 rfl ?_
      obtain ⟨s31, H32⟩ := H21
      refine Wp.isub d_Fire_spread_33 s31 ?_
      obtain ⟨s33, H34⟩ := H32
      refine Wp.iald d_Fire_spread_34 hl0 (Or.inl rfl) s33.1 s33.2 ?_
      obtain ⟨s35, H36⟩ := H34
      refine Wp.iadd d_Fire_spread_35 s35 ?_
      refine Wp.istore 4 [(0, .inr (.inr h0)), (1, .inl x1), (2, .inl x2), (3, .inl x3), (4, .inl (x4 + (m h0 (x3 - x5)))), (5, .inl x5)] d_Fire_spread_36 (by decide) rfl ?_
      obtain ⟨s37, H38⟩ := H36
      refine Wp.iinc 5 5 [(0, .inr (.inr h0)), (1, .inl x1), (2, .inl x2), (3, .inl x3), (4, .inl (x4 + (m h0 (x3 - x5)))), (5, .inl (x5 + 1))] d_Fire_spread_38 rfl s37 (by decide) rfl ?_
      refine Wp.goto 13 d_Fire_spread_41 (by decide) ?_
      exact H38
theorem d_Fire_leastToAdd_0 : decode Y_Fire_leastToAdd.2.1 0 = .ok (.iconst 1, 1) := by decide +kernel
theorem d_Fire_leastToAdd_1 : decode Y_Fire_leastToAdd.2.1 1 = .ok (.aload_n 1, 1) := by decide +kernel
theorem d_Fire_leastToAdd_2 : decode Y_Fire_leastToAdd.2.1 2 = .ok (.getfield 43, 3) := by decide +kernel
theorem d_Fire_leastToAdd_5 : decode Y_Fire_leastToAdd.2.1 5 = .ok (.ishl, 1) := by decide +kernel
theorem d_Fire_leastToAdd_6 : decode Y_Fire_leastToAdd.2.1 6 = .ok (.iconst 1, 1) := by decide +kernel
theorem d_Fire_leastToAdd_7 : decode Y_Fire_leastToAdd.2.1 7 = .ok (.isub, 1) := by decide +kernel
theorem d_Fire_leastToAdd_8 : decode Y_Fire_leastToAdd.2.1 8 = .ok (.istore 4, 2) := by decide +kernel
theorem d_Fire_leastToAdd_10 : decode Y_Fire_leastToAdd.2.1 10 = .ok (.aload_n 0, 1) := by decide +kernel
theorem d_Fire_leastToAdd_11 : decode Y_Fire_leastToAdd.2.1 11 = .ok (.getfield 20, 3) := by decide +kernel
theorem d_Fire_leastToAdd_14 : decode Y_Fire_leastToAdd.2.1 14 = .ok (.iconst 0, 1) := by decide +kernel
theorem d_Fire_leastToAdd_15 : decode Y_Fire_leastToAdd.2.1 15 = .ok (.iconst 0, 1) := by decide +kernel
theorem d_Fire_leastToAdd_16 : decode Y_Fire_leastToAdd.2.1 16 = .ok (.iastore, 1) := by decide +kernel
theorem d_Fire_leastToAdd_17 : decode Y_Fire_leastToAdd.2.1 17 = .ok (.iconst 1, 1) := by decide +kernel
theorem d_Fire_leastToAdd_18 : decode Y_Fire_leastToAdd.2.1 18 = .ok (.istore 5, 2) := by decide +kernel
theorem d_Fire_leastToAdd_20 : decode Y_Fire_leastToAdd.2.1 20 = .ok (.iload 5, 2) := by decide +kernel
theorem d_Fire_leastToAdd_22 : decode Y_Fire_leastToAdd.2.1 22 = .ok (.iload 4, 2) := by decide +kernel
theorem d_Fire_leastToAdd_24 : decode Y_Fire_leastToAdd.2.1 24 = .ok (.if_icmp .gt 93, 3) := by decide +kernel
theorem d_Fire_leastToAdd_27 : decode Y_Fire_leastToAdd.2.1 27 = .ok (.aload_n 0, 1) := by decide +kernel
theorem d_Fire_leastToAdd_28 : decode Y_Fire_leastToAdd.2.1 28 = .ok (.getfield 20, 3) := by decide +kernel
theorem d_Fire_leastToAdd_31 : decode Y_Fire_leastToAdd.2.1 31 = .ok (.iload 5, 2) := by decide +kernel
theorem d_Fire_leastToAdd_33 : decode Y_Fire_leastToAdd.2.1 33 = .ok (.ldc 90, 2) := by decide +kernel
theorem d_Fire_leastToAdd_35 : decode Y_Fire_leastToAdd.2.1 35 = .ok (.iastore, 1) := by decide +kernel
theorem d_Fire_leastToAdd_36 : decode Y_Fire_leastToAdd.2.1 36 = .ok (.iconst 0, 1) := by decide +kernel
theorem d_Fire_leastToAdd_37 : decode Y_Fire_leastToAdd.2.1 37 = .ok (.istore 6, 2) := by decide +kernel
theorem d_Fire_leastToAdd_39 : decode Y_Fire_leastToAdd.2.1 39 = .ok (.iload 6, 2) := by decide +kernel
theorem d_Fire_leastToAdd_41 : decode Y_Fire_leastToAdd.2.1 41 = .ok (.aload_n 1, 1) := by decide +kernel
theorem d_Fire_leastToAdd_42 : decode Y_Fire_leastToAdd.2.1 42 = .ok (.getfield 43, 3) := by decide +kernel
theorem d_Fire_leastToAdd_45 : decode Y_Fire_leastToAdd.2.1 45 = .ok (.if_icmp .ge 66, 3) := by decide +kernel
theorem d_Fire_leastToAdd_48 : decode Y_Fire_leastToAdd.2.1 48 = .ok (.iload 5, 2) := by decide +kernel
theorem d_Fire_leastToAdd_50 : decode Y_Fire_leastToAdd.2.1 50 = .ok (.iconst 1, 1) := by decide +kernel
theorem d_Fire_leastToAdd_51 : decode Y_Fire_leastToAdd.2.1 51 = .ok (.iload 6, 2) := by decide +kernel
theorem d_Fire_leastToAdd_53 : decode Y_Fire_leastToAdd.2.1 53 = .ok (.ishl, 1) := by decide +kernel
theorem d_Fire_leastToAdd_54 : decode Y_Fire_leastToAdd.2.1 54 = .ok (.iconst (-1), 1) := by decide +kernel
theorem d_Fire_leastToAdd_55 : decode Y_Fire_leastToAdd.2.1 55 = .ok (.ixor, 1) := by decide +kernel
theorem d_Fire_leastToAdd_56 : decode Y_Fire_leastToAdd.2.1 56 = .ok (.iand, 1) := by decide +kernel
theorem d_Fire_leastToAdd_57 : decode Y_Fire_leastToAdd.2.1 57 = .ok (.istore 7, 2) := by decide +kernel
theorem d_Fire_leastToAdd_59 : decode Y_Fire_leastToAdd.2.1 59 = .ok (.iload 7, 2) := by decide +kernel
theorem d_Fire_leastToAdd_61 : decode Y_Fire_leastToAdd.2.1 61 = .ok (.iload 5, 2) := by decide +kernel
theorem d_Fire_leastToAdd_63 : decode Y_Fire_leastToAdd.2.1 63 = .ok (.if_icmp .eq 42, 3) := by decide +kernel
theorem d_Fire_leastToAdd_66 : decode Y_Fire_leastToAdd.2.1 66 = .ok (.aload_n 0, 1) := by decide +kernel
theorem d_Fire_leastToAdd_67 : decode Y_Fire_leastToAdd.2.1 67 = .ok (.getfield 20, 3) := by decide +kernel
theorem d_Fire_leastToAdd_70 : decode Y_Fire_leastToAdd.2.1 70 = .ok (.iload 7, 2) := by decide +kernel
theorem d_Fire_leastToAdd_72 : decode Y_Fire_leastToAdd.2.1 72 = .ok (.iaload, 1) := by decide +kernel
theorem d_Fire_leastToAdd_73 : decode Y_Fire_leastToAdd.2.1 73 = .ok (.ldc 90, 2) := by decide +kernel
theorem d_Fire_leastToAdd_75 : decode Y_Fire_leastToAdd.2.1 75 = .ok (.if_icmp .ge 30, 3) := by decide +kernel
theorem d_Fire_leastToAdd_78 : decode Y_Fire_leastToAdd.2.1 78 = .ok (.aload_n 0, 1) := by decide +kernel
theorem d_Fire_leastToAdd_79 : decode Y_Fire_leastToAdd.2.1 79 = .ok (.getfield 20, 3) := by decide +kernel
theorem d_Fire_leastToAdd_82 : decode Y_Fire_leastToAdd.2.1 82 = .ok (.iload 5, 2) := by decide +kernel
theorem d_Fire_leastToAdd_84 : decode Y_Fire_leastToAdd.2.1 84 = .ok (.aload_n 0, 1) := by decide +kernel
theorem d_Fire_leastToAdd_85 : decode Y_Fire_leastToAdd.2.1 85 = .ok (.getfield 20, 3) := by decide +kernel
theorem d_Fire_leastToAdd_88 : decode Y_Fire_leastToAdd.2.1 88 = .ok (.iload 5, 2) := by decide +kernel
theorem d_Fire_leastToAdd_90 : decode Y_Fire_leastToAdd.2.1 90 = .ok (.iaload, 1) := by decide +kernel
theorem d_Fire_leastToAdd_91 : decode Y_Fire_leastToAdd.2.1 91 = .ok (.aload_n 0, 1) := by decide +kernel
theorem d_Fire_leastToAdd_92 : decode Y_Fire_leastToAdd.2.1 92 = .ok (.aload_n 1, 1) := by decide +kernel
theorem d_Fire_leastToAdd_93 : decode Y_Fire_leastToAdd.2.1 93 = .ok (.aload_n 2, 1) := by decide +kernel
theorem d_Fire_leastToAdd_94 : decode Y_Fire_leastToAdd.2.1 94 = .ok (.iload 7, 2) := by decide +kernel
theorem d_Fire_leastToAdd_96 : decode Y_Fire_leastToAdd.2.1 96 = .ok (.iload 6, 2) := by decide +kernel
theorem d_Fire_leastToAdd_98 : decode Y_Fire_leastToAdd.2.1 98 = .ok (.invokevirtual 91, 3) := by decide +kernel
theorem d_Fire_leastToAdd_101 : decode Y_Fire_leastToAdd.2.1 101 = .ok (.invokestatic 95, 3) := by decide +kernel
theorem d_Fire_leastToAdd_104 : decode Y_Fire_leastToAdd.2.1 104 = .ok (.iastore, 1) := by decide +kernel
theorem d_Fire_leastToAdd_105 : decode Y_Fire_leastToAdd.2.1 105 = .ok (.iinc 6 1, 3) := by decide +kernel
theorem d_Fire_leastToAdd_108 : decode Y_Fire_leastToAdd.2.1 108 = .ok (.goto (-69), 3) := by decide +kernel
theorem d_Fire_leastToAdd_111 : decode Y_Fire_leastToAdd.2.1 111 = .ok (.iinc 5 1, 3) := by decide +kernel
theorem d_Fire_leastToAdd_114 : decode Y_Fire_leastToAdd.2.1 114 = .ok (.goto (-94), 3) := by decide +kernel
theorem d_Fire_leastToAdd_117 : decode Y_Fire_leastToAdd.2.1 117 = .ok (.iconst 0, 1) := by decide +kernel
theorem d_Fire_leastToAdd_118 : decode Y_Fire_leastToAdd.2.1 118 = .ok (.istore 5, 2) := by decide +kernel
theorem d_Fire_leastToAdd_120 : decode Y_Fire_leastToAdd.2.1 120 = .ok (.iload 5, 2) := by decide +kernel
theorem d_Fire_leastToAdd_122 : decode Y_Fire_leastToAdd.2.1 122 = .ok (.aload_n 1, 1) := by decide +kernel
theorem d_Fire_leastToAdd_123 : decode Y_Fire_leastToAdd.2.1 123 = .ok (.getfield 43, 3) := by decide +kernel
theorem d_Fire_leastToAdd_126 : decode Y_Fire_leastToAdd.2.1 126 = .ok (.if_icmp .ge 29, 3) := by decide +kernel
theorem d_Fire_leastToAdd_129 : decode Y_Fire_leastToAdd.2.1 129 = .ok (.aload_n 3, 1) := by decide +kernel
theorem d_Fire_leastToAdd_130 : decode Y_Fire_leastToAdd.2.1 130 = .ok (.aload_n 0, 1) := by decide +kernel
theorem d_Fire_leastToAdd_131 : decode Y_Fire_leastToAdd.2.1 131 = .ok (.getfield 20, 3) := by decide +kernel
theorem d_Fire_leastToAdd_134 : decode Y_Fire_leastToAdd.2.1 134 = .ok (.iload 4, 2) := by decide +kernel
theorem d_Fire_leastToAdd_136 : decode Y_Fire_leastToAdd.2.1 136 = .ok (.iaload, 1) := by decide +kernel
theorem d_Fire_leastToAdd_137 : decode Y_Fire_leastToAdd.2.1 137 = .ok (.iload 5, 2) := by decide +kernel
theorem d_Fire_leastToAdd_139 : decode Y_Fire_leastToAdd.2.1 139 = .ok (.invokestatic 100, 3) := by decide +kernel
theorem d_Fire_leastToAdd_142 : decode Y_Fire_leastToAdd.2.1 142 = .ok (.ishr, 1) := by decide +kernel
theorem d_Fire_leastToAdd_143 : decode Y_Fire_leastToAdd.2.1 143 = .ok (.bipush 15, 2) := by decide +kernel
theorem d_Fire_leastToAdd_145 : decode Y_Fire_leastToAdd.2.1 145 = .ok (.iand, 1) := by decide +kernel
theorem d_Fire_leastToAdd_146 : decode Y_Fire_leastToAdd.2.1 146 = .ok (.invokevirtual 31, 3) := by decide +kernel
theorem d_Fire_leastToAdd_149 : decode Y_Fire_leastToAdd.2.1 149 = .ok (.iinc 5 1, 3) := by decide +kernel
theorem d_Fire_leastToAdd_152 : decode Y_Fire_leastToAdd.2.1 152 = .ok (.goto (-32), 3) := by decide +kernel
theorem d_Fire_leastToAdd_155 : decode Y_Fire_leastToAdd.2.1 155 = .ok (.aload_n 0, 1) := by decide +kernel
theorem d_Fire_leastToAdd_156 : decode Y_Fire_leastToAdd.2.1 156 = .ok (.getfield 20, 3) := by decide +kernel
theorem d_Fire_leastToAdd_159 : decode Y_Fire_leastToAdd.2.1 159 = .ok (.iload 4, 2) := by decide +kernel
theorem d_Fire_leastToAdd_161 : decode Y_Fire_leastToAdd.2.1 161 = .ok (.iaload, 1) := by decide +kernel
theorem d_Fire_leastToAdd_162 : decode Y_Fire_leastToAdd.2.1 162 = .ok (.bipush 20, 2) := by decide +kernel
theorem d_Fire_leastToAdd_164 : decode Y_Fire_leastToAdd.2.1 164 = .ok (.ishr, 1) := by decide +kernel
theorem d_Fire_leastToAdd_165 : decode Y_Fire_leastToAdd.2.1 165 = .ok (.ireturn, 1) := by decide +kernel
theorem e_Fire_leastToAdd {l : Launch} {G : GT} {d : Nat} {P : Int → MM → Prop} {m : MM} (b1_ : Nat) (h2 : Nat) (n2 : Nat) (hB1_ : isB b1_) (hl2 : q_lay h2 = .inr (0, n2)) (hlt_h2 : n2 < 2147483648) (H : wfM m → (inR ((bShl 1 (m b1_ 0)) - 1)) ∧ (∀ m3, m3 = up m 54 0 0 → (Wq l G false Y_Fire_leastToAdd d (QI P) 20 [(0, .inr (.inr 45)), (1, .inr (.inr b1_)), (2, .inr (.inr h2)), (3, .inr (.inr 67)), (4, .inl ((bShl 1 (m b1_ 0)) - 1)), (5, .inl 1)] [] m3))) : CI l G Y_Fire_leastToAdd d [.inr (.inr 45), .inr (.inr b1_), .inr (.inr h2), .inr (.inr 67)] m P := by
  refine CI.of [(0, .inr (.inr 45)), (1, .inr (.inr b1_)), (2, .inr (.inr h2)), (3, .inr (.inr 67))] k_Fire_leastToAdd.1 (Nat.le_of_ble_eq_true rfl) rfl (Wp.wf (fun hw _ hl hs => ?_))
  have H0 := H hw
  refine Wp.iconst d_Fire_leastToAdd_0 (by decide) ?_
  refine Wp.aload_n 1 1 d_Fire_leastToAdd_1 rfl rfl ?_
  refine Wq.getI 0 rfl d_Fire_leastToAdd_2 fl_Fire_43 (isB_lay hB1_) (Or.inl rfl) ?_
  refine Wp.ishl d_Fire_leastToAdd_5 ?_
  refine Wp.iconst d_Fire_leastToAdd_6 (by decide) ?_
  obtain ⟨s1, H2⟩ := H0
  refine Wp.isub d_Fire_leastToAdd_7 s1 ?_
  refine Wp.istore 4 [(0, .inr (.inr 45)), (1, .inr (.inr b1_)), (2, .inr (.inr h2)), (3, .inr (.inr 67)), (4, .inl ((bShl 1 (m b1_ 0)) - 1))] d_Fire_leastToAdd_8 (by decide) rfl ?_
  refine Wp.aload_n 0 0 d_Fire_leastToAdd_10 rfl rfl ?_
  refine Wp.getP 54 d_Fire_leastToAdd_11 fl_Fire_20 rfl rfl rfl ?_
  refine Wp.iconst d_Fire_leastToAdd_14 (by decide) ?_
  refine Wp.iconst d_Fire_leastToAdd_15 (by decide) ?_
  refine Wq.iast d_Fire_leastToAdd_16 rfl (by decide) (by decide) (fun m3 hm4 => ?_)
  have H5 := H2 m3 hm4
  refine Wp.iconst d_Fire_leastToAdd_17 (by decide) ?_
  refine Wp.istore 5 [(0, .inr (.inr 45)), (1, .inr (.inr b1_)), (2, .inr (.inr h2)), (3, .inr (.inr 67)), (4, .inl ((bShl 1 (m b1_ 0)) - 1)), (5, .inl 1)] d_Fire_leastToAdd_18 (by decide) rfl ?_
  exact H5
theorem s_Fire_leastToAdd_20 {l : Launch} {G : GT} {d : Nat} {P : Int → MM → Prop} {m : MM} (x4 : Int) (x5 : Int) (b1_ : Nat) (h2 : Nat) (n2 : Nat) (hB1_ : isB b1_) (hl2 : q_lay h2 = .inr (0, n2)) (hlt_h2 : n2 < 2147483648) (H : wfM m → inR x4 → inR x5 → (x5 > x4 → (Wq l G false Y_Fire_leastToAdd d (QI P) 120 [(0, .inr (.inr 45)), (1, .inr (.inr b1_)), (3, .inr (.inr 67)), (4, .inl x4), (5, .inl 0)] [] m)) ∧ (¬ (x5 > x4) → ((0 ≤ x5 ∧ x5 < (32 : Int)) ∧ (∀ m6, m6 = up m 54 x5 2147483647 → (Wq l G false Y_Fire_leastToAdd d (QI P) 39 [(0, .inr (.inr 45)), (1, .inr (.inr b1_)), (2, .inr (.inr h2)), (3, .inr (.inr 67)), (4, .inl x4), (5, .inl x5), (6, .inl 0)] [] m6))))) : Wq l G false Y_Fire_leastToAdd d (QI P) 20 [(0, .inr (.inr 45)), (1, .inr (.inr b1_)), (2, .inr (.inr h2)), (3, .inr (.inr 67)), (4, .inl x4), (5, .inl x5)] [] m := by
  refine Wp.wf (fun hw _ hl hs => ?_)
  have H0 := H hw (hl _ (List.mem_of_getElem? (i := 4) rfl)) (hl _ (List.mem_of_getElem? (i := 5) rfl))
  refine Wp.iload 5 5 d_Fire_leastToAdd_20 rfl ?_
  refine Wp.iload 4 4 d_Fire_leastToAdd_22 rfl ?_
  obtain ⟨H2, H3⟩ := H0
  refine Wp.icmp_gt 117 d_Fire_leastToAdd_24 (by decide) (fun c1 => ?_) (fun c1 => ?_)
  · have H4 := H2 c1
    refine Wp.iconst d_Fire_leastToAdd_117 (by decide) ?_
    refine Wp.istore 5 [(0, .inr (.inr 45)), (1, .inr (.inr b1_)), (2, .inr (.inr h2)), (3, .inr (.inr 67)), (4, .inl x4), (5, .inl 0)] d_Fire_leastToAdd_118 (by decide) rfl ?_
    refine Wp.pick [0, 1, 3, 4, 5] [(0, .inr (.inr 45)), (1, .inr (.inr b1_)), (3, .inr (.inr 67)), (4, .inl x4), (5, .inl 0)] rfl ?_
    exact H4
  · have H5 := H3 c1
    refine Wp.aload_n 0 0 d_Fire_leastToAdd_27 rfl rfl ?_
    refine Wp.getP 54 d_Fire_leastToAdd_28 fl_Fire_20 rfl rfl rfl ?_
    refine Wp.iload 5 5 d_Fire_leastToAdd_31 rfl ?_
    refine Wp.ldc (z := 2147483647) d_Fire_leastToAdd_33 kc_Fire_90 (by decide) (by decide) ?_
    obtain ⟨s11, H12⟩ := H5
    refine Wq.iast d_Fire_leastToAdd_35 rfl s11.1 s11.2 (fun m6 hm7 => ?_)
    have H8 := H12 m6 hm7
    refine Wp.iconst d_Fire_leastToAdd_36 (by decide) ?_
    refine Wp.istore 6 [(0, .inr (.inr 45)), (1, .inr (.inr b1_)), (2, .inr (.inr h2)), (3, .inr (.inr 67)), (4, .inl x4), (5, .inl x5), (6, .inl 0)] d_Fire_leastToAdd_37 (by decide) rfl ?_
    exact H8
theorem s_Fire_leastToAdd_39 {l : Launch} {G : GT} {d : Nat} {P : Int → MM → Prop} {m : MM} (x4 : Int) (x5 : Int) (x6 : Int) (b1_ : Nat) (h2 : Nat) (n2 : Nat) (hB1_ : isB b1_) (hl2 : q_lay h2 = .inr (0, n2)) (hlt_h2 : n2 < 2147483648) (hd1 : 1 ≤ d) (H : wfM m → inR x4 → inR x5 → inR x6 → (x6 ≥ (m b1_ 0) → ((inR (x5 + 1)) ∧ (Wq l G false Y_Fire_leastToAdd d (QI P) 20 [(0, .inr (.inr 45)), (1, .inr (.inr b1_)), (2, .inr (.inr h2)), (3, .inr (.inr 67)), (4, .inl x4), (5, .inl (x5 + 1))] [] m))) ∧ (¬ (x6 ≥ (m b1_ 0)) → (((bAnd x5 (bXor (bShl 1 x6) (-1))) = x5 → ((inR (x6 + 1)) ∧ (Wq l G false Y_Fire_leastToAdd d (QI P) 39 [(0, .inr (.inr 45)), (1, .inr (.inr b1_)), (2, .inr (.inr h2)), (3, .inr (.inr 67)), (4, .inl x4), (5, .inl x5), (6, .inl (x6 + 1))] [] m))) ∧ (¬ ((bAnd x5 (bXor (bShl 1 x6) (-1))) = x5) → ((0 ≤ (bAnd x5 (bXor (bShl 1 x6) (-1))) ∧ (bAnd x5 (bXor (bShl 1 x6) (-1))) < (32 : Int)) ∧ (((m 54 (bAnd x5 (bXor (bShl 1 x6) (-1)))) ≥ 2147483647 → ((inR (x6 + 1)) ∧ (Wq l G false Y_Fire_leastToAdd d (QI P) 39 [(0, .inr (.inr 45)), (1, .inr (.inr b1_)), (2, .inr (.inr h2)), (3, .inr (.inr 67)), (4, .inl x4), (5, .inl x5), (6, .inl (x6 + 1))] [] m))) ∧ (¬ ((m 54 (bAnd x5 (bXor (bShl 1 x6) (-1)))) ≥ 2147483647) → ((0 ≤ x5 ∧ x5 < (32 : Int)) ∧ (∃ (e26 : Nat) (P27 : Int → MM → Prop), e26 < d ∧ CI l G Y_Fire_priceWith e26 [.inr (.inr 45), .inr (.inr b1_), .inr (.inr h2), .inl (bAnd x5 (bXor (bShl 1 x6) (-1))), .inl x6] m P27 ∧ (∀ z32 m33, P27 z32 m33 → inR z32 → wfM m33 → ((0 ≤ x5 ∧ x5 < (32 : Int)) ∧ (∀ m37, m37 = up m33 54 x5 (min (m 54 x5) z32) → ((inR (x6 + 1)) ∧ (Wq l G false Y_Fire_leastToAdd d (QI P) 39 [(0, .inr (.inr 45)), (1, .inr (.inr b1_)), (2, .inr (.inr h2)), (3, .inr (.inr 67)), (4, .inl x4), (5, .inl x5), (6, .inl (x6 + 1))] [] m37)))))))))))))) : Wq l G false Y_Fire_leastToAdd d (QI P) 39 [(0, .inr (.inr 45)), (1, .inr (.inr b1_)), (2, .inr (.inr h2)), (3, .inr (.inr 67)), (4, .inl x4), (5, .inl x5), (6, .inl x6)] [] m := by
  refine Wp.wf (fun hw _ hl hs => ?_)
  have H0 := H hw (hl _ (List.mem_of_getElem? (i := 4) rfl)) (hl _ (List.mem_of_getElem? (i := 5) rfl)) (hl _ (List.mem_of_getElem? (i := 6) rfl))
  refine Wp.iload 6 6 d_Fire_leastToAdd_39 rfl ?_
  refine Wp.aload_n 1 1 d_Fire_leastToAdd_41 rfl rfl ?_
  refine Wq.getI 0 rfl d_Fire_leastToAdd_42 fl_Fire_43 (isB_lay hB1_) (Or.inl rfl) ?_
  obtain ⟨H2, H3⟩ := H0
  refine Wp.icmp_ge 111 d_Fire_leastToAdd_45 (by decide) (fun c1 => ?_) (fun c1 => ?_)
  · have H4 := H2 c1
    obtain ⟨s6, H7⟩ := H4
    refine Wp.iinc 5 5 [(0, .inr (.inr 45)), (1, .inr (.inr b1_)), (2, .inr (.inr h2)), (3, .inr (.inr 67)), (4, .inl x4), (5, .inl (x5 + 1)), (6, .inl x6)] d_Fire_leastToAdd_111 rfl s6 (by decide) rfl ?_
    refine Wp.goto 20 d_Fire_leastToAdd_114 (by decide) ?_
    refine Wp.pick [0, 1, 2, 3, 4, 5] [(0, .inr (.inr 45)), (1, .inr (.inr b1_)), (2, .inr (.inr h2)), (3, .inr (.inr 67)), (4, .inl x4), (5, .inl (x5 + 1))] rfl ?_
    exact H7
  · have H5 := H3 c1
    refine Wp.iload 5 5 d_Fire_leastToAdd_48 rfl ?_
    refine Wp.iconst d_Fire_leastToAdd_50 (by decide) ?_
    refine Wp.iload 6 6 d_Fire_leastToAdd_51 rfl ?_
    refine Wp.ishl d_Fire_leastToAdd_53 ?_
    refine Wp.iconst d_Fire_leastToAdd_54 (by decide) ?_
    refine Wp.ixor d_Fire_leastToAdd_55 ?_
    refine Wp.iand d_Fire_leastToAdd_56 ?_
    refine Wp.istore 7 [(0, .inr (.inr 45)), (1, .inr (.inr b1_)), (2, .inr (.inr h2)), (3, .inr (.inr 67)), (4, .inl x4), (5, .inl x5), (6, .inl x6), (7, .inl (bAnd x5 (bXor (bShl 1 x6) (-1))))] d_Fire_leastToAdd_57 (by decide) rfl ?_
    refine Wp.iload 7 7 d_Fire_leastToAdd_59 rfl ?_
    refine Wp.iload 5 5 d_Fire_leastToAdd_61 rfl ?_
    obtain ⟨H9, H10⟩ := H5
    refine Wp.icmp_eq 105 d_Fire_leastToAdd_63 (by decide) (fun c8 => ?_) (fun c8 => ?_)
    · have H11 := H9 c8
      obtain ⟨s13, H14⟩ := H11
      refine Wp.iinc 6 6 [(0, .inr (.inr 45)), (1, .inr (.inr b1_)), (2, .inr (.inr h2)), (3, .inr (.inr 67)), (4, .inl x4), (5, .inl x5), (6, .inl (x6 + 1)), (7, .inl (bAnd x5 (bXor (bShl 1 x6) (-1))))] d_Fire_leastToAdd_105 rfl s13 (by decide) rfl ?_
      refine Wp.goto 39 d_Fire_leastToAdd_108 (by decide) ?_
      refine Wp.pick [0, 1, 2, 3, 4, 5, 6] [(0, .inr (.inr 45)), (1, .inr (.inr b1_)), (2, .inr (.inr h2)), (3, .inr (.inr 67)), (4, .inl x4), (5, .inl x5), (6, .inl (x6 + 1))] rfl ?_
      exact H14
    · have H12 := H10 c8
      refine Wp.aload_n 0 0 d_Fire_leastToAdd_66 rfl rfl ?_
      refine Wp.getP 54 d_Fire_leastToAdd_67 fl_Fire_20 rfl rfl rfl ?_
      refine Wp.iload 7 7 d_Fire_leastToAdd_70 rfl ?_
      obtain ⟨s15, H16⟩ := H12
      refine Wp.iald d_Fire_leastToAdd_72 rfl (Or.inl rfl) s15.1 s15.2 ?_
      refine Wp.ldc (z := 2147483647) d_Fire_leastToAdd_73 kc_Fire_90 (by decide) (by decide) ?_
      obtain ⟨H18, H19⟩ := H16
      refine Wp.icmp_ge 105 d_Fire_leastToAdd_75 (by decide) (fun c17 => ?_) (fun c17 => ?_)
      · have H20 := H18 c17
        obtain ⟨s22, H23⟩ := H20
        refine Wp.iinc 6 6 [(0, .inr (.inr 45)), (1, .inr (.inr b1_)), (2, .inr (.inr h2)), (3, .inr (.inr 67)), (4, .inl x4), (5, .inl x5), (6, .inl (x6 + 1)), (7, .inl (bAnd x5 (bXor (bShl 1 x6) (-1))))] d_Fire_leastToAdd_105 rfl s22 (by decide) rfl ?_
        refine Wp.goto 39 d_Fire_leastToAdd_108 (by decide) ?_
        refine Wp.pick [0, 1, 2, 3, 4, 5, 6] [(0, .inr (.inr 45)), (1, .inr (.inr b1_)), (2, .inr (.inr h2)), (3, .inr (.inr 67)), (4, .inl x4), (5, .inl x5), (6, .inl (x6 + 1))] rfl ?_
        exact H23
      · have H21 := H19 c17
        refine Wp.aload_n 0 0 d_Fire_leastToAdd_78 rfl rfl ?_
        refine Wp.getP 54 d_Fire_leastToAdd_79 fl_Fire_20 rfl rfl rfl ?_
        refine Wp.iload 5 5 d_Fire_leastToAdd_82 rfl ?_
        refine Wp.aload_n 0 0 d_Fire_leastToAdd_84 rfl rfl ?_
        refine Wp.getP 54 d_Fire_leastToAdd_85 fl_Fire_20 rfl rfl rfl ?_
        refine Wp.iload 5 5 d_Fire_leastToAdd_88 rfl ?_
        obtain ⟨s24, H25⟩ := H21
        refine Wp.iald d_Fire_leastToAdd_90 rfl (Or.inl rfl) s24.1 s24.2 ?_
        refine Wp.aload_n 0 0 d_Fire_leastToAdd_91 rfl rfl ?_
        refine Wp.aload_n 1 1 d_Fire_leastToAdd_92 rfl rfl ?_
        refine Wp.aload_n 2 2 d_Fire_leastToAdd_93 rfl rfl ?_
        refine Wp.iload 7 7 d_Fire_leastToAdd_94 rfl ?_
        refine Wp.iload 6 6 d_Fire_leastToAdd_96 rfl ?_
        obtain ⟨e26, P27, hd28, ho29, H30⟩ := H25
        refine Wq.VI (st := [.inl (m 54 x5), .inl x5, .inr (.inr 54)]) [.inr (.inr b1_), .inr (.inr h2), .inl (bAnd x5 (bXor (bShl 1 x6) (-1))), .inl x6] d_Fire_leastToAdd_98 k_Fire_priceWith ml_Fire_91 rfl rfl rfl (fun h => by cases h) (Nat.le_of_ble_eq_true rfl) hd28 ho29 (fun z32 m33 hp34 hz35 hw36 => ?_)
        have H31 := H30 z32 m33 hp34 hz35 hw36
        refine Wp.mmin d_Fire_leastToAdd_101 ml_Fire_95 k_mmin hd1 (Nat.le_of_ble_eq_true rfl) ?_
        obtain ⟨s44, H45⟩ := H31
        refine Wq.iast d_Fire_leastToAdd_104 rfl s44.1 s44.2 (fun m37 hm38 => ?_)
        have H39 := H45 m37 hm38
        obtain ⟨s42, H43⟩ := H39
        refine Wp.iinc 6 6 [(0, .inr (.inr 45)), (1, .inr (.inr b1_)), (2, .inr (.inr h2)), (3, .inr (.inr 67)), (4, .inl x4), (5, .inl x5), (6, .inl (x6 + 1)), (7, .inl (bAnd x5 (bXor (bShl 1 x6) (-1))))] d_Fire_leastToAdd_105 rfl s42 (by decide) rfl ?_
        refine Wp.goto 39 d_Fire_leastToAdd_108 (by decide) ?_
        refine Wp.pick [0, 1, 2, 3, 4, 5, 6] [(0, .inr (.inr 45)), (1, .inr (.inr b1_)), (2, .inr (.inr h2)), (3, .inr (.inr 67)), (4, .inl x4), (5, .inl x5), (6, .inl (x6 + 1))] rfl ?_
        exact H43
theorem s_Fire_leastToAdd_120 {l : Launch} {G : GT} {d : Nat} {P : Int → MM → Prop} {m : MM} (x4 : Int) (x5 : Int) (b1_ : Nat) (hB1_ : isB b1_) (H : wfM m → inR x4 → inR x5 → (x5 ≥ (m b1_ 0) → ((0 ≤ x4 ∧ x4 < (32 : Int)) ∧ (P (bShr (m 54 x4) 20) m))) ∧ (¬ (x5 ≥ (m b1_ 0)) → ((0 ≤ x4 ∧ x4 < (32 : Int)) ∧ (∃ (e10 : Nat) (P11 : Int → MM → Prop), e10 < d ∧ CI l G Y_Fire_digitOf e10 [.inl x5] m P11 ∧ (∀ z16 m17, P11 z16 m17 → inR z16 → wfM m17 → (∃ (e21 : Nat) (P22 : MM → Prop), e21 < d ∧ CV l G Y_Lying_put e21 [.inr (.inr 67), .inl (bAnd (bShr (m 54 x4) z16) 15)] m17 P22 ∧ (∀ m28, P22 m28 → wfM m28 → ((inR (x5 + 1)) ∧ (Wq l G false Y_Fire_leastToAdd d (QI P) 120 [(0, .inr (.inr 45)), (1, .inr (.inr b1_)), (3, .inr (.inr 67)), (4, .inl x4), (5, .inl (x5 + 1))] [] m28))))))))) : Wq l G false Y_Fire_leastToAdd d (QI P) 120 [(0, .inr (.inr 45)), (1, .inr (.inr b1_)), (3, .inr (.inr 67)), (4, .inl x4), (5, .inl x5)] [] m := by
  refine Wp.wf (fun hw _ hl hs => ?_)
  have H0 := H hw (hl _ (List.mem_of_getElem? (i := 3) rfl)) (hl _ (List.mem_of_getElem? (i := 4) rfl))
  refine Wp.iload 4 5 d_Fire_leastToAdd_120 rfl ?_
  refine Wp.aload_n 1 1 d_Fire_leastToAdd_122 rfl rfl ?_
  refine Wq.getI 0 rfl d_Fire_leastToAdd_123 fl_Fire_43 (isB_lay hB1_) (Or.inl rfl) ?_
  obtain ⟨H2, H3⟩ := H0
  refine Wp.icmp_ge 155 d_Fire_leastToAdd_126 (by decide) (fun c1 => ?_) (fun c1 => ?_)
  · have H4 := H2 c1
    refine Wp.aload_n 0 0 d_Fire_leastToAdd_155 rfl rfl ?_
    refine Wp.getP 54 d_Fire_leastToAdd_156 fl_Fire_20 rfl rfl rfl ?_
    refine Wp.iload 3 4 d_Fire_leastToAdd_159 rfl ?_
    obtain ⟨s6, H7⟩ := H4
    refine Wp.iald d_Fire_leastToAdd_161 rfl (Or.inl rfl) s6.1 s6.2 ?_
    refine Wp.bipush d_Fire_leastToAdd_162 (by decide) (by decide) ?_
    refine Wp.ishr d_Fire_leastToAdd_164 ?_
    exact Wq.iret d_Fire_leastToAdd_165 rfl H7
  · have H5 := H3 c1
    refine Wp.aload_n 2 3 d_Fire_leastToAdd_129 rfl rfl ?_
    refine Wp.aload_n 0 0 d_Fire_leastToAdd_130 rfl rfl ?_
    refine Wp.getP 54 d_Fire_leastToAdd_131 fl_Fire_20 rfl rfl rfl ?_
    refine Wp.iload 3 4 d_Fire_leastToAdd_134 rfl ?_
    obtain ⟨s8, H9⟩ := H5
    refine Wp.iald d_Fire_leastToAdd_136 rfl (Or.inl rfl) s8.1 s8.2 ?_
    refine Wp.iload 4 5 d_Fire_leastToAdd_137 rfl ?_
    obtain ⟨e10, P11, hd12, ho13, H14⟩ := H9
    refine Wq.SI (st := [.inl (m 54 x4), .inr (.inr 67)]) [.inl x5] d_Fire_leastToAdd_139 k_Fire_digitOf ml_Fire_100 rfl  (fun h => by cases h) (Nat.le_of_ble_eq_true rfl) hd12 ho13 (fun z16 m17 hp18 hz19 hw20 => ?_)
    have H15 := H14 z16 m17 hp18 hz19 hw20
    refine Wp.ishr d_Fire_leastToAdd_142 ?_
    refine Wp.bipush d_Fire_leastToAdd_143 (by decide) (by decide) ?_
    refine Wp.iand d_Fire_leastToAdd_145 ?_
    obtain ⟨e21, P22, hd23, ho24, H25⟩ := H15
    refine Wq.VV (st := []) [.inl (bAnd (bShr (m 54 x4) z16) 15)] d_Fire_leastToAdd_146 k_Lying_put ml_Fire_31 rfl rfl rfl (fun h => by cases h) (Nat.le_of_ble_eq_true rfl) hd23 ho24 (fun m28 hp29 hw31 => ?_)
    have H26 := H25 m28 hp29 hw31
    obtain ⟨s32, H33⟩ := H26
    refine Wp.iinc 4 5 [(0, .inr (.inr 45)), (1, .inr (.inr b1_)), (3, .inr (.inr 67)), (4, .inl x4), (5, .inl (x5 + 1))] d_Fire_leastToAdd_149 rfl s32 (by decide) rfl ?_
    refine Wp.goto 120 d_Fire_leastToAdd_152 (by decide) ?_
    exact H33
theorem d_Fire_priceWith_0 : decode Y_Fire_priceWith.2.1 0 = .ok (.aload_n 1, 1) := by decide +kernel
theorem d_Fire_priceWith_1 : decode Y_Fire_priceWith.2.1 1 = .ok (.iload 4, 2) := by decide +kernel
theorem d_Fire_priceWith_3 : decode Y_Fire_priceWith.2.1 3 = .ok (.iload_n 3, 1) := by decide +kernel
theorem d_Fire_priceWith_4 : decode Y_Fire_priceWith.2.1 4 = .ok (.invokevirtual 52, 3) := by decide +kernel
theorem d_Fire_priceWith_7 : decode Y_Fire_priceWith.2.1 7 = .ok (.istore 5, 2) := by decide +kernel
theorem d_Fire_priceWith_9 : decode Y_Fire_priceWith.2.1 9 = .ok (.iload 5, 2) := by decide +kernel
theorem d_Fire_priceWith_11 : decode Y_Fire_priceWith.2.1 11 = .ok (.ifCond .ne 6, 3) := by decide +kernel
theorem d_Fire_priceWith_14 : decode Y_Fire_priceWith.2.1 14 = .ok (.ldc 90, 2) := by decide +kernel
theorem d_Fire_priceWith_16 : decode Y_Fire_priceWith.2.1 16 = .ok (.ireturn, 1) := by decide +kernel
theorem d_Fire_priceWith_17 : decode Y_Fire_priceWith.2.1 17 = .ok (.iconst 0, 1) := by decide +kernel
theorem d_Fire_priceWith_18 : decode Y_Fire_priceWith.2.1 18 = .ok (.aload_n 1, 1) := by decide +kernel
theorem d_Fire_priceWith_19 : decode Y_Fire_priceWith.2.1 19 = .ok (.getfield 49, 3) := by decide +kernel
theorem d_Fire_priceWith_22 : decode Y_Fire_priceWith.2.1 22 = .ok (.iload 4, 2) := by decide +kernel
theorem d_Fire_priceWith_24 : decode Y_Fire_priceWith.2.1 24 = .ok (.iaload, 1) := by decide +kernel
theorem d_Fire_priceWith_25 : decode Y_Fire_priceWith.2.1 25 = .ok (.iload 5, 2) := by decide +kernel
theorem d_Fire_priceWith_27 : decode Y_Fire_priceWith.2.1 27 = .ok (.isub, 1) := by decide +kernel
theorem d_Fire_priceWith_28 : decode Y_Fire_priceWith.2.1 28 = .ok (.aload_n 2, 1) := by decide +kernel
theorem d_Fire_priceWith_29 : decode Y_Fire_priceWith.2.1 29 = .ok (.iload 4, 2) := by decide +kernel
theorem d_Fire_priceWith_31 : decode Y_Fire_priceWith.2.1 31 = .ok (.iaload, 1) := by decide +kernel
theorem d_Fire_priceWith_32 : decode Y_Fire_priceWith.2.1 32 = .ok (.isub, 1) := by decide +kernel
theorem d_Fire_priceWith_33 : decode Y_Fire_priceWith.2.1 33 = .ok (.invokestatic 103, 3) := by decide +kernel
theorem d_Fire_priceWith_36 : decode Y_Fire_priceWith.2.1 36 = .ok (.istore 6, 2) := by decide +kernel
theorem d_Fire_priceWith_38 : decode Y_Fire_priceWith.2.1 38 = .ok (.aload_n 0, 1) := by decide +kernel
theorem d_Fire_priceWith_39 : decode Y_Fire_priceWith.2.1 39 = .ok (.getfield 20, 3) := by decide +kernel
theorem d_Fire_priceWith_42 : decode Y_Fire_priceWith.2.1 42 = .ok (.iload_n 3, 1) := by decide +kernel
theorem d_Fire_priceWith_43 : decode Y_Fire_priceWith.2.1 43 = .ok (.iaload, 1) := by decide +kernel
theorem d_Fire_priceWith_44 : decode Y_Fire_priceWith.2.1 44 = .ok (.iload 6, 2) := by decide +kernel
theorem d_Fire_priceWith_46 : decode Y_Fire_priceWith.2.1 46 = .ok (.ldc 106, 2) := by decide +kernel
theorem d_Fire_priceWith_48 : decode Y_Fire_priceWith.2.1 48 = .ok (.iconst 1, 1) := by decide +kernel
theorem d_Fire_priceWith_49 : decode Y_Fire_priceWith.2.1 49 = .ok (.iload 4, 2) := by decide +kernel
theorem d_Fire_priceWith_51 : decode Y_Fire_priceWith.2.1 51 = .ok (.invokestatic 100, 3) := by decide +kernel
theorem d_Fire_priceWith_54 : decode Y_Fire_priceWith.2.1 54 = .ok (.ishl, 1) := by decide +kernel
theorem d_Fire_priceWith_55 : decode Y_Fire_priceWith.2.1 55 = .ok (.iadd, 1) := by decide +kernel
theorem d_Fire_priceWith_56 : decode Y_Fire_priceWith.2.1 56 = .ok (.imul, 1) := by decide +kernel
theorem d_Fire_priceWith_57 : decode Y_Fire_priceWith.2.1 57 = .ok (.iadd, 1) := by decide +kernel
theorem d_Fire_priceWith_58 : decode Y_Fire_priceWith.2.1 58 = .ok (.ireturn, 1) := by decide +kernel
theorem e_Fire_priceWith {l : Launch} {G : GT} {d : Nat} {P : Int → MM → Prop} {m : MM} (x3 : Int) (x4 : Int) (b1_ : Nat) (h2 : Nat) (n2 : Nat) (hB1_ : isB b1_) (hl2 : q_lay h2 = .inr (0, n2)) (hlt_h2 : n2 < 2147483648) (hd1 : 1 ≤ d) (H : wfM m → inR x3 → inR x4 → ∃ (e1 : Nat) (P2 : Int → MM → Prop), e1 < d ∧ CI l G Y_Board_widthToBurnt e1 [.inr (.inr b1_), .inl x4, .inl x3] m P2 ∧ (∀ z7 m8, P2 z7 m8 → inR z7 → wfM m8 → ((z7 ≠ 0 → ((0 ≤ x4 ∧ x4 < (5 : Int)) ∧ ((inR ((m8 (b1_ + 4) x4) - z7)) ∧ ((0 ≤ x4 ∧ x4 < (n2 : Int)) ∧ ((inR (((m8 (b1_ + 4) x4) - z7) - (m8 h2 x4))) ∧ ((0 ≤ x3 ∧ x3 < (32 : Int)) ∧ (∃ (e27 : Nat) (P28 : Int → MM → Prop), e27 < d ∧ CI l G Y_Fire_digitOf e27 [.inl x4] m8 P28 ∧ (∀ z33 m34, P28 z33 m34 → inR z33 → wfM m34 → ((inR (1048576 + (bShl 1 z33))) ∧ ((inR ((max 0 (((m8 (b1_ + 4) x4) - z7) - (m8 h2 x4))) * (1048576 + (bShl 1 z33)))) ∧ ((inR ((m8 54 x3) + ((max 0 (((m8 (b1_ + 4) x4) - z7) - (m8 h2 x4))) * (1048576 + (bShl 1 z33))))) ∧ (P ((m8 54 x3) + ((max 0 (((m8 (b1_ + 4) x4) - z7) - (m8 h2 x4))) * (1048576 + (bShl 1 z33)))) m34)))))))))))) ∧ (¬ (z7 ≠ 0) → (P 2147483647 m8))))) : CI l G Y_Fire_priceWith d [.inr (.inr 45), .inr (.inr b1_), .inr (.inr h2), .inl x3, .inl x4] m P := by
  refine CI.of [(0, .inr (.inr 45)), (1, .inr (.inr b1_)), (2, .inr (.inr h2)), (3, .inl x3), (4, .inl x4)] k_Fire_priceWith.1 (Nat.le_of_ble_eq_true rfl) rfl (Wp.wf (fun hw _ hl hs => ?_))
  have H0 := H hw (hl _ (List.mem_of_getElem? (i := 3) rfl)) (hl _ (List.mem_of_getElem? (i := 4) rfl))
  refine Wp.aload_n 1 1 d_Fire_priceWith_0 rfl rfl ?_
  refine Wp.iload 4 4 d_Fire_priceWith_1 rfl ?_
  refine Wp.iload_n 3 3 d_Fire_priceWith_3 rfl rfl ?_
  obtain ⟨e1, P2, hd3, ho4, H5⟩ := H0
  refine Wq.VI (st := []) [.inl x4, .inl x3] d_Fire_priceWith_4 k_Board_widthToBurnt ml_Fire_52 rfl (isB_lay hB1_) rfl (fun h => by cases h) (Nat.le_of_ble_eq_true rfl) hd3 ho4 (fun z7 m8 hp9 hz10 hw11 => ?_)
  have H6 := H5 z7 m8 hp9 hz10 hw11
  refine Wp.istore 5 [(0, .inr (.inr 45)), (1, .inr (.inr b1_)), (2, .inr (.inr h2)), (3, .inl x3), (4, .inl x4), (5, .inl z7)] d_Fire_priceWith_7 (by decide) rfl ?_
  refine Wp.iload 5 5 d_Fire_priceWith_9 rfl ?_
  obtain ⟨H13, H14⟩ := H6
  refine Wp.if_ne 17 d_Fire_priceWith_11 (by decide) (fun c12 => ?_) (fun c12 => ?_)
  · have H15 := H13 c12
    refine Wp.iconst d_Fire_priceWith_17 (by decide) ?_
    refine Wp.aload_n 1 1 d_Fire_priceWith_18 rfl rfl ?_
    refine Wp.getP (b1_ + 4) d_Fire_priceWith_19 fl_Fire_49 (isB_lay hB1_) rfl (isB_p8 hB1_) ?_
    refine Wp.iload 4 4 d_Fire_priceWith_22 rfl ?_
    obtain ⟨s17, H18⟩ := H15
    refine Wp.iald d_Fire_priceWith_24 (isB_l8 hB1_) (Or.inl rfl) s17.1 s17.2 ?_
    refine Wp.iload 5 5 d_Fire_priceWith_25 rfl ?_
    obtain ⟨s19, H20⟩ := H18
    refine Wp.isub d_Fire_priceWith_27 s19 ?_
    refine Wp.aload_n 2 2 d_Fire_priceWith_28 rfl rfl ?_
    refine Wp.iload 4 4 d_Fire_priceWith_29 rfl ?_
    obtain ⟨s21, H22⟩ := H20
    refine Wp.iald d_Fire_priceWith_31 hl2 (Or.inl rfl) s21.1 s21.2 ?_
    obtain ⟨s23, H24⟩ := H22
    refine Wp.isub d_Fire_priceWith_32 s23 ?_
    refine Wp.mmax d_Fire_priceWith_33 ml_Fire_103 k_mmax hd1 (Nat.le_of_ble_eq_true rfl) ?_
    refine Wp.istore 6 [(0, .inr (.inr 45)), (1, .inr (.inr b1_)), (2, .inr (.inr h2)), (3, .inl x3), (4, .inl x4), (5, .inl z7), (6, .inl (max 0 (((m8 (b1_ + 4) x4) - z7) - (m8 h2 x4))))] d_Fire_priceWith_36 (by decide) rfl ?_
    refine Wp.aload_n 0 0 d_Fire_priceWith_38 rfl rfl ?_
    refine Wp.getP 54 d_Fire_priceWith_39 fl_Fire_20 rfl rfl rfl ?_
    refine Wp.iload_n 3 3 d_Fire_priceWith_42 rfl rfl ?_
    obtain ⟨s25, H26⟩ := H24
    refine Wp.iald d_Fire_priceWith_43 rfl (Or.inl rfl) s25.1 s25.2 ?_
    refine Wp.iload 6 6 d_Fire_priceWith_44 rfl ?_
    refine Wp.ldc (z := 1048576) d_Fire_priceWith_46 kc_Fire_106 (by decide) (by decide) ?_
    refine Wp.iconst d_Fire_priceWith_48 (by decide) ?_
    refine Wp.iload 4 4 d_Fire_priceWith_49 rfl ?_
    obtain ⟨e27, P28, hd29, ho30, H31⟩ := H26
    refine Wq.SI (st := [.inl 1, .inl 1048576, .inl (max 0 (((m8 (b1_ + 4) x4) - z7) - (m8 h2 x4))), .inl (m8 54 x3)]) [.inl x4] d_Fire_priceWith_51 k_Fire_digitOf ml_Fire_100 rfl  (fun h => by cases h) (Nat.le_of_ble_eq_true rfl) hd29 ho30 (fun z33 m34 hp35 hz36 hw37 => ?_)
    have H32 := H31 z33 m34 hp35 hz36 hw37
    refine Wp.ishl d_Fire_priceWith_54 ?_
    obtain ⟨s38, H39⟩ := H32
    refine Wp.iadd d_Fire_priceWith_55 s38 ?_
    obtain ⟨s40, H41⟩ := H39
    refine Wp.imul d_Fire_priceWith_56 s40 ?_
    obtain ⟨s42, H43⟩ := H41
    refine Wp.iadd d_Fire_priceWith_57 s42 ?_
    exact Wq.iret d_Fire_priceWith_58 rfl H43
  · have H16 := H14 c12
    refine Wp.ldc (z := 2147483647) d_Fire_priceWith_14 kc_Fire_90 (by decide) (by decide) ?_
    exact Wq.iret d_Fire_priceWith_16 rfl H16
theorem d_Fire_digitOf_0 : decode Y_Fire_digitOf.2.1 0 = .ok (.iconst 4, 1) := by decide +kernel
theorem d_Fire_digitOf_1 : decode Y_Fire_digitOf.2.1 1 = .ok (.iconst 4, 1) := by decide +kernel
theorem d_Fire_digitOf_2 : decode Y_Fire_digitOf.2.1 2 = .ok (.iload_n 0, 1) := by decide +kernel
theorem d_Fire_digitOf_3 : decode Y_Fire_digitOf.2.1 3 = .ok (.isub, 1) := by decide +kernel
theorem d_Fire_digitOf_4 : decode Y_Fire_digitOf.2.1 4 = .ok (.imul, 1) := by decide +kernel
theorem d_Fire_digitOf_5 : decode Y_Fire_digitOf.2.1 5 = .ok (.ireturn, 1) := by decide +kernel
theorem e_Fire_digitOf {l : Launch} {G : GT} {d : Nat} {P : Int → MM → Prop} {m : MM} (x0 : Int)  (H : wfM m → inR x0 → (inR (4 - x0)) ∧ ((inR (4 * (4 - x0))) ∧ (P (4 * (4 - x0)) m))) : CI l G Y_Fire_digitOf d [.inl x0] m P := by
  refine CI.of [(0, .inl x0)] k_Fire_digitOf.1 (Nat.le_of_ble_eq_true rfl) rfl (Wp.wf (fun hw _ hl hs => ?_))
  have H0 := H hw (hl _ (List.mem_of_getElem? (i := 0) rfl))
  refine Wp.iconst d_Fire_digitOf_0 (by decide) ?_
  refine Wp.iconst d_Fire_digitOf_1 (by decide) ?_
  refine Wp.iload_n 0 0 d_Fire_digitOf_2 rfl rfl ?_
  obtain ⟨s1, H2⟩ := H0
  refine Wp.isub d_Fire_digitOf_3 s1 ?_
  obtain ⟨s3, H4⟩ := H2
  refine Wp.imul d_Fire_digitOf_4 s3 ?_
  exact Wq.iret d_Fire_digitOf_5 rfl H4
theorem d_Sights_forget_0 : decode Y_Sights_forget.2.1 0 = .ok (.aload_n 0, 1) := by decide +kernel
theorem d_Sights_forget_1 : decode Y_Sights_forget.2.1 1 = .ok (.iconst 0, 1) := by decide +kernel
theorem d_Sights_forget_2 : decode Y_Sights_forget.2.1 2 = .ok (.putfield 44, 3) := by decide +kernel
theorem d_Sights_forget_5 : decode Y_Sights_forget.2.1 5 = .ok (.aload_n 0, 1) := by decide +kernel
theorem d_Sights_forget_6 : decode Y_Sights_forget.2.1 6 = .ok (.iconst 0, 1) := by decide +kernel
theorem d_Sights_forget_7 : decode Y_Sights_forget.2.1 7 = .ok (.putfield 48, 3) := by decide +kernel
theorem d_Sights_forget_10 : decode Y_Sights_forget.2.1 10 = .ok (.return_, 1) := by decide +kernel
theorem e_Sights_forget {l : Launch} {G : GT} {d : Nat} {P : MM → Prop} {m : MM}   (H : wfM m → ∀ m1, m1 = up m 55 10 0 → (∀ m4, m4 = up m1 55 9 0 → (P m4))) : CV l G Y_Sights_forget d [.inr (.inr 55)] m P := by
  refine CV.of [(0, .inr (.inr 55))] k_Sights_forget.1 (Nat.le_of_ble_eq_true rfl) rfl (Wp.wf (fun hw _ hl hs => ?_))
  have H0 := H hw
  refine Wp.aload_n 0 0 d_Sights_forget_0 rfl rfl ?_
  refine Wp.iconst d_Sights_forget_1 (by decide) ?_
  refine Wq.putI 10 rfl d_Sights_forget_2 fl_Sights_44 (fun _ _ _ h => by cases h; rfl) rfl rfl rfl (fun m1 hm2 => ?_)
  have H3 := H0 m1 hm2
  refine Wp.aload_n 0 0 d_Sights_forget_5 rfl rfl ?_
  refine Wp.iconst d_Sights_forget_6 (by decide) ?_
  refine Wq.putZ 9 rfl d_Sights_forget_7 fl_Sights_48 (fun _ _ _ h => by cases h; rfl) rfl rfl rfl (by decide) (fun m4 hm5 => ?_)
  have H6 := H3 m4 hm5
  exact Wq.vret d_Sights_forget_10 rfl H6
theorem d_Sights_tell_0 : decode Y_Sights_tell.2.1 0 = .ok (.aload_n 0, 1) := by decide +kernel
theorem d_Sights_tell_1 : decode Y_Sights_tell.2.1 1 = .ok (.getfield 44, 3) := by decide +kernel
theorem d_Sights_tell_4 : decode Y_Sights_tell.2.1 4 = .ok (.bipush 30, 2) := by decide +kernel
theorem d_Sights_tell_6 : decode Y_Sights_tell.2.1 6 = .ok (.if_icmp .lt 5, 3) := by decide +kernel
theorem d_Sights_tell_9 : decode Y_Sights_tell.2.1 9 = .ok (.iconst (-1), 1) := by decide +kernel
theorem d_Sights_tell_10 : decode Y_Sights_tell.2.1 10 = .ok (.ireturn, 1) := by decide +kernel
theorem d_Sights_tell_11 : decode Y_Sights_tell.2.1 11 = .ok (.aload_n 0, 1) := by decide +kernel
theorem d_Sights_tell_12 : decode Y_Sights_tell.2.1 12 = .ok (.getfield 11, 3) := by decide +kernel
theorem d_Sights_tell_15 : decode Y_Sights_tell.2.1 15 = .ok (.aload_n 0, 1) := by decide +kernel
theorem d_Sights_tell_16 : decode Y_Sights_tell.2.1 16 = .ok (.getfield 44, 3) := by decide +kernel
theorem d_Sights_tell_19 : decode Y_Sights_tell.2.1 19 = .ok (.iload_n 1, 1) := by decide +kernel
theorem d_Sights_tell_20 : decode Y_Sights_tell.2.1 20 = .ok (.iastore, 1) := by decide +kernel
theorem d_Sights_tell_21 : decode Y_Sights_tell.2.1 21 = .ok (.aload_n 0, 1) := by decide +kernel
theorem d_Sights_tell_22 : decode Y_Sights_tell.2.1 22 = .ok (.getfield 15, 3) := by decide +kernel
theorem d_Sights_tell_25 : decode Y_Sights_tell.2.1 25 = .ok (.aload_n 0, 1) := by decide +kernel
theorem d_Sights_tell_26 : decode Y_Sights_tell.2.1 26 = .ok (.getfield 44, 3) := by decide +kernel
theorem d_Sights_tell_29 : decode Y_Sights_tell.2.1 29 = .ok (.iload_n 2, 1) := by decide +kernel
theorem d_Sights_tell_30 : decode Y_Sights_tell.2.1 30 = .ok (.iastore, 1) := by decide +kernel
theorem d_Sights_tell_31 : decode Y_Sights_tell.2.1 31 = .ok (.aload_n 0, 1) := by decide +kernel
theorem d_Sights_tell_32 : decode Y_Sights_tell.2.1 32 = .ok (.getfield 18, 3) := by decide +kernel
theorem d_Sights_tell_35 : decode Y_Sights_tell.2.1 35 = .ok (.aload_n 0, 1) := by decide +kernel
theorem d_Sights_tell_36 : decode Y_Sights_tell.2.1 36 = .ok (.getfield 44, 3) := by decide +kernel
theorem d_Sights_tell_39 : decode Y_Sights_tell.2.1 39 = .ok (.iload_n 3, 1) := by decide +kernel
theorem d_Sights_tell_40 : decode Y_Sights_tell.2.1 40 = .ok (.bastore, 1) := by decide +kernel
theorem d_Sights_tell_41 : decode Y_Sights_tell.2.1 41 = .ok (.aload_n 0, 1) := by decide +kernel
theorem d_Sights_tell_42 : decode Y_Sights_tell.2.1 42 = .ok (.getfield 22, 3) := by decide +kernel
theorem d_Sights_tell_45 : decode Y_Sights_tell.2.1 45 = .ok (.aload_n 0, 1) := by decide +kernel
theorem d_Sights_tell_46 : decode Y_Sights_tell.2.1 46 = .ok (.getfield 44, 3) := by decide +kernel
theorem d_Sights_tell_49 : decode Y_Sights_tell.2.1 49 = .ok (.aload_n 0, 1) := by decide +kernel
theorem d_Sights_tell_50 : decode Y_Sights_tell.2.1 50 = .ok (.getfield 52, 3) := by decide +kernel
theorem d_Sights_tell_53 : decode Y_Sights_tell.2.1 53 = .ok (.iastore, 1) := by decide +kernel
theorem d_Sights_tell_54 : decode Y_Sights_tell.2.1 54 = .ok (.aload_n 0, 1) := by decide +kernel
theorem d_Sights_tell_55 : decode Y_Sights_tell.2.1 55 = .ok (.getfield 25, 3) := by decide +kernel
theorem d_Sights_tell_58 : decode Y_Sights_tell.2.1 58 = .ok (.aload_n 0, 1) := by decide +kernel
theorem d_Sights_tell_59 : decode Y_Sights_tell.2.1 59 = .ok (.getfield 44, 3) := by decide +kernel
theorem d_Sights_tell_62 : decode Y_Sights_tell.2.1 62 = .ok (.iconst (-1), 1) := by decide +kernel
theorem d_Sights_tell_63 : decode Y_Sights_tell.2.1 63 = .ok (.iastore, 1) := by decide +kernel
theorem d_Sights_tell_64 : decode Y_Sights_tell.2.1 64 = .ok (.aload_n 0, 1) := by decide +kernel
theorem d_Sights_tell_65 : decode Y_Sights_tell.2.1 65 = .ok (.dup, 1) := by decide +kernel
theorem d_Sights_tell_66 : decode Y_Sights_tell.2.1 66 = .ok (.getfield 44, 3) := by decide +kernel
theorem d_Sights_tell_69 : decode Y_Sights_tell.2.1 69 = .ok (.iconst 1, 1) := by decide +kernel
theorem d_Sights_tell_70 : decode Y_Sights_tell.2.1 70 = .ok (.iadd, 1) := by decide +kernel
theorem d_Sights_tell_71 : decode Y_Sights_tell.2.1 71 = .ok (.putfield 44, 3) := by decide +kernel
theorem d_Sights_tell_74 : decode Y_Sights_tell.2.1 74 = .ok (.aload_n 0, 1) := by decide +kernel
theorem d_Sights_tell_75 : decode Y_Sights_tell.2.1 75 = .ok (.getfield 44, 3) := by decide +kernel
theorem d_Sights_tell_78 : decode Y_Sights_tell.2.1 78 = .ok (.iconst 1, 1) := by decide +kernel
theorem d_Sights_tell_79 : decode Y_Sights_tell.2.1 79 = .ok (.isub, 1) := by decide +kernel
theorem d_Sights_tell_80 : decode Y_Sights_tell.2.1 80 = .ok (.ireturn, 1) := by decide +kernel
theorem e_Sights_tell {l : Launch} {G : GT} {d : Nat} {P : Int → MM → Prop} {m : MM} (x1 : Int) (x2 : Int) (x3 : Int)  (H : wfM m → inR x1 → inR x2 → inR x3 → ((m 55 10) < 30 → ((0 ≤ (m 55 10) ∧ (m 55 10) < (30 : Int)) ∧ (∀ m6, m6 = up m 56 (m 55 10) x1 → ((0 ≤ (m6 55 10) ∧ (m6 55 10) < (30 : Int)) ∧ (∀ m11, m11 = up m6 57 (m6 55 10) x2 → ((0 ≤ (m11 55 10) ∧ (m11 55 10) < (30 : Int)) ∧ ((x3 = 0 ∨ x3 = 1) ∧ (∀ m16, m16 = up m11 58 (m11 55 10) x3 → ((0 ≤ (m16 55 10) ∧ (m16 55 10) < (30 : Int)) ∧ (∀ m21, m21 = up m16 59 (m16 55 10) (m16 55 11) → ((0 ≤ (m21 55 10) ∧ (m21 55 10) < (30 : Int)) ∧ (∀ m26, m26 = up m21 60 (m21 55 10) (-1) → ((inR ((m26 55 10) + 1)) ∧ (∀ m33, m33 = up m26 55 10 ((m26 55 10) + 1) → ((inR ((m33 55 10) - 1)) ∧ (P ((m33 55 10) - 1) m33)))))))))))))))) ∧ (¬ ((m 55 10) < 30) → (P (-1) m))) : CI l G Y_Sights_tell d [.inr (.inr 55), .inl x1, .inl x2, .inl x3] m P := by
  refine CI.of [(0, .inr (.inr 55)), (1, .inl x1), (2, .inl x2), (3, .inl x3)] k_Sights_tell.1 (Nat.le_of_ble_eq_true rfl) rfl (Wp.wf (fun hw _ hl hs => ?_))
  have H0 := H hw (hl _ (List.mem_of_getElem? (i := 1) rfl)) (hl _ (List.mem_of_getElem? (i := 2) rfl)) (hl _ (List.mem_of_getElem? (i := 3) rfl))
  refine Wp.aload_n 0 0 d_Sights_tell_0 rfl rfl ?_
  refine Wq.getI 10 rfl d_Sights_tell_1 fl_Sights_44 rfl (Or.inl rfl) ?_
  refine Wp.bipush d_Sights_tell_4 (by decide) (by decide) ?_
  obtain ⟨H2, H3⟩ := H0
  refine Wp.icmp_lt 11 d_Sights_tell_6 (by decide) (fun c1 => ?_) (fun c1 => ?_)
  · have H4 := H2 c1
    refine Wp.aload_n 0 0 d_Sights_tell_11 rfl rfl ?_
    refine Wp.getP 56 d_Sights_tell_12 fl_Sights_11 rfl rfl rfl ?_
    refine Wp.aload_n 0 0 d_Sights_tell_15 rfl rfl ?_
    refine Wq.getI 10 rfl d_Sights_tell_16 fl_Sights_44 rfl (Or.inl rfl) ?_
    refine Wp.iload_n 1 1 d_Sights_tell_19 rfl rfl ?_
    obtain ⟨s48, H49⟩ := H4
    refine Wq.iast d_Sights_tell_20 rfl s48.1 s48.2 (fun m6 hm7 => ?_)
    have H8 := H49 m6 hm7
    refine Wp.aload_n 0 0 d_Sights_tell_21 rfl rfl ?_
    refine Wp.getP 57 d_Sights_tell_22 fl_Sights_15 rfl rfl rfl ?_
    refine Wp.aload_n 0 0 d_Sights_tell_25 rfl rfl ?_
    refine Wq.getI 10 rfl d_Sights_tell_26 fl_Sights_44 rfl (Or.inl rfl) ?_
    refine Wp.iload_n 2 2 d_Sights_tell_29 rfl rfl ?_
    obtain ⟨s46, H47⟩ := H8
    refine Wq.iast d_Sights_tell_30 rfl s46.1 s46.2 (fun m11 hm12 => ?_)
    have H13 := H47 m11 hm12
    refine Wp.aload_n 0 0 d_Sights_tell_31 rfl rfl ?_
    refine Wp.getP 58 d_Sights_tell_32 fl_Sights_18 rfl rfl rfl ?_
    refine Wp.aload_n 0 0 d_Sights_tell_35 rfl rfl ?_
    refine Wq.getI 10 rfl d_Sights_tell_36 fl_Sights_44 rfl (Or.inl rfl) ?_
    refine Wp.iload_n 3 3 d_Sights_tell_39 rfl rfl ?_
    obtain ⟨s42, H43⟩ := H13
    obtain ⟨s44, H45⟩ := H43
    refine Wq.zast d_Sights_tell_40 rfl s42.1 s42.2 s44 (fun m16 hm17 => ?_)
    have H18 := H45 m16 hm17
    refine Wp.aload_n 0 0 d_Sights_tell_41 rfl rfl ?_
    refine Wp.getP 59 d_Sights_tell_42 fl_Sights_22 rfl rfl rfl ?_
    refine Wp.aload_n 0 0 d_Sights_tell_45 rfl rfl ?_
    refine Wq.getI 10 rfl d_Sights_tell_46 fl_Sights_44 rfl (Or.inl rfl) ?_
    refine Wp.aload_n 0 0 d_Sights_tell_49 rfl rfl ?_
    refine Wq.getI 11 rfl d_Sights_tell_50 fl_Sights_52 rfl (Or.inl rfl) ?_
    obtain ⟨s40, H41⟩ := H18
    refine Wq.iast d_Sights_tell_53 rfl s40.1 s40.2 (fun m21 hm22 => ?_)
    have H23 := H41 m21 hm22
    refine Wp.aload_n 0 0 d_Sights_tell_54 rfl rfl ?_
    refine Wp.getP 60 d_Sights_tell_55 fl_Sights_25 rfl rfl rfl ?_
    refine Wp.aload_n 0 0 d_Sights_tell_58 rfl rfl ?_
    refine Wq.getI 10 rfl d_Sights_tell_59 fl_Sights_44 rfl (Or.inl rfl) ?_
    refine Wp.iconst d_Sights_tell_62 (by decide) ?_
    obtain ⟨s38, H39⟩ := H23
    refine Wq.iast d_Sights_tell_63 rfl s38.1 s38.2 (fun m26 hm27 => ?_)
    have H28 := H39 m26 hm27
    refine Wp.aload_n 0 0 d_Sights_tell_64 rfl rfl ?_
    refine Wp.dup d_Sights_tell_65 rfl ?_
    refine Wq.getI 10 rfl d_Sights_tell_66 fl_Sights_44 rfl (Or.inl rfl) ?_
    refine Wp.iconst d_Sights_tell_69 (by decide) ?_
    obtain ⟨s31, H32⟩ := H28
    refine Wp.iadd d_Sights_tell_70 s31 ?_
    refine Wq.putI 10 rfl d_Sights_tell_71 fl_Sights_44 (fun _ _ _ h => by cases h; rfl) rfl rfl rfl (fun m33 hm34 => ?_)
    have H35 := H32 m33 hm34
    refine Wp.aload_n 0 0 d_Sights_tell_74 rfl rfl ?_
    refine Wq.getI 10 rfl d_Sights_tell_75 fl_Sights_44 rfl (Or.inl rfl) ?_
    refine Wp.iconst d_Sights_tell_78 (by decide) ?_
    obtain ⟨s36, H37⟩ := H35
    refine Wp.isub d_Sights_tell_79 s36 ?_
    exact Wq.iret d_Sights_tell_80 rfl H37
  · have H5 := H3 c1
    refine Wp.iconst d_Sights_tell_9 (by decide) ?_
    exact Wq.iret d_Sights_tell_10 rfl H5
theorem d_Sights_takeBack_0 : decode Y_Sights_takeBack.2.1 0 = .ok (.iload_n 1, 1) := by decide +kernel
theorem d_Sights_takeBack_1 : decode Y_Sights_takeBack.2.1 1 = .ok (.ifCond .lt 21, 3) := by decide +kernel
theorem d_Sights_takeBack_4 : decode Y_Sights_takeBack.2.1 4 = .ok (.iload_n 1, 1) := by decide +kernel
theorem d_Sights_takeBack_5 : decode Y_Sights_takeBack.2.1 5 = .ok (.aload_n 0, 1) := by decide +kernel
theorem d_Sights_takeBack_6 : decode Y_Sights_takeBack.2.1 6 = .ok (.getfield 44, 3) := by decide +kernel
theorem d_Sights_takeBack_9 : decode Y_Sights_takeBack.2.1 9 = .ok (.if_icmp .ge 13, 3) := by decide +kernel
theorem d_Sights_takeBack_12 : decode Y_Sights_takeBack.2.1 12 = .ok (.aload_n 0, 1) := by decide +kernel
theorem d_Sights_takeBack_13 : decode Y_Sights_takeBack.2.1 13 = .ok (.getfield 25, 3) := by decide +kernel
theorem d_Sights_takeBack_16 : decode Y_Sights_takeBack.2.1 16 = .ok (.iload_n 1, 1) := by decide +kernel
theorem d_Sights_takeBack_17 : decode Y_Sights_takeBack.2.1 17 = .ok (.iaload, 1) := by decide +kernel
theorem d_Sights_takeBack_18 : decode Y_Sights_takeBack.2.1 18 = .ok (.iconst (-1), 1) := by decide +kernel
theorem d_Sights_takeBack_19 : decode Y_Sights_takeBack.2.1 19 = .ok (.if_icmp .eq 5, 3) := by decide +kernel
theorem d_Sights_takeBack_22 : decode Y_Sights_takeBack.2.1 22 = .ok (.iconst 0, 1) := by decide +kernel
theorem d_Sights_takeBack_23 : decode Y_Sights_takeBack.2.1 23 = .ok (.ireturn, 1) := by decide +kernel
theorem d_Sights_takeBack_24 : decode Y_Sights_takeBack.2.1 24 = .ok (.aload_n 0, 1) := by decide +kernel
theorem d_Sights_takeBack_25 : decode Y_Sights_takeBack.2.1 25 = .ok (.getfield 25, 3) := by decide +kernel
theorem d_Sights_takeBack_28 : decode Y_Sights_takeBack.2.1 28 = .ok (.iload_n 1, 1) := by decide +kernel
theorem d_Sights_takeBack_29 : decode Y_Sights_takeBack.2.1 29 = .ok (.aload_n 0, 1) := by decide +kernel
theorem d_Sights_takeBack_30 : decode Y_Sights_takeBack.2.1 30 = .ok (.getfield 52, 3) := by decide +kernel
theorem d_Sights_takeBack_33 : decode Y_Sights_takeBack.2.1 33 = .ok (.iastore, 1) := by decide +kernel
theorem d_Sights_takeBack_34 : decode Y_Sights_takeBack.2.1 34 = .ok (.iconst 1, 1) := by decide +kernel
theorem d_Sights_takeBack_35 : decode Y_Sights_takeBack.2.1 35 = .ok (.ireturn, 1) := by decide +kernel
theorem e_Sights_takeBack {l : Launch} {G : GT} {d : Nat} {P : Int → MM → Prop} {m : MM} (x1 : Int)  (H : wfM m → inR x1 → (x1 < 0 → (P 0 m)) ∧ (¬ (x1 < 0) → ((x1 ≥ (m 55 10) → (P 0 m)) ∧ (¬ (x1 ≥ (m 55 10)) → ((0 ≤ x1 ∧ x1 < (30 : Int)) ∧ (((m 60 x1) = (-1) → ((0 ≤ x1 ∧ x1 < (30 : Int)) ∧ (∀ m18, m18 = up m 60 x1 (m 55 11) → (P 1 m18)))) ∧ (¬ ((m 60 x1) = (-1)) → (P 0 m)))))))) : CI l G Y_Sights_takeBack d [.inr (.inr 55), .inl x1] m P := by
  refine CI.of [(0, .inr (.inr 55)), (1, .inl x1)] k_Sights_takeBack.1 (Nat.le_of_ble_eq_true rfl) rfl (Wp.wf (fun hw _ hl hs => ?_))
  have H0 := H hw (hl _ (List.mem_of_getElem? (i := 1) rfl))
  refine Wp.iload_n 1 1 d_Sights_takeBack_0 rfl rfl ?_
  obtain ⟨H2, H3⟩ := H0
  refine Wp.if_lt 22 d_Sights_takeBack_1 (by decide) (fun c1 => ?_) (fun c1 => ?_)
  · have H4 := H2 c1
    refine Wp.iconst d_Sights_takeBack_22 (by decide) ?_
    exact Wq.zret d_Sights_takeBack_23 rfl (by decide) H4
  · have H5 := H3 c1
    refine Wp.iload_n 1 1 d_Sights_takeBack_4 rfl rfl ?_
    refine Wp.aload_n 0 0 d_Sights_takeBack_5 rfl rfl ?_
    refine Wq.getI 10 rfl d_Sights_takeBack_6 fl_Sights_44 rfl (Or.inl rfl) ?_
    obtain ⟨H7, H8⟩ := H5
    refine Wp.icmp_ge 22 d_Sights_takeBack_9 (by decide) (fun c6 => ?_) (fun c6 => ?_)
    · have H9 := H7 c6
      refine Wp.iconst d_Sights_takeBack_22 (by decide) ?_
      exact Wq.zret d_Sights_takeBack_23 rfl (by decide) H9
    · have H10 := H8 c6
      refine Wp.aload_n 0 0 d_Sights_takeBack_12 rfl rfl ?_
      refine Wp.getP 60 d_Sights_takeBack_13 fl_Sights_25 rfl rfl rfl ?_
      refine Wp.iload_n 1 1 d_Sights_takeBack_16 rfl rfl ?_
      obtain ⟨s11, H12⟩ := H10
      refine Wp.iald d_Sights_takeBack_17 rfl (Or.inl rfl) s11.1 s11.2 ?_
      refine Wp.iconst d_Sights_takeBack_18 (by decide) ?_
      obtain ⟨H14, H15⟩ := H12
      refine Wp.icmp_eq 24 d_Sights_takeBack_19 (by decide) (fun c13 => ?_) (fun c13 => ?_)
      · have H16 := H14 c13
        refine Wp.aload_n 0 0 d_Sights_takeBack_24 rfl rfl ?_
        refine Wp.getP 60 d_Sights_takeBack_25 fl_Sights_25 rfl rfl rfl ?_
        refine Wp.iload_n 1 1 d_Sights_takeBack_28 rfl rfl ?_
        refine Wp.aload_n 0 0 d_Sights_takeBack_29 rfl rfl ?_
        refine Wq.getI 11 rfl d_Sights_takeBack_30 fl_Sights_52 rfl (Or.inl rfl) ?_
        obtain ⟨s23, H24⟩ := H16
        refine Wq.iast d_Sights_takeBack_33 rfl s23.1 s23.2 (fun m18 hm19 => ?_)
        have H20 := H24 m18 hm19
        refine Wp.iconst d_Sights_takeBack_34 (by decide) ?_
        exact Wq.zret d_Sights_takeBack_35 rfl (by decide) H20
      · have H17 := H15 c13
        refine Wp.iconst d_Sights_takeBack_22 (by decide) ?_
        exact Wq.zret d_Sights_takeBack_23 rfl (by decide) H17
theorem d_Sights_goLater_0 : decode Y_Sights_goLater.2.1 0 = .ok (.iload_n 1, 1) := by decide +kernel
theorem d_Sights_goLater_1 : decode Y_Sights_goLater.2.1 1 = .ok (.ifCond .lt 21, 3) := by decide +kernel
theorem d_Sights_goLater_4 : decode Y_Sights_goLater.2.1 4 = .ok (.iload_n 1, 1) := by decide +kernel
theorem d_Sights_goLater_5 : decode Y_Sights_goLater.2.1 5 = .ok (.sipush 1000, 3) := by decide +kernel
theorem d_Sights_goLater_8 : decode Y_Sights_goLater.2.1 8 = .ok (.if_icmp .gt 14, 3) := by decide +kernel
theorem d_Sights_goLater_11 : decode Y_Sights_goLater.2.1 11 = .ok (.aload_n 0, 1) := by decide +kernel
theorem d_Sights_goLater_12 : decode Y_Sights_goLater.2.1 12 = .ok (.getfield 52, 3) := by decide +kernel
theorem d_Sights_goLater_15 : decode Y_Sights_goLater.2.1 15 = .ok (.iload_n 1, 1) := by decide +kernel
theorem d_Sights_goLater_16 : decode Y_Sights_goLater.2.1 16 = .ok (.iadd, 1) := by decide +kernel
theorem d_Sights_goLater_17 : decode Y_Sights_goLater.2.1 17 = .ok (.ldc 55, 2) := by decide +kernel
theorem d_Sights_goLater_19 : decode Y_Sights_goLater.2.1 19 = .ok (.if_icmp .le 5, 3) := by decide +kernel
theorem d_Sights_goLater_22 : decode Y_Sights_goLater.2.1 22 = .ok (.iconst (-1), 1) := by decide +kernel
theorem d_Sights_goLater_23 : decode Y_Sights_goLater.2.1 23 = .ok (.ireturn, 1) := by decide +kernel
theorem d_Sights_goLater_24 : decode Y_Sights_goLater.2.1 24 = .ok (.aload_n 0, 1) := by decide +kernel
theorem d_Sights_goLater_25 : decode Y_Sights_goLater.2.1 25 = .ok (.dup, 1) := by decide +kernel
theorem d_Sights_goLater_26 : decode Y_Sights_goLater.2.1 26 = .ok (.getfield 52, 3) := by decide +kernel
theorem d_Sights_goLater_29 : decode Y_Sights_goLater.2.1 29 = .ok (.iload_n 1, 1) := by decide +kernel
theorem d_Sights_goLater_30 : decode Y_Sights_goLater.2.1 30 = .ok (.iadd, 1) := by decide +kernel
theorem d_Sights_goLater_31 : decode Y_Sights_goLater.2.1 31 = .ok (.putfield 52, 3) := by decide +kernel
theorem d_Sights_goLater_34 : decode Y_Sights_goLater.2.1 34 = .ok (.aload_n 0, 1) := by decide +kernel
theorem d_Sights_goLater_35 : decode Y_Sights_goLater.2.1 35 = .ok (.getfield 52, 3) := by decide +kernel
theorem d_Sights_goLater_38 : decode Y_Sights_goLater.2.1 38 = .ok (.ireturn, 1) := by decide +kernel
theorem e_Sights_goLater {l : Launch} {G : GT} {d : Nat} {P : Int → MM → Prop} {m : MM} (x1 : Int)  (H : wfM m → inR x1 → (x1 < 0 → (P (-1) m)) ∧ (¬ (x1 < 0) → ((x1 > 1000 → (P (-1) m)) ∧ (¬ (x1 > 1000) → ((inR ((m 55 11) + x1)) ∧ ((((m 55 11) + x1) ≤ 100000 → ((inR ((m 55 11) + x1)) ∧ (∀ m20, m20 = up m 55 11 ((m 55 11) + x1) → (P (m20 55 11) m20)))) ∧ (¬ (((m 55 11) + x1) ≤ 100000) → (P (-1) m)))))))) : CI l G Y_Sights_goLater d [.inr (.inr 55), .inl x1] m P := by
  refine CI.of [(0, .inr (.inr 55)), (1, .inl x1)] k_Sights_goLater.1 (Nat.le_of_ble_eq_true rfl) rfl (Wp.wf (fun hw _ hl hs => ?_))
  have H0 := H hw (hl _ (List.mem_of_getElem? (i := 1) rfl))
  refine Wp.iload_n 1 1 d_Sights_goLater_0 rfl rfl ?_
  obtain ⟨H2, H3⟩ := H0
  refine Wp.if_lt 22 d_Sights_goLater_1 (by decide) (fun c1 => ?_) (fun c1 => ?_)
  · have H4 := H2 c1
    refine Wp.iconst d_Sights_goLater_22 (by decide) ?_
    exact Wq.iret d_Sights_goLater_23 rfl H4
  · have H5 := H3 c1
    refine Wp.iload_n 1 1 d_Sights_goLater_4 rfl rfl ?_
    refine Wp.sipush d_Sights_goLater_5 (by decide) (by decide) ?_
    obtain ⟨H7, H8⟩ := H5
    refine Wp.icmp_gt 22 d_Sights_goLater_8 (by decide) (fun c6 => ?_) (fun c6 => ?_)
    · have H9 := H7 c6
      refine Wp.iconst d_Sights_goLater_22 (by decide) ?_
      exact Wq.iret d_Sights_goLater_23 rfl H9
    · have H10 := H8 c6
      refine Wp.aload_n 0 0 d_Sights_goLater_11 rfl rfl ?_
      refine Wq.getI 11 rfl d_Sights_goLater_12 fl_Sights_52 rfl (Or.inl rfl) ?_
      refine Wp.iload_n 1 1 d_Sights_goLater_15 rfl rfl ?_
      obtain ⟨s11, H12⟩ := H10
      refine Wp.iadd d_Sights_goLater_16 s11 ?_
      refine Wp.ldc (z := 100000) d_Sights_goLater_17 kc_Sights_55 (by decide) (by decide) ?_
      obtain ⟨H14, H15⟩ := H12
      refine Wp.icmp_le 24 d_Sights_goLater_19 (by decide) (fun c13 => ?_) (fun c13 => ?_)
      · have H16 := H14 c13
        refine Wp.aload_n 0 0 d_Sights_goLater_24 rfl rfl ?_
        refine Wp.dup d_Sights_goLater_25 rfl ?_
        refine Wq.getI 11 rfl d_Sights_goLater_26 fl_Sights_52 rfl (Or.inl rfl) ?_
        refine Wp.iload_n 1 1 d_Sights_goLater_29 rfl rfl ?_
        obtain ⟨s18, H19⟩ := H16
        refine Wp.iadd d_Sights_goLater_30 s18 ?_
        refine Wq.putI 11 rfl d_Sights_goLater_31 fl_Sights_52 (fun _ _ _ h => by cases h; rfl) rfl rfl rfl (fun m20 hm21 => ?_)
        have H22 := H19 m20 hm21
        refine Wp.aload_n 0 0 d_Sights_goLater_34 rfl rfl ?_
        refine Wq.getI 11 rfl d_Sights_goLater_35 fl_Sights_52 rfl (Or.inl rfl) ?_
        exact Wq.iret d_Sights_goLater_38 rfl H22
      · have H17 := H15 c13
        refine Wp.iconst d_Sights_goLater_22 (by decide) ?_
        exact Wq.iret d_Sights_goLater_23 rfl H17
theorem d_Sights_weigh_0 : decode Y_Sights_weigh.2.1 0 = .ok (.aload_n 1, 1) := by decide +kernel
theorem d_Sights_weigh_1 : decode Y_Sights_weigh.2.1 1 = .ok (.getfield 56, 3) := by decide +kernel
theorem d_Sights_weigh_4 : decode Y_Sights_weigh.2.1 4 = .ok (.ifCond .ne 5, 3) := by decide +kernel
theorem d_Sights_weigh_7 : decode Y_Sights_weigh.2.1 7 = .ok (.iconst 0, 1) := by decide +kernel
theorem d_Sights_weigh_8 : decode Y_Sights_weigh.2.1 8 = .ok (.ireturn, 1) := by decide +kernel
theorem d_Sights_weigh_9 : decode Y_Sights_weigh.2.1 9 = .ok (.aload_n 0, 1) := by decide +kernel
theorem d_Sights_weigh_10 : decode Y_Sights_weigh.2.1 10 = .ok (.aload_n 1, 1) := by decide +kernel
theorem d_Sights_weigh_11 : decode Y_Sights_weigh.2.1 11 = .ok (.invokevirtual 61, 3) := by decide +kernel
theorem d_Sights_weigh_14 : decode Y_Sights_weigh.2.1 14 = .ok (.iconst 0, 1) := by decide +kernel
theorem d_Sights_weigh_15 : decode Y_Sights_weigh.2.1 15 = .ok (.istore_n 3, 1) := by decide +kernel
theorem d_Sights_weigh_16 : decode Y_Sights_weigh.2.1 16 = .ok (.iconst 0, 1) := by decide +kernel
theorem d_Sights_weigh_17 : decode Y_Sights_weigh.2.1 17 = .ok (.istore 4, 2) := by decide +kernel
theorem d_Sights_weigh_19 : decode Y_Sights_weigh.2.1 19 = .ok (.iload 4, 2) := by decide +kernel
theorem d_Sights_weigh_21 : decode Y_Sights_weigh.2.1 21 = .ok (.bipush 31, 2) := by decide +kernel
theorem d_Sights_weigh_23 : decode Y_Sights_weigh.2.1 23 = .ok (.if_icmp .ge 59, 3) := by decide +kernel
theorem d_Sights_weigh_26 : decode Y_Sights_weigh.2.1 26 = .ok (.aload_n 0, 1) := by decide +kernel
theorem d_Sights_weigh_27 : decode Y_Sights_weigh.2.1 27 = .ok (.getfield 31, 3) := by decide +kernel
theorem d_Sights_weigh_30 : decode Y_Sights_weigh.2.1 30 = .ok (.iload 4, 2) := by decide +kernel
theorem d_Sights_weigh_32 : decode Y_Sights_weigh.2.1 32 = .ok (.aload_n 0, 1) := by decide +kernel
theorem d_Sights_weigh_33 : decode Y_Sights_weigh.2.1 33 = .ok (.iload 4, 2) := by decide +kernel
theorem d_Sights_weigh_35 : decode Y_Sights_weigh.2.1 35 = .ok (.iload_n 2, 1) := by decide +kernel
theorem d_Sights_weigh_36 : decode Y_Sights_weigh.2.1 36 = .ok (.invokevirtual 65, 3) := by decide +kernel
theorem d_Sights_weigh_39 : decode Y_Sights_weigh.2.1 39 = .ok (.bastore, 1) := by decide +kernel
theorem d_Sights_weigh_40 : decode Y_Sights_weigh.2.1 40 = .ok (.aload_n 0, 1) := by decide +kernel
theorem d_Sights_weigh_41 : decode Y_Sights_weigh.2.1 41 = .ok (.getfield 31, 3) := by decide +kernel
theorem d_Sights_weigh_44 : decode Y_Sights_weigh.2.1 44 = .ok (.iload 4, 2) := by decide +kernel
theorem d_Sights_weigh_46 : decode Y_Sights_weigh.2.1 46 = .ok (.baload, 1) := by decide +kernel
theorem d_Sights_weigh_47 : decode Y_Sights_weigh.2.1 47 = .ok (.ifCond .eq 29, 3) := by decide +kernel
theorem d_Sights_weigh_50 : decode Y_Sights_weigh.2.1 50 = .ok (.aload_n 0, 1) := by decide +kernel
theorem d_Sights_weigh_51 : decode Y_Sights_weigh.2.1 51 = .ok (.iload_n 3, 1) := by decide +kernel
theorem d_Sights_weigh_52 : decode Y_Sights_weigh.2.1 52 = .ok (.ifCond .ne 8, 3) := by decide +kernel
theorem d_Sights_weigh_55 : decode Y_Sights_weigh.2.1 55 = .ok (.iload 4, 2) := by decide +kernel
theorem d_Sights_weigh_57 : decode Y_Sights_weigh.2.1 57 = .ok (.goto 7, 3) := by decide +kernel
theorem d_Sights_weigh_60 : decode Y_Sights_weigh.2.1 60 = .ok (.aload_n 0, 1) := by decide +kernel
theorem d_Sights_weigh_61 : decode Y_Sights_weigh.2.1 61 = .ok (.getfield 69, 3) := by decide +kernel
theorem d_Sights_weigh_64 : decode Y_Sights_weigh.2.1 64 = .ok (.putfield 69, 3) := by decide +kernel
theorem d_Sights_weigh_67 : decode Y_Sights_weigh.2.1 67 = .ok (.aload_n 0, 1) := by decide +kernel
theorem d_Sights_weigh_68 : decode Y_Sights_weigh.2.1 68 = .ok (.iload 4, 2) := by decide +kernel
theorem d_Sights_weigh_70 : decode Y_Sights_weigh.2.1 70 = .ok (.putfield 72, 3) := by decide +kernel
theorem d_Sights_weigh_73 : decode Y_Sights_weigh.2.1 73 = .ok (.iinc 3 1, 3) := by decide +kernel
theorem d_Sights_weigh_76 : decode Y_Sights_weigh.2.1 76 = .ok (.iinc 4 1, 3) := by decide +kernel
theorem d_Sights_weigh_79 : decode Y_Sights_weigh.2.1 79 = .ok (.goto (-60), 3) := by decide +kernel
theorem d_Sights_weigh_82 : decode Y_Sights_weigh.2.1 82 = .ok (.iload_n 3, 1) := by decide +kernel
theorem d_Sights_weigh_83 : decode Y_Sights_weigh.2.1 83 = .ok (.ireturn, 1) := by decide +kernel
theorem e_Sights_weigh {l : Launch} {G : GT} {d : Nat} {P : Int → MM → Prop} {m : MM} (x2 : Int) (b1_ : Nat) (hB1_ : isB b1_) (H : wfM m → inR x2 → ((m b1_ 0) ≠ 0 → (∃ (e6 : Nat) (P7 : MM → Prop), e6 < d ∧ CV l G Y_Sights_prepare e6 [.inr (.inr 55), .inr (.inr b1_)] m P7 ∧ (∀ m13, P7 m13 → wfM m13 → (Wq l G false Y_Sights_weigh d (QI P) 19 [(0, .inr (.inr 55)), (2, .inl x2), (3, .inl 0), (4, .inl 0)] [] m13)))) ∧ (¬ ((m b1_ 0) ≠ 0) → (P 0 m))) : CI l G Y_Sights_weigh d [.inr (.inr 55), .inr (.inr b1_), .inl x2] m P := by
  refine CI.of [(0, .inr (.inr 55)), (1, .inr (.inr b1_)), (2, .inl x2)] k_Sights_weigh.1 (Nat.le_of_ble_eq_true rfl) rfl (Wp.wf (fun hw _ hl hs => ?_))
  have H0 := H hw (hl _ (List.mem_of_getElem? (i := 2) rfl))
  refine Wp.aload_n 1 1 d_Sights_weigh_0 rfl rfl ?_
  refine Wq.getI 0 rfl d_Sights_weigh_1 fl_Sights_56 (isB_lay hB1_) (Or.inl rfl) ?_
  obtain ⟨H2, H3⟩ := H0
  refine Wp.if_ne 9 d_Sights_weigh_4 (by decide) (fun c1 => ?_) (fun c1 => ?_)
  · have H4 := H2 c1
    refine Wp.aload_n 0 0 d_Sights_weigh_9 rfl rfl ?_
    refine Wp.aload_n 1 1 d_Sights_weigh_10 rfl rfl ?_
    obtain ⟨e6, P7, hd8, ho9, H10⟩ := H4
    refine Wq.VV (st := []) [.inr (.inr b1_)] d_Sights_weigh_11 k_Sights_prepare ml_Sights_61 rfl rfl rfl (fun h => by cases h) (Nat.le_of_ble_eq_true rfl) hd8 ho9 (fun m13 hp14 hw16 => ?_)
    have H11 := H10 m13 hp14 hw16
    refine Wp.iconst d_Sights_weigh_14 (by decide) ?_
    refine Wp.istore_n 3 [(0, .inr (.inr 55)), (1, .inr (.inr b1_)), (2, .inl x2), (3, .inl 0)] d_Sights_weigh_15 rfl (by decide) rfl ?_
    refine Wp.iconst d_Sights_weigh_16 (by decide) ?_
    refine Wp.istore 4 [(0, .inr (.inr 55)), (1, .inr (.inr b1_)), (2, .inl x2), (3, .inl 0), (4, .inl 0)] d_Sights_weigh_17 (by decide) rfl ?_
    refine Wp.pick [0, 2, 3, 4] [(0, .inr (.inr 55)), (2, .inl x2), (3, .inl 0), (4, .inl 0)] rfl ?_
    exact H11
  · have H5 := H3 c1
    refine Wp.iconst d_Sights_weigh_7 (by decide) ?_
    exact Wq.iret d_Sights_weigh_8 rfl H5
theorem s_Sights_weigh_19 {l : Launch} {G : GT} {d : Nat} {P : Int → MM → Prop} {m : MM} (x2 : Int) (x3 : Int) (x4 : Int)  (H : wfM m → inR x2 → inR x3 → inR x4 → (x4 ≥ 31 → (P x3 m)) ∧ (¬ (x4 ≥ 31) → (∃ (e6 : Nat) (P7 : Int → MM → Prop), e6 < d ∧ CI l G Y_Sights_agrees e6 [.inr (.inr 55), .inl x4, .inl x2] m P7 ∧ (∀ z12 m13, P7 z12 m13 → inR z12 → wfM m13 → ((0 ≤ x4 ∧ x4 < (31 : Int)) ∧ ((z12 = 0 ∨ z12 = 1) ∧ (∀ m17, m17 = up m13 62 x4 z12 → ((0 ≤ x4 ∧ x4 < (31 : Int)) ∧ (((m17 62 x4) = 0 → ((inR (x4 + 1)) ∧ (Wq l G false Y_Sights_weigh d (QI P) 19 [(0, .inr (.inr 55)), (2, .inl x2), (3, .inl x3), (4, .inl (x4 + 1))] [] m17))) ∧ (¬ ((m17 62 x4) = 0) → ((x3 ≠ 0 → (∀ m36, m36 = up m17 55 12 (m17 55 12) → (∀ m39, m39 = up m36 55 13 x4 → ((inR (x3 + 1)) ∧ ((inR (x4 + 1)) ∧ (Wq l G false Y_Sights_weigh d (QI P) 19 [(0, .inr (.inr 55)), (2, .inl x2), (3, .inl (x3 + 1)), (4, .inl (x4 + 1))] [] m39)))))) ∧ (¬ (x3 ≠ 0) → (∀ m46, m46 = up m17 55 12 x4 → (∀ m49, m49 = up m46 55 13 x4 → ((inR (x3 + 1)) ∧ ((inR (x4 + 1)) ∧ (Wq l G false Y_Sights_weigh d (QI P) 19 [(0, .inr (.inr 55)), (2, .inl x2), (3, .inl (x3 + 1)), (4, .inl (x4 + 1))] [] m49))))))))))))))))) : Wq l G false Y_Sights_weigh d (QI P) 19 [(0, .inr (.inr 55)), (2, .inl x2), (3, .inl x3), (4, .inl x4)] [] m := by
  refine Wp.wf (fun hw _ hl hs => ?_)
  have H0 := H hw (hl _ (List.mem_of_getElem? (i := 1) rfl)) (hl _ (List.mem_of_getElem? (i := 2) rfl)) (hl _ (List.mem_of_getElem? (i := 3) rfl))
  refine Wp.iload 3 4 d_Sights_weigh_19 rfl ?_
  refine Wp.bipush d_Sights_weigh_21 (by decide) (by decide) ?_
  obtain ⟨H2, H3⟩ := H0
  refine Wp.icmp_ge 82 d_Sights_weigh_23 (by decide) (fun c1 => ?_) (fun c1 => ?_)
  · have H4 := H2 c1
    refine Wp.iload_n 2 3 d_Sights_weigh_82 rfl rfl ?_
    exact Wq.iret d_Sights_weigh_83 rfl H4
  · have H5 := H3 c1
    refine Wp.aload_n 0 0 d_Sights_weigh_26 rfl rfl ?_
    refine Wp.getP 62 d_Sights_weigh_27 fl_Sights_31 rfl rfl rfl ?_
    refine Wp.iload 3 4 d_Sights_weigh_30 rfl ?_
    refine Wp.aload_n 0 0 d_Sights_weigh_32 rfl rfl ?_
    refine Wp.iload 3 4 d_Sights_weigh_33 rfl ?_
    refine Wp.iload_n 1 2 d_Sights_weigh_35 rfl rfl ?_
    obtain ⟨e6, P7, hd8, ho9, H10⟩ := H5
    refine Wq.VI (st := [.inl x4, .inr (.inr 62)]) [.inl x4, .inl x2] d_Sights_weigh_36 k_Sights_agrees ml_Sights_65 rfl rfl rfl (fun h => by cases h) (Nat.le_of_ble_eq_true rfl) hd8 ho9 (fun z12 m13 hp14 hz15 hw16 => ?_)
    have H11 := H10 z12 m13 hp14 hz15 hw16
    obtain ⟨s56, H57⟩ := H11
    obtain ⟨s58, H59⟩ := H57
    refine Wq.zast d_Sights_weigh_39 rfl s56.1 s56.2 s58 (fun m17 hm18 => ?_)
    have H19 := H59 m17 hm18
    refine Wp.aload_n 0 0 d_Sights_weigh_40 rfl rfl ?_
    refine Wp.getP 62 d_Sights_weigh_41 fl_Sights_31 rfl rfl rfl ?_
    refine Wp.iload 3 4 d_Sights_weigh_44 rfl ?_
    obtain ⟨s22, H23⟩ := H19
    refine Wp.zald d_Sights_weigh_46 rfl (Or.inl rfl) s22.1 s22.2 ?_
    obtain ⟨H25, H26⟩ := H23
    refine Wp.if_eq 76 d_Sights_weigh_47 (by decide) (fun c24 => ?_) (fun c24 => ?_)
    · have H27 := H25 c24
      obtain ⟨s29, H30⟩ := H27
      refine Wp.iinc 3 4 [(0, .inr (.inr 55)), (2, .inl x2), (3, .inl x3), (4, .inl (x4 + 1))] d_Sights_weigh_76 rfl s29 (by decide) rfl ?_
      refine Wp.goto 19 d_Sights_weigh_79 (by decide) ?_
      exact H30
    · have H28 := H26 c24
      refine Wp.aload_n 0 0 d_Sights_weigh_50 rfl rfl ?_
      refine Wp.iload_n 2 3 d_Sights_weigh_51 rfl rfl ?_
      obtain ⟨H32, H33⟩ := H28
      refine Wp.if_ne 60 d_Sights_weigh_52 (by decide) (fun c31 => ?_) (fun c31 => ?_)
      · have H34 := H32 c31
        refine Wp.aload_n 0 0 d_Sights_weigh_60 rfl rfl ?_
        refine Wq.getI 12 rfl d_Sights_weigh_61 fl_Sights_69 rfl (Or.inl rfl) ?_
        refine Wq.putI 12 rfl d_Sights_weigh_64 fl_Sights_69 (fun _ _ _ h => by cases h; rfl) rfl rfl rfl (fun m36 hm37 => ?_)
        have H38 := H34 m36 hm37
        refine Wp.aload_n 0 0 d_Sights_weigh_67 rfl rfl ?_
        refine Wp.iload 3 4 d_Sights_weigh_68 rfl ?_
        refine Wq.putI 13 rfl d_Sights_weigh_70 fl_Sights_72 (fun _ _ _ h => by cases h; rfl) rfl rfl rfl (fun m39 hm40 => ?_)
        have H41 := H38 m39 hm40
        obtain ⟨s42, H43⟩ := H41
        refine Wp.iinc 2 3 [(0, .inr (.inr 55)), (2, .inl x2), (3, .inl (x3 + 1)), (4, .inl x4)] d_Sights_weigh_73 rfl s42 (by decide) rfl ?_
        obtain ⟨s44, H45⟩ := H43
        refine Wp.iinc 3 4 [(0, .inr (.inr 55)), (2, .inl x2), (3, .inl (x3 + 1)), (4, .inl (x4 + 1))] d_Sights_weigh_76 rfl s44 (by decide) rfl ?_
        refine Wp.goto 19 d_Sights_weigh_79 (by decide) ?_
        exact H45
      · have H35 := H33 c31
        refine Wp.iload 3 4 d_Sights_weigh_55 rfl ?_
        refine Wp.goto 64 d_Sights_weigh_57 (by decide) ?_
        refine Wq.putI 12 rfl d_Sights_weigh_64 fl_Sights_69 (fun _ _ _ h => by cases h; rfl) rfl rfl rfl (fun m46 hm47 => ?_)
        have H48 := H35 m46 hm47
        refine Wp.aload_n 0 0 d_Sights_weigh_67 rfl rfl ?_
        refine Wp.iload 3 4 d_Sights_weigh_68 rfl ?_
        refine Wq.putI 13 rfl d_Sights_weigh_70 fl_Sights_72 (fun _ _ _ h => by cases h; rfl) rfl rfl rfl (fun m49 hm50 => ?_)
        have H51 := H48 m49 hm50
        obtain ⟨s52, H53⟩ := H51
        refine Wp.iinc 2 3 [(0, .inr (.inr 55)), (2, .inl x2), (3, .inl (x3 + 1)), (4, .inl x4)] d_Sights_weigh_73 rfl s52 (by decide) rfl ?_
        obtain ⟨s54, H55⟩ := H53
        refine Wp.iinc 3 4 [(0, .inr (.inr 55)), (2, .inl x2), (3, .inl (x3 + 1)), (4, .inl (x4 + 1))] d_Sights_weigh_76 rfl s54 (by decide) rfl ?_
        refine Wp.goto 19 d_Sights_weigh_79 (by decide) ?_
        exact H55
theorem d_Sights_prepare_0 : decode Y_Sights_prepare.2.1 0 = .ok (.aload_n 0, 1) := by decide +kernel
theorem d_Sights_prepare_1 : decode Y_Sights_prepare.2.1 1 = .ok (.getfield 48, 3) := by decide +kernel
theorem d_Sights_prepare_4 : decode Y_Sights_prepare.2.1 4 = .ok (.ifCond .eq 4, 3) := by decide +kernel
theorem d_Sights_prepare_7 : decode Y_Sights_prepare.2.1 7 = .ok (.return_, 1) := by decide +kernel
theorem d_Sights_prepare_8 : decode Y_Sights_prepare.2.1 8 = .ok (.aload_n 1, 1) := by decide +kernel
theorem d_Sights_prepare_9 : decode Y_Sights_prepare.2.1 9 = .ok (.getfield 56, 3) := by decide +kernel
theorem d_Sights_prepare_12 : decode Y_Sights_prepare.2.1 12 = .ok (.iconst 1, 1) := by decide +kernel
theorem d_Sights_prepare_13 : decode Y_Sights_prepare.2.1 13 = .ok (.isub, 1) := by decide +kernel
theorem d_Sights_prepare_14 : decode Y_Sights_prepare.2.1 14 = .ok (.istore_n 2, 1) := by decide +kernel
theorem d_Sights_prepare_15 : decode Y_Sights_prepare.2.1 15 = .ok (.aload_n 0, 1) := by decide +kernel
theorem d_Sights_prepare_16 : decode Y_Sights_prepare.2.1 16 = .ok (.getfield 40, 3) := by decide +kernel
theorem d_Sights_prepare_19 : decode Y_Sights_prepare.2.1 19 = .ok (.aload_n 1, 1) := by decide +kernel
theorem d_Sights_prepare_20 : decode Y_Sights_prepare.2.1 20 = .ok (.getfield 75, 3) := by decide +kernel
theorem d_Sights_prepare_23 : decode Y_Sights_prepare.2.1 23 = .ok (.invokevirtual 78, 3) := by decide +kernel
theorem d_Sights_prepare_26 : decode Y_Sights_prepare.2.1 26 = .ok (.aload_n 0, 1) := by decide +kernel
theorem d_Sights_prepare_27 : decode Y_Sights_prepare.2.1 27 = .ok (.getfield 40, 3) := by decide +kernel
theorem d_Sights_prepare_30 : decode Y_Sights_prepare.2.1 30 = .ok (.getfield 82, 3) := by decide +kernel
theorem d_Sights_prepare_33 : decode Y_Sights_prepare.2.1 33 = .ok (.iload_n 2, 1) := by decide +kernel
theorem d_Sights_prepare_34 : decode Y_Sights_prepare.2.1 34 = .ok (.iconst 0, 1) := by decide +kernel
theorem d_Sights_prepare_35 : decode Y_Sights_prepare.2.1 35 = .ok (.iastore, 1) := by decide +kernel
theorem d_Sights_prepare_36 : decode Y_Sights_prepare.2.1 36 = .ok (.iconst 0, 1) := by decide +kernel
theorem d_Sights_prepare_37 : decode Y_Sights_prepare.2.1 37 = .ok (.istore_n 3, 1) := by decide +kernel
theorem d_Sights_prepare_38 : decode Y_Sights_prepare.2.1 38 = .ok (.iload_n 3, 1) := by decide +kernel
theorem d_Sights_prepare_39 : decode Y_Sights_prepare.2.1 39 = .ok (.bipush 31, 2) := by decide +kernel
theorem d_Sights_prepare_41 : decode Y_Sights_prepare.2.1 41 = .ok (.if_icmp .ge 62, 3) := by decide +kernel
theorem d_Sights_prepare_44 : decode Y_Sights_prepare.2.1 44 = .ok (.aload_n 0, 1) := by decide +kernel
theorem d_Sights_prepare_45 : decode Y_Sights_prepare.2.1 45 = .ok (.getfield 40, 3) := by decide +kernel
theorem d_Sights_prepare_48 : decode Y_Sights_prepare.2.1 48 = .ok (.aload_n 1, 1) := by decide +kernel
theorem d_Sights_prepare_49 : decode Y_Sights_prepare.2.1 49 = .ok (.invokevirtual 85, 3) := by decide +kernel
theorem d_Sights_prepare_52 : decode Y_Sights_prepare.2.1 52 = .ok (.iconst 0, 1) := by decide +kernel
theorem d_Sights_prepare_53 : decode Y_Sights_prepare.2.1 53 = .ok (.istore 4, 2) := by decide +kernel
theorem d_Sights_prepare_55 : decode Y_Sights_prepare.2.1 55 = .ok (.iload 4, 2) := by decide +kernel
theorem d_Sights_prepare_57 : decode Y_Sights_prepare.2.1 57 = .ok (.iconst 5, 1) := by decide +kernel
theorem d_Sights_prepare_58 : decode Y_Sights_prepare.2.1 58 = .ok (.if_icmp .ge 30, 3) := by decide +kernel
theorem d_Sights_prepare_61 : decode Y_Sights_prepare.2.1 61 = .ok (.aload_n 0, 1) := by decide +kernel
theorem d_Sights_prepare_62 : decode Y_Sights_prepare.2.1 62 = .ok (.getfield 28, 3) := by decide +kernel
theorem d_Sights_prepare_65 : decode Y_Sights_prepare.2.1 65 = .ok (.iload_n 3, 1) := by decide +kernel
theorem d_Sights_prepare_66 : decode Y_Sights_prepare.2.1 66 = .ok (.iconst 5, 1) := by decide +kernel
theorem d_Sights_prepare_67 : decode Y_Sights_prepare.2.1 67 = .ok (.imul, 1) := by decide +kernel
theorem d_Sights_prepare_68 : decode Y_Sights_prepare.2.1 68 = .ok (.iload 4, 2) := by decide +kernel
theorem d_Sights_prepare_70 : decode Y_Sights_prepare.2.1 70 = .ok (.iadd, 1) := by decide +kernel
theorem d_Sights_prepare_71 : decode Y_Sights_prepare.2.1 71 = .ok (.aload_n 0, 1) := by decide +kernel
theorem d_Sights_prepare_72 : decode Y_Sights_prepare.2.1 72 = .ok (.getfield 40, 3) := by decide +kernel
theorem d_Sights_prepare_75 : decode Y_Sights_prepare.2.1 75 = .ok (.getfield 82, 3) := by decide +kernel
theorem d_Sights_prepare_78 : decode Y_Sights_prepare.2.1 78 = .ok (.iload 4, 2) := by decide +kernel
theorem d_Sights_prepare_80 : decode Y_Sights_prepare.2.1 80 = .ok (.iaload, 1) := by decide +kernel
theorem d_Sights_prepare_81 : decode Y_Sights_prepare.2.1 81 = .ok (.iastore, 1) := by decide +kernel
theorem d_Sights_prepare_82 : decode Y_Sights_prepare.2.1 82 = .ok (.iinc 4 1, 3) := by decide +kernel
theorem d_Sights_prepare_85 : decode Y_Sights_prepare.2.1 85 = .ok (.goto (-30), 3) := by decide +kernel
theorem d_Sights_prepare_88 : decode Y_Sights_prepare.2.1 88 = .ok (.aload_n 0, 1) := by decide +kernel
theorem d_Sights_prepare_89 : decode Y_Sights_prepare.2.1 89 = .ok (.getfield 40, 3) := by decide +kernel
theorem d_Sights_prepare_92 : decode Y_Sights_prepare.2.1 92 = .ok (.iload_n 2, 1) := by decide +kernel
theorem d_Sights_prepare_93 : decode Y_Sights_prepare.2.1 93 = .ok (.iconst 1, 1) := by decide +kernel
theorem d_Sights_prepare_94 : decode Y_Sights_prepare.2.1 94 = .ok (.invokevirtual 88, 3) := by decide +kernel
theorem d_Sights_prepare_97 : decode Y_Sights_prepare.2.1 97 = .ok (.iinc 3 1, 3) := by decide +kernel
theorem d_Sights_prepare_100 : decode Y_Sights_prepare.2.1 100 = .ok (.goto (-62), 3) := by decide +kernel
theorem d_Sights_prepare_103 : decode Y_Sights_prepare.2.1 103 = .ok (.aload_n 0, 1) := by decide +kernel
theorem d_Sights_prepare_104 : decode Y_Sights_prepare.2.1 104 = .ok (.iconst 1, 1) := by decide +kernel
theorem d_Sights_prepare_105 : decode Y_Sights_prepare.2.1 105 = .ok (.putfield 48, 3) := by decide +kernel
theorem d_Sights_prepare_108 : decode Y_Sights_prepare.2.1 108 = .ok (.return_, 1) := by decide +kernel
theorem e_Sights_prepare {l : Launch} {G : GT} {d : Nat} {P : MM → Prop} {m : MM} (b1_ : Nat) (hB1_ : isB b1_) (H : wfM m → ((m 55 9) = 0 → ((inR ((m b1_ 0) - 1)) ∧ (∃ (e8 : Nat) (P9 : MM → Prop), e8 < d ∧ CV l G Y_Sand_take e8 [.inr (.inr 64), .inr (.inr (b1_ + 1))] m P9 ∧ (∀ m15, P9 m15 → wfM m15 → ((0 ≤ ((m b1_ 0) - 1) ∧ ((m b1_ 0) - 1) < (5 : Int)) ∧ (∀ m19, m19 = up m15 65 ((m b1_ 0) - 1) 0 → (Wq l G false Y_Sights_prepare d (QV P) 38 [(0, .inr (.inr 55)), (1, .inr (.inr b1_)), (2, .inl ((m b1_ 0) - 1)), (3, .inl 0)] [] m19))))))) ∧ (¬ ((m 55 9) = 0) → (P m))) : CV l G Y_Sights_prepare d [.inr (.inr 55), .inr (.inr b1_)] m P := by
  refine CV.of [(0, .inr (.inr 55)), (1, .inr (.inr b1_))] k_Sights_prepare.1 (Nat.le_of_ble_eq_true rfl) rfl (Wp.wf (fun hw _ hl hs => ?_))
  have H0 := H hw
  refine Wp.aload_n 0 0 d_Sights_prepare_0 rfl rfl ?_
  refine Wq.getI 9 rfl d_Sights_prepare_1 fl_Sights_48 rfl (Or.inr rfl) ?_
  obtain ⟨H2, H3⟩ := H0
  refine Wp.if_eq 8 d_Sights_prepare_4 (by decide) (fun c1 => ?_) (fun c1 => ?_)
  · have H4 := H2 c1
    refine Wp.aload_n 1 1 d_Sights_prepare_8 rfl rfl ?_
    refine Wq.getI 0 rfl d_Sights_prepare_9 fl_Sights_56 (isB_lay hB1_) (Or.inl rfl) ?_
    refine Wp.iconst d_Sights_prepare_12 (by decide) ?_
    obtain ⟨s6, H7⟩ := H4
    refine Wp.isub d_Sights_prepare_13 s6 ?_
    refine Wp.istore_n 2 [(0, .inr (.inr 55)), (1, .inr (.inr b1_)), (2, .inl ((m b1_ 0) - 1))] d_Sights_prepare_14 rfl (by decide) rfl ?_
    refine Wp.aload_n 0 0 d_Sights_prepare_15 rfl rfl ?_
    refine Wp.getP 64 d_Sights_prepare_16 fl_Sights_40 rfl rfl rfl ?_
    refine Wp.aload_n 1 1 d_Sights_prepare_19 rfl rfl ?_
    refine Wp.getP (b1_ + 1) d_Sights_prepare_20 fl_Sights_75 (isB_lay hB1_) rfl (isB_p5 hB1_) ?_
    obtain ⟨e8, P9, hd10, ho11, H12⟩ := H7
    refine Wq.VV (st := []) [.inr (.inr (b1_ + 1))] d_Sights_prepare_23 k_Sand_take ml_Sights_78 rfl rfl rfl (fun h => by cases h) (Nat.le_of_ble_eq_true rfl) hd10 ho11 (fun m15 hp16 hw18 => ?_)
    have H13 := H12 m15 hp16 hw18
    refine Wp.aload_n 0 0 d_Sights_prepare_26 rfl rfl ?_
    refine Wp.getP 64 d_Sights_prepare_27 fl_Sights_40 rfl rfl rfl ?_
    refine Wp.getP 65 d_Sights_prepare_30 fl_Sights_82 rfl rfl rfl ?_
    refine Wp.iload_n 2 2 d_Sights_prepare_33 rfl rfl ?_
    refine Wp.iconst d_Sights_prepare_34 (by decide) ?_
    obtain ⟨s24, H25⟩ := H13
    refine Wq.iast d_Sights_prepare_35 rfl s24.1 s24.2 (fun m19 hm20 => ?_)
    have H21 := H25 m19 hm20
    refine Wp.iconst d_Sights_prepare_36 (by decide) ?_
    refine Wp.istore_n 3 [(0, .inr (.inr 55)), (1, .inr (.inr b1_)), (2, .inl ((m b1_ 0) - 1)), (3, .inl 0)] d_Sights_prepare_37 rfl (by decide) rfl ?_
    exact H21
  · have H5 := H3 c1
    exact Wq.vret d_Sights_prepare_7 rfl H5
theorem s_Sights_prepare_38 {l : Launch} {G : GT} {d : Nat} {P : MM → Prop} {m : MM} (x2 : Int) (x3 : Int) (b1_ : Nat) (hB1_ : isB b1_) (H : wfM m → inR x2 → inR x3 → (x3 ≥ 31 → (∀ m6, m6 = up m 55 9 1 → (P m6))) ∧ (¬ (x3 ≥ 31) → (∃ (e9 : Nat) (P10 : MM → Prop), e9 < d ∧ CV l G Y_Sand_calm e9 [.inr (.inr 64), .inr (.inr b1_)] m P10 ∧ (∀ m16, P10 m16 → wfM m16 → (Wq l G false Y_Sights_prepare d (QV P) 55 [(0, .inr (.inr 55)), (1, .inr (.inr b1_)), (2, .inl x2), (3, .inl x3), (4, .inl 0)] [] m16))))) : Wq l G false Y_Sights_prepare d (QV P) 38 [(0, .inr (.inr 55)), (1, .inr (.inr b1_)), (2, .inl x2), (3, .inl x3)] [] m := by
  refine Wp.wf (fun hw _ hl hs => ?_)
  have H0 := H hw (hl _ (List.mem_of_getElem? (i := 2) rfl)) (hl _ (List.mem_of_getElem? (i := 3) rfl))
  refine Wp.iload_n 3 3 d_Sights_prepare_38 rfl rfl ?_
  refine Wp.bipush d_Sights_prepare_39 (by decide) (by decide) ?_
  obtain ⟨H2, H3⟩ := H0
  refine Wp.icmp_ge 103 d_Sights_prepare_41 (by decide) (fun c1 => ?_) (fun c1 => ?_)
  · have H4 := H2 c1
    refine Wp.aload_n 0 0 d_Sights_prepare_103 rfl rfl ?_
    refine Wp.iconst d_Sights_prepare_104 (by decide) ?_
    refine Wq.putZ 9 rfl d_Sights_prepare_105 fl_Sights_48 (fun _ _ _ h => by cases h; rfl) rfl rfl rfl (by decide) (fun m6 hm7 => ?_)
    have H8 := H4 m6 hm7
    exact Wq.vret d_Sights_prepare_108 rfl H8
  · have H5 := H3 c1
    refine Wp.aload_n 0 0 d_Sights_prepare_44 rfl rfl ?_
    refine Wp.getP 64 d_Sights_prepare_45 fl_Sights_40 rfl rfl rfl ?_
    refine Wp.aload_n 1 1 d_Sights_prepare_48 rfl rfl ?_
    obtain ⟨e9, P10, hd11, ho12, H13⟩ := H5
    refine Wq.VV (st := []) [.inr (.inr b1_)] d_Sights_prepare_49 k_Sand_calm ml_Sights_85 rfl rfl rfl (fun h => by cases h) (Nat.le_of_ble_eq_true rfl) hd11 ho12 (fun m16 hp17 hw19 => ?_)
    have H14 := H13 m16 hp17 hw19
    refine Wp.iconst d_Sights_prepare_52 (by decide) ?_
    refine Wp.istore 4 [(0, .inr (.inr 55)), (1, .inr (.inr b1_)), (2, .inl x2), (3, .inl x3), (4, .inl 0)] d_Sights_prepare_53 (by decide) rfl ?_
    exact H14
theorem s_Sights_prepare_55 {l : Launch} {G : GT} {d : Nat} {P : MM → Prop} {m : MM} (x2 : Int) (x3 : Int) (x4 : Int) (b1_ : Nat) (hB1_ : isB b1_) (H : wfM m → inR x2 → inR x3 → inR x4 → (x4 ≥ 5 → (∃ (e6 : Nat) (P7 : MM → Prop), e6 < d ∧ CV l G Y_Sand_put e6 [.inr (.inr 64), .inl x2, .inl 1] m P7 ∧ (∀ m13, P7 m13 → wfM m13 → ((inR (x3 + 1)) ∧ (Wq l G false Y_Sights_prepare d (QV P) 38 [(0, .inr (.inr 55)), (1, .inr (.inr b1_)), (2, .inl x2), (3, .inl (x3 + 1))] [] m13))))) ∧ (¬ (x4 ≥ 5) → ((inR (x3 * 5)) ∧ ((inR ((x3 * 5) + x4)) ∧ ((0 ≤ x4 ∧ x4 < (5 : Int)) ∧ ((0 ≤ ((x3 * 5) + x4) ∧ ((x3 * 5) + x4) < (155 : Int)) ∧ (∀ m25, m25 = up m 61 ((x3 * 5) + x4) (m 65 x4) → ((inR (x4 + 1)) ∧ (Wq l G false Y_Sights_prepare d (QV P) 55 [(0, .inr (.inr 55)), (1, .inr (.inr b1_)), (2, .inl x2), (3, .inl x3), (4, .inl (x4 + 1))] [] m25))))))))) : Wq l G false Y_Sights_prepare d (QV P) 55 [(0, .inr (.inr 55)), (1, .inr (.inr b1_)), (2, .inl x2), (3, .inl x3), (4, .inl x4)] [] m := by
  refine Wp.wf (fun hw _ hl hs => ?_)
  have H0 := H hw (hl _ (List.mem_of_getElem? (i := 2) rfl)) (hl _ (List.mem_of_getElem? (i := 3) rfl)) (hl _ (List.mem_of_getElem? (i := 4) rfl))
  refine Wp.iload 4 4 d_Sights_prepare_55 rfl ?_
  refine Wp.iconst d_Sights_prepare_57 (by decide) ?_
  obtain ⟨H2, H3⟩ := H0
  refine Wp.icmp_ge 88 d_Sights_prepare_58 (by decide) (fun c1 => ?_) (fun c1 => ?_)
  · have H4 := H2 c1
    refine Wp.aload_n 0 0 d_Sights_prepare_88 rfl rfl ?_
    refine Wp.getP 64 d_Sights_prepare_89 fl_Sights_40 rfl rfl rfl ?_
    refine Wp.iload_n 2 2 d_Sights_prepare_92 rfl rfl ?_
    refine Wp.iconst d_Sights_prepare_93 (by decide) ?_
    obtain ⟨e6, P7, hd8, ho9, H10⟩ := H4
    refine Wq.VV (st := []) [.inl x2, .inl 1] d_Sights_prepare_94 k_Sand_put ml_Sights_88 rfl rfl rfl (fun h => by cases h) (Nat.le_of_ble_eq_true rfl) hd8 ho9 (fun m13 hp14 hw16 => ?_)
    have H11 := H10 m13 hp14 hw16
    obtain ⟨s17, H18⟩ := H11
    refine Wp.iinc 3 3 [(0, .inr (.inr 55)), (1, .inr (.inr b1_)), (2, .inl x2), (3, .inl (x3 + 1)), (4, .inl x4)] d_Sights_prepare_97 rfl s17 (by decide) rfl ?_
    refine Wp.goto 38 d_Sights_prepare_100 (by decide) ?_
    refine Wp.pick [0, 1, 2, 3] [(0, .inr (.inr 55)), (1, .inr (.inr b1_)), (2, .inl x2), (3, .inl (x3 + 1))] rfl ?_
    exact H18
  · have H5 := H3 c1
    refine Wp.aload_n 0 0 d_Sights_prepare_61 rfl rfl ?_
    refine Wp.getP 61 d_Sights_prepare_62 fl_Sights_28 rfl rfl rfl ?_
    refine Wp.iload_n 3 3 d_Sights_prepare_65 rfl rfl ?_
    refine Wp.iconst d_Sights_prepare_66 (by decide) ?_
    obtain ⟨s19, H20⟩ := H5
    refine Wp.imul d_Sights_prepare_67 s19 ?_
    refine Wp.iload 4 4 d_Sights_prepare_68 rfl ?_
    obtain ⟨s21, H22⟩ := H20
    refine Wp.iadd d_Sights_prepare_70 s21 ?_
    refine Wp.aload_n 0 0 d_Sights_prepare_71 rfl rfl ?_
    refine Wp.getP 64 d_Sights_prepare_72 fl_Sights_40 rfl rfl rfl ?_
    refine Wp.getP 65 d_Sights_prepare_75 fl_Sights_82 rfl rfl rfl ?_
    refine Wp.iload 4 4 d_Sights_prepare_78 rfl ?_
    obtain ⟨s23, H24⟩ := H22
    refine Wp.iald d_Sights_prepare_80 rfl (Or.inl rfl) s23.1 s23.2 ?_
    obtain ⟨s32, H33⟩ := H24
    refine Wq.iast d_Sights_prepare_81 rfl s32.1 s32.2 (fun m25 hm26 => ?_)
    have H27 := H33 m25 hm26
    obtain ⟨s30, H31⟩ := H27
    refine Wp.iinc 4 4 [(0, .inr (.inr 55)), (1, .inr (.inr b1_)), (2, .inl x2), (3, .inl x3), (4, .inl (x4 + 1))] d_Sights_prepare_82 rfl s30 (by decide) rfl ?_
    refine Wp.goto 55 d_Sights_prepare_85 (by decide) ?_
    exact H31
theorem d_Sights_agrees_0 : decode Y_Sights_agrees.2.1 0 = .ok (.iconst 0, 1) := by decide +kernel
theorem d_Sights_agrees_1 : decode Y_Sights_agrees.2.1 1 = .ok (.istore_n 3, 1) := by decide +kernel
theorem d_Sights_agrees_2 : decode Y_Sights_agrees.2.1 2 = .ok (.iload_n 3, 1) := by decide +kernel
theorem d_Sights_agrees_3 : decode Y_Sights_agrees.2.1 3 = .ok (.aload_n 0, 1) := by decide +kernel
theorem d_Sights_agrees_4 : decode Y_Sights_agrees.2.1 4 = .ok (.getfield 44, 3) := by decide +kernel
theorem d_Sights_agrees_7 : decode Y_Sights_agrees.2.1 7 = .ok (.if_icmp .ge 95, 3) := by decide +kernel
theorem d_Sights_agrees_10 : decode Y_Sights_agrees.2.1 10 = .ok (.aload_n 0, 1) := by decide +kernel
theorem d_Sights_agrees_11 : decode Y_Sights_agrees.2.1 11 = .ok (.getfield 22, 3) := by decide +kernel
theorem d_Sights_agrees_14 : decode Y_Sights_agrees.2.1 14 = .ok (.iload_n 3, 1) := by decide +kernel
theorem d_Sights_agrees_15 : decode Y_Sights_agrees.2.1 15 = .ok (.iaload, 1) := by decide +kernel
theorem d_Sights_agrees_16 : decode Y_Sights_agrees.2.1 16 = .ok (.iload_n 2, 1) := by decide +kernel
theorem d_Sights_agrees_17 : decode Y_Sights_agrees.2.1 17 = .ok (.if_icmp .gt 27, 3) := by decide +kernel
theorem d_Sights_agrees_20 : decode Y_Sights_agrees.2.1 20 = .ok (.aload_n 0, 1) := by decide +kernel
theorem d_Sights_agrees_21 : decode Y_Sights_agrees.2.1 21 = .ok (.getfield 25, 3) := by decide +kernel
theorem d_Sights_agrees_24 : decode Y_Sights_agrees.2.1 24 = .ok (.iload_n 3, 1) := by decide +kernel
theorem d_Sights_agrees_25 : decode Y_Sights_agrees.2.1 25 = .ok (.iaload, 1) := by decide +kernel
theorem d_Sights_agrees_26 : decode Y_Sights_agrees.2.1 26 = .ok (.iconst (-1), 1) := by decide +kernel
theorem d_Sights_agrees_27 : decode Y_Sights_agrees.2.1 27 = .ok (.if_icmp .eq 13, 3) := by decide +kernel
theorem d_Sights_agrees_30 : decode Y_Sights_agrees.2.1 30 = .ok (.aload_n 0, 1) := by decide +kernel
theorem d_Sights_agrees_31 : decode Y_Sights_agrees.2.1 31 = .ok (.getfield 25, 3) := by decide +kernel
theorem d_Sights_agrees_34 : decode Y_Sights_agrees.2.1 34 = .ok (.iload_n 3, 1) := by decide +kernel
theorem d_Sights_agrees_35 : decode Y_Sights_agrees.2.1 35 = .ok (.iaload, 1) := by decide +kernel
theorem d_Sights_agrees_36 : decode Y_Sights_agrees.2.1 36 = .ok (.iload_n 2, 1) := by decide +kernel
theorem d_Sights_agrees_37 : decode Y_Sights_agrees.2.1 37 = .ok (.if_icmp .le 7, 3) := by decide +kernel
theorem d_Sights_agrees_40 : decode Y_Sights_agrees.2.1 40 = .ok (.iconst 1, 1) := by decide +kernel
theorem d_Sights_agrees_41 : decode Y_Sights_agrees.2.1 41 = .ok (.goto 4, 3) := by decide +kernel
theorem d_Sights_agrees_44 : decode Y_Sights_agrees.2.1 44 = .ok (.iconst 0, 1) := by decide +kernel
theorem d_Sights_agrees_45 : decode Y_Sights_agrees.2.1 45 = .ok (.istore 4, 2) := by decide +kernel
theorem d_Sights_agrees_47 : decode Y_Sights_agrees.2.1 47 = .ok (.aload_n 0, 1) := by decide +kernel
theorem d_Sights_agrees_48 : decode Y_Sights_agrees.2.1 48 = .ok (.getfield 28, 3) := by decide +kernel
theorem d_Sights_agrees_51 : decode Y_Sights_agrees.2.1 51 = .ok (.iload_n 1, 1) := by decide +kernel
theorem d_Sights_agrees_52 : decode Y_Sights_agrees.2.1 52 = .ok (.iconst 5, 1) := by decide +kernel
theorem d_Sights_agrees_53 : decode Y_Sights_agrees.2.1 53 = .ok (.imul, 1) := by decide +kernel
theorem d_Sights_agrees_54 : decode Y_Sights_agrees.2.1 54 = .ok (.aload_n 0, 1) := by decide +kernel
theorem d_Sights_agrees_55 : decode Y_Sights_agrees.2.1 55 = .ok (.getfield 11, 3) := by decide +kernel
theorem d_Sights_agrees_58 : decode Y_Sights_agrees.2.1 58 = .ok (.iload_n 3, 1) := by decide +kernel
theorem d_Sights_agrees_59 : decode Y_Sights_agrees.2.1 59 = .ok (.iaload, 1) := by decide +kernel
theorem d_Sights_agrees_60 : decode Y_Sights_agrees.2.1 60 = .ok (.iadd, 1) := by decide +kernel
theorem d_Sights_agrees_61 : decode Y_Sights_agrees.2.1 61 = .ok (.iaload, 1) := by decide +kernel
theorem d_Sights_agrees_62 : decode Y_Sights_agrees.2.1 62 = .ok (.aload_n 0, 1) := by decide +kernel
theorem d_Sights_agrees_63 : decode Y_Sights_agrees.2.1 63 = .ok (.getfield 15, 3) := by decide +kernel
theorem d_Sights_agrees_66 : decode Y_Sights_agrees.2.1 66 = .ok (.iload_n 3, 1) := by decide +kernel
theorem d_Sights_agrees_67 : decode Y_Sights_agrees.2.1 67 = .ok (.iaload, 1) := by decide +kernel
theorem d_Sights_agrees_68 : decode Y_Sights_agrees.2.1 68 = .ok (.if_icmp .lt 7, 3) := by decide +kernel
theorem d_Sights_agrees_71 : decode Y_Sights_agrees.2.1 71 = .ok (.iconst 1, 1) := by decide +kernel
theorem d_Sights_agrees_72 : decode Y_Sights_agrees.2.1 72 = .ok (.goto 4, 3) := by decide +kernel
theorem d_Sights_agrees_75 : decode Y_Sights_agrees.2.1 75 = .ok (.iconst 0, 1) := by decide +kernel
theorem d_Sights_agrees_76 : decode Y_Sights_agrees.2.1 76 = .ok (.istore 5, 2) := by decide +kernel
theorem d_Sights_agrees_78 : decode Y_Sights_agrees.2.1 78 = .ok (.iload 4, 2) := by decide +kernel
theorem d_Sights_agrees_80 : decode Y_Sights_agrees.2.1 80 = .ok (.ifCond .eq 16, 3) := by decide +kernel
theorem d_Sights_agrees_83 : decode Y_Sights_agrees.2.1 83 = .ok (.iload 5, 2) := by decide +kernel
theorem d_Sights_agrees_85 : decode Y_Sights_agrees.2.1 85 = .ok (.aload_n 0, 1) := by decide +kernel
theorem d_Sights_agrees_86 : decode Y_Sights_agrees.2.1 86 = .ok (.getfield 18, 3) := by decide +kernel
theorem d_Sights_agrees_89 : decode Y_Sights_agrees.2.1 89 = .ok (.iload_n 3, 1) := by decide +kernel
theorem d_Sights_agrees_90 : decode Y_Sights_agrees.2.1 90 = .ok (.baload, 1) := by decide +kernel
theorem d_Sights_agrees_91 : decode Y_Sights_agrees.2.1 91 = .ok (.if_icmp .eq 5, 3) := by decide +kernel
theorem d_Sights_agrees_94 : decode Y_Sights_agrees.2.1 94 = .ok (.iconst 0, 1) := by decide +kernel
theorem d_Sights_agrees_95 : decode Y_Sights_agrees.2.1 95 = .ok (.ireturn, 1) := by decide +kernel
theorem d_Sights_agrees_96 : decode Y_Sights_agrees.2.1 96 = .ok (.iinc 3 1, 3) := by decide +kernel
theorem d_Sights_agrees_99 : decode Y_Sights_agrees.2.1 99 = .ok (.goto (-97), 3) := by decide +kernel
theorem d_Sights_agrees_102 : decode Y_Sights_agrees.2.1 102 = .ok (.iconst 1, 1) := by decide +kernel
theorem d_Sights_agrees_103 : decode Y_Sights_agrees.2.1 103 = .ok (.ireturn, 1) := by decide +kernel
theorem e_Sights_agrees {l : Launch} {G : GT} {d : Nat} {P : Int → MM → Prop} {m : MM} (x1 : Int) (x2 : Int)  (H : wfM m → inR x1 → inR x2 → Wq l G false Y_Sights_agrees d (QI P) 2 [(0, .inr (.inr 55)), (1, .inl x1), (2, .inl x2), (3, .inl 0)] [] m) : CI l G Y_Sights_agrees d [.inr (.inr 55), .inl x1, .inl x2] m P := by
  refine CI.of [(0, .inr (.inr 55)), (1, .inl x1), (2, .inl x2)] k_Sights_agrees.1 (Nat.le_of_ble_eq_true rfl) rfl (Wp.wf (fun hw _ hl hs => ?_))
  have H0 := H hw (hl _ (List.mem_of_getElem? (i := 1) rfl)) (hl _ (List.mem_of_getElem? (i := 2) rfl))
  refine Wp.iconst d_Sights_agrees_0 (by decide) ?_
  refine Wp.istore_n 3 [(0, .inr (.inr 55)), (1, .inl x1), (2, .inl x2), (3, .inl 0)] d_Sights_agrees_1 rfl (by decide) rfl ?_
  exact H0
theorem s_Sights_agrees_2 {l : Launch} {G : GT} {d : Nat} {P : Int → MM → Prop} {m : MM} (x1 : Int) (x2 : Int) (x3 : Int)  (H : wfM m → inR x1 → inR x2 → inR x3 → (x3 ≥ (m 55 10) → (P 1 m)) ∧ (¬ (x3 ≥ (m 55 10)) → ((0 ≤ x3 ∧ x3 < (30 : Int)) ∧ (((m 59 x3) > x2 → (Wq l G false Y_Sights_agrees d (QI P) 45 [(0, .inr (.inr 55)), (1, .inl x1), (2, .inl x2), (3, .inl x3)] [.inl 0] m)) ∧ (¬ ((m 59 x3) > x2) → ((0 ≤ x3 ∧ x3 < (30 : Int)) ∧ (((m 60 x3) = (-1) → (Wq l G false Y_Sights_agrees d (QI P) 45 [(0, .inr (.inr 55)), (1, .inl x1), (2, .inl x2), (3, .inl x3)] [.inl 1] m)) ∧ (¬ ((m 60 x3) = (-1)) → ((0 ≤ x3 ∧ x3 < (30 : Int)) ∧ (((m 60 x3) ≤ x2 → (Wq l G false Y_Sights_agrees d (QI P) 45 [(0, .inr (.inr 55)), (1, .inl x1), (2, .inl x2), (3, .inl x3)] [.inl 0] m)) ∧ (¬ ((m 60 x3) ≤ x2) → (Wq l G false Y_Sights_agrees d (QI P) 45 [(0, .inr (.inr 55)), (1, .inl x1), (2, .inl x2), (3, .inl x3)] [.inl 1] m)))))))))))) : Wq l G false Y_Sights_agrees d (QI P) 2 [(0, .inr (.inr 55)), (1, .inl x1), (2, .inl x2), (3, .inl x3)] [] m := by
  refine Wp.wf (fun hw _ hl hs => ?_)
  have H0 := H hw (hl _ (List.mem_of_getElem? (i := 1) rfl)) (hl _ (List.mem_of_getElem? (i := 2) rfl)) (hl _ (List.mem_of_getElem? (i := 3) rfl))
  refine Wp.iload_n 3 3 d_Sights_agrees_2 rfl rfl ?_
  refine Wp.aload_n 0 0 d_Sights_agrees_3 rfl rfl ?_
  refine Wq.getI 10 rfl d_Sights_agrees_4 fl_Sights_44 rfl (Or.inl rfl) ?_
  obtain ⟨H2, H3⟩ := H0
  refine Wp.icmp_ge 102 d_Sights_agrees_7 (by decide) (fun c1 => ?_) (fun c1 => ?_)
  · have H4 := H2 c1
    refine Wp.iconst d_Sights_agrees_102 (by decide) ?_
    exact Wq.zret d_Sights_agrees_103 rfl (by decide) H4
  · have H5 := H3 c1
    refine Wp.aload_n 0 0 d_Sights_agrees_10 rfl rfl ?_
    refine Wp.getP 59 d_Sights_agrees_11 fl_Sights_22 rfl rfl rfl ?_
    refine Wp.iload_n 3 3 d_Sights_agrees_14 rfl rfl ?_
    obtain ⟨s6, H7⟩ := H5
    refine Wp.iald d_Sights_agrees_15 rfl (Or.inl rfl) s6.1 s6.2 ?_
    refine Wp.iload_n 2 2 d_Sights_agrees_16 rfl rfl ?_
    obtain ⟨H9, H10⟩ := H7
    refine Wp.icmp_gt 44 d_Sights_agrees_17 (by decide) (fun c8 => ?_) (fun c8 => ?_)
    · have H11 := H9 c8
      refine Wp.iconst d_Sights_agrees_44 (by decide) ?_
      exact H11
    · have H12 := H10 c8
      refine Wp.aload_n 0 0 d_Sights_agrees_20 rfl rfl ?_
      refine Wp.getP 60 d_Sights_agrees_21 fl_Sights_25 rfl rfl rfl ?_
      refine Wp.iload_n 3 3 d_Sights_agrees_24 rfl rfl ?_
      obtain ⟨s13, H14⟩ := H12
      refine Wp.iald d_Sights_agrees_25 rfl (Or.inl rfl) s13.1 s13.2 ?_
      refine Wp.iconst d_Sights_agrees_26 (by decide) ?_
      obtain ⟨H16, H17⟩ := H14
      refine Wp.icmp_eq 40 d_Sights_agrees_27 (by decide) (fun c15 => ?_) (fun c15 => ?_)
      · have H18 := H16 c15
        refine Wp.iconst d_Sights_agrees_40 (by decide) ?_
        refine Wp.goto 45 d_Sights_agrees_41 (by decide) ?_
        exact H18
      · have H19 := H17 c15
        refine Wp.aload_n 0 0 d_Sights_agrees_30 rfl rfl ?_
        refine Wp.getP 60 d_Sights_agrees_31 fl_Sights_25 rfl rfl rfl ?_
        refine Wp.iload_n 3 3 d_Sights_agrees_34 rfl rfl ?_
        obtain ⟨s20, H21⟩ := H19
        refine Wp.iald d_Sights_agrees_35 rfl (Or.inl rfl) s20.1 s20.2 ?_
        refine Wp.iload_n 2 2 d_Sights_agrees_36 rfl rfl ?_
        obtain ⟨H23, H24⟩ := H21
        refine Wp.icmp_le 44 d_Sights_agrees_37 (by decide) (fun c22 => ?_) (fun c22 => ?_)
        · have H25 := H23 c22
          refine Wp.iconst d_Sights_agrees_44 (by decide) ?_
          exact H25
        · have H26 := H24 c22
          refine Wp.iconst d_Sights_agrees_40 (by decide) ?_
          refine Wp.goto 45 d_Sights_agrees_41 (by decide) ?_
          exact H26
theorem s_Sights_agrees_45 {l : Launch} {G : GT} {d : Nat} {P : Int → MM → Prop} {m : MM} (x1 : Int) (x2 : Int) (x3 : Int) (y0 : Int)  (H : wfM m → inR x1 → inR x2 → inR x3 → inR y0 → (inR (x1 * 5)) ∧ ((0 ≤ x3 ∧ x3 < (30 : Int)) ∧ ((inR ((x1 * 5) + (m 56 x3))) ∧ ((0 ≤ ((x1 * 5) + (m 56 x3)) ∧ ((x1 * 5) + (m 56 x3)) < (155 : Int)) ∧ ((0 ≤ x3 ∧ x3 < (30 : Int)) ∧ (((m 61 ((x1 * 5) + (m 56 x3))) < (m 57 x3) → ((y0 = 0 → ((inR (x3 + 1)) ∧ (Wq l G false Y_Sights_agrees d (QI P) 2 [(0, .inr (.inr 55)), (1, .inl x1), (2, .inl x2), (3, .inl (x3 + 1))] [] m))) ∧ (¬ (y0 = 0) → ((0 ≤ x3 ∧ x3 < (30 : Int)) ∧ ((0 = (m 58 x3) → ((inR (x3 + 1)) ∧ (Wq l G false Y_Sights_agrees d (QI P) 2 [(0, .inr (.inr 55)), (1, .inl x1), (2, .inl x2), (3, .inl (x3 + 1))] [] m))) ∧ (¬ (0 = (m 58 x3)) → (P 0 m))))))) ∧ (¬ ((m 61 ((x1 * 5) + (m 56 x3))) < (m 57 x3)) → ((y0 = 0 → ((inR (x3 + 1)) ∧ (Wq l G false Y_Sights_agrees d (QI P) 2 [(0, .inr (.inr 55)), (1, .inl x1), (2, .inl x2), (3, .inl (x3 + 1))] [] m))) ∧ (¬ (y0 = 0) → ((0 ≤ x3 ∧ x3 < (30 : Int)) ∧ ((1 = (m 58 x3) → ((inR (x3 + 1)) ∧ (Wq l G false Y_Sights_agrees d (QI P) 2 [(0, .inr (.inr 55)), (1, .inl x1), (2, .inl x2), (3, .inl (x3 + 1))] [] m))) ∧ (¬ (1 = (m 58 x3)) → (P 0 m))))))))))))) : Wq l G false Y_Sights_agrees d (QI P) 45 [(0, .inr (.inr 55)), (1, .inl x1), (2, .inl x2), (3, .inl x3)] [.inl y0] m := by
  refine Wp.wf (fun hw _ hl hs => ?_)
  have H0 := H hw (hl _ (List.mem_of_getElem? (i := 1) rfl)) (hl _ (List.mem_of_getElem? (i := 2) rfl)) (hl _ (List.mem_of_getElem? (i := 3) rfl)) (hs _ (List.mem_of_getElem? (i := 0) rfl))
  refine Wp.istore 4 [(0, .inr (.inr 55)), (1, .inl x1), (2, .inl x2), (3, .inl x3), (4, .inl y0)] d_Sights_agrees_45 (by decide) rfl ?_
  refine Wp.aload_n 0 0 d_Sights_agrees_47 rfl rfl ?_
  refine Wp.getP 61 d_Sights_agrees_48 fl_Sights_28 rfl rfl rfl ?_
  refine Wp.iload_n 1 1 d_Sights_agrees_51 rfl rfl ?_
  refine Wp.iconst d_Sights_agrees_52 (by decide) ?_
  obtain ⟨s1, H2⟩ := H0
  refine Wp.imul d_Sights_agrees_53 s1 ?_
  refine Wp.aload_n 0 0 d_Sights_agrees_54 rfl rfl ?_
  refine Wp.getP 56 d_Sights_agrees_55 fl_Sights_11 rfl rfl rfl ?_
  refine Wp.iload_n 3 3 d_Sights_agrees_58 rfl rfl ?_
  obtain ⟨s3, H4⟩ := H2
  refine Wp.iald d_Sights_agrees_59 rfl (Or.inl rfl) s3.1 s3.2 ?_
  obtain ⟨s5, H6⟩ := H4
  refine Wp.iadd d_Sights_agrees_60 s5 ?_
  obtain ⟨s7, H8⟩ := H6
  refine Wp.iald d_Sights_agrees_61 rfl (Or.inl rfl) s7.1 s7.2 ?_
  refine Wp.aload_n 0 0 d_Sights_agrees_62 rfl rfl ?_
  refine Wp.getP 57 d_Sights_agrees_63 fl_Sights_15 rfl rfl rfl ?_
  refine Wp.iload_n 3 3 d_Sights_agrees_66 rfl rfl ?_
  obtain ⟨s9, H10⟩ := H8
  refine Wp.iald d_Sights_agrees_67 rfl (Or.inl rfl) s9.1 s9.2 ?_
  obtain ⟨H12, H13⟩ := H10
  refine Wp.icmp_lt 75 d_Sights_agrees_68 (by decide) (fun c11 => ?_) (fun c11 => ?_)
  · have H14 := H12 c11
    refine Wp.iconst d_Sights_agrees_75 (by decide) ?_
    refine Wp.istore 5 [(0, .inr (.inr 55)), (1, .inl x1), (2, .inl x2), (3, .inl x3), (4, .inl y0), (5, .inl 0)] d_Sights_agrees_76 (by decide) rfl ?_
    refine Wp.iload 4 4 d_Sights_agrees_78 rfl ?_
    obtain ⟨H17, H18⟩ := H14
    refine Wp.if_eq 96 d_Sights_agrees_80 (by decide) (fun c16 => ?_) (fun c16 => ?_)
    · have H19 := H17 c16
      obtain ⟨s21, H22⟩ := H19
      refine Wp.iinc 3 3 [(0, .inr (.inr 55)), (1, .inl x1), (2, .inl x2), (3, .inl (x3 + 1)), (4, .inl y0), (5, .inl 0)] d_Sights_agrees_96 rfl s21 (by decide) rfl ?_
      refine Wp.goto 2 d_Sights_agrees_99 (by decide) ?_
      refine Wp.pick [0, 1, 2, 3] [(0, .inr (.inr 55)), (1, .inl x1), (2, .inl x2), (3, .inl (x3 + 1))] rfl ?_
      exact H22
    · have H20 := H18 c16
      refine Wp.iload 5 5 d_Sights_agrees_83 rfl ?_
      refine Wp.aload_n 0 0 d_Sights_agrees_85 rfl rfl ?_
      refine Wp.getP 58 d_Sights_agrees_86 fl_Sights_18 rfl rfl rfl ?_
      refine Wp.iload_n 3 3 d_Sights_agrees_89 rfl rfl ?_
      obtain ⟨s23, H24⟩ := H20
      refine Wp.zald d_Sights_agrees_90 rfl (Or.inl rfl) s23.1 s23.2 ?_
      obtain ⟨H26, H27⟩ := H24
      refine Wp.icmp_eq 96 d_Sights_agrees_91 (by decide) (fun c25 => ?_) (fun c25 => ?_)
      · have H28 := H26 c25
        obtain ⟨s30, H31⟩ := H28
        refine Wp.iinc 3 3 [(0, .inr (.inr 55)), (1, .inl x1), (2, .inl x2), (3, .inl (x3 + 1)), (4, .inl y0), (5, .inl 0)] d_Sights_agrees_96 rfl s30 (by decide) rfl ?_
        refine Wp.goto 2 d_Sights_agrees_99 (by decide) ?_
        refine Wp.pick [0, 1, 2, 3] [(0, .inr (.inr 55)), (1, .inl x1), (2, .inl x2), (3, .inl (x3 + 1))] rfl ?_
        exact H31
      · have H29 := H27 c25
        refine Wp.iconst d_Sights_agrees_94 (by decide) ?_
        exact Wq.zret d_Sights_agrees_95 rfl (by decide) H29
  · have H15 := H13 c11
    refine Wp.iconst d_Sights_agrees_71 (by decide) ?_
    refine Wp.goto 76 d_Sights_agrees_72 (by decide) ?_
    refine Wp.istore 5 [(0, .inr (.inr 55)), (1, .inl x1), (2, .inl x2), (3, .inl x3), (4, .inl y0), (5, .inl 1)] d_Sights_agrees_76 (by decide) rfl ?_
    refine Wp.iload 4 4 d_Sights_agrees_78 rfl ?_
    obtain ⟨H33, H34⟩ := H15
    refine Wp.if_eq 96 d_Sights_agrees_80 (by decide) (fun c32 => ?_) (fun c32 => ?_)
    · have H35 := H33 c32
      obtain ⟨s37, H38⟩ := H35
      refine Wp.iinc 3 3 [(0, .inr (.inr 55)), (1, .inl x1), (2, .inl x2), (3, .inl (x3 + 1)), (4, .inl y0), (5, .inl 1)] d_Sights_agrees_96 rfl s37 (by decide) rfl ?_
      refine Wp.goto 2 d_Sights_agrees_99 (by decide) ?_
      refine Wp.pick [0, 1, 2, 3] [(0, .inr (.inr 55)), (1, .inl x1), (2, .inl x2), (3, .inl (x3 + 1))] rfl ?_
      exact H38
    · have H36 := H34 c32
      refine Wp.iload 5 5 d_Sights_agrees_83 rfl ?_
      refine Wp.aload_n 0 0 d_Sights_agrees_85 rfl rfl ?_
      refine Wp.getP 58 d_Sights_agrees_86 fl_Sights_18 rfl rfl rfl ?_
      refine Wp.iload_n 3 3 d_Sights_agrees_89 rfl rfl ?_
      obtain ⟨s39, H40⟩ := H36
      refine Wp.zald d_Sights_agrees_90 rfl (Or.inl rfl) s39.1 s39.2 ?_
      obtain ⟨H42, H43⟩ := H40
      refine Wp.icmp_eq 96 d_Sights_agrees_91 (by decide) (fun c41 => ?_) (fun c41 => ?_)
      · have H44 := H42 c41
        obtain ⟨s46, H47⟩ := H44
        refine Wp.iinc 3 3 [(0, .inr (.inr 55)), (1, .inl x1), (2, .inl x2), (3, .inl (x3 + 1)), (4, .inl y0), (5, .inl 1)] d_Sights_agrees_96 rfl s46 (by decide) rfl ?_
        refine Wp.goto 2 d_Sights_agrees_99 (by decide) ?_
        refine Wp.pick [0, 1, 2, 3] [(0, .inr (.inr 55)), (1, .inl x1), (2, .inl x2), (3, .inl (x3 + 1))] rfl ?_
        exact H47
      · have H45 := H43 c41
        refine Wp.iconst d_Sights_agrees_94 (by decide) ?_
        exact Wq.zret d_Sights_agrees_95 rfl (by decide) H45
theorem d_Sights_leftAtMost_0 : decode Y_Sights_leftAtMost.2.1 0 = .ok (.aload_n 0, 1) := by decide +kernel
theorem d_Sights_leftAtMost_1 : decode Y_Sights_leftAtMost.2.1 1 = .ok (.getfield 34, 3) := by decide +kernel
theorem d_Sights_leftAtMost_4 : decode Y_Sights_leftAtMost.2.1 4 = .ok (.iconst 0, 1) := by decide +kernel
theorem d_Sights_leftAtMost_5 : decode Y_Sights_leftAtMost.2.1 5 = .ok (.invokestatic 92, 3) := by decide +kernel
theorem d_Sights_leftAtMost_8 : decode Y_Sights_leftAtMost.2.1 8 = .ok (.iconst 0, 1) := by decide +kernel
theorem d_Sights_leftAtMost_9 : decode Y_Sights_leftAtMost.2.1 9 = .ok (.istore_n 2, 1) := by decide +kernel
theorem d_Sights_leftAtMost_10 : decode Y_Sights_leftAtMost.2.1 10 = .ok (.iconst 0, 1) := by decide +kernel
theorem d_Sights_leftAtMost_11 : decode Y_Sights_leftAtMost.2.1 11 = .ok (.istore_n 3, 1) := by decide +kernel
theorem d_Sights_leftAtMost_12 : decode Y_Sights_leftAtMost.2.1 12 = .ok (.iload_n 3, 1) := by decide +kernel
theorem d_Sights_leftAtMost_13 : decode Y_Sights_leftAtMost.2.1 13 = .ok (.bipush 31, 2) := by decide +kernel
theorem d_Sights_leftAtMost_15 : decode Y_Sights_leftAtMost.2.1 15 = .ok (.if_icmp .ge 65, 3) := by decide +kernel
theorem d_Sights_leftAtMost_18 : decode Y_Sights_leftAtMost.2.1 18 = .ok (.aload_n 0, 1) := by decide +kernel
theorem d_Sights_leftAtMost_19 : decode Y_Sights_leftAtMost.2.1 19 = .ok (.getfield 28, 3) := by decide +kernel
theorem d_Sights_leftAtMost_22 : decode Y_Sights_leftAtMost.2.1 22 = .ok (.iload_n 3, 1) := by decide +kernel
theorem d_Sights_leftAtMost_23 : decode Y_Sights_leftAtMost.2.1 23 = .ok (.iconst 5, 1) := by decide +kernel
theorem d_Sights_leftAtMost_24 : decode Y_Sights_leftAtMost.2.1 24 = .ok (.imul, 1) := by decide +kernel
theorem d_Sights_leftAtMost_25 : decode Y_Sights_leftAtMost.2.1 25 = .ok (.iload_n 1, 1) := by decide +kernel
theorem d_Sights_leftAtMost_26 : decode Y_Sights_leftAtMost.2.1 26 = .ok (.iadd, 1) := by decide +kernel
theorem d_Sights_leftAtMost_27 : decode Y_Sights_leftAtMost.2.1 27 = .ok (.iaload, 1) := by decide +kernel
theorem d_Sights_leftAtMost_28 : decode Y_Sights_leftAtMost.2.1 28 = .ok (.istore 4, 2) := by decide +kernel
theorem d_Sights_leftAtMost_30 : decode Y_Sights_leftAtMost.2.1 30 = .ok (.aload_n 0, 1) := by decide +kernel
theorem d_Sights_leftAtMost_31 : decode Y_Sights_leftAtMost.2.1 31 = .ok (.getfield 31, 3) := by decide +kernel
theorem d_Sights_leftAtMost_34 : decode Y_Sights_leftAtMost.2.1 34 = .ok (.iload_n 3, 1) := by decide +kernel
theorem d_Sights_leftAtMost_35 : decode Y_Sights_leftAtMost.2.1 35 = .ok (.baload, 1) := by decide +kernel
theorem d_Sights_leftAtMost_36 : decode Y_Sights_leftAtMost.2.1 36 = .ok (.ifCond .eq 38, 3) := by decide +kernel
theorem d_Sights_leftAtMost_39 : decode Y_Sights_leftAtMost.2.1 39 = .ok (.iload 4, 2) := by decide +kernel
theorem d_Sights_leftAtMost_41 : decode Y_Sights_leftAtMost.2.1 41 = .ok (.ifCond .lt 33, 3) := by decide +kernel
theorem d_Sights_leftAtMost_44 : decode Y_Sights_leftAtMost.2.1 44 = .ok (.iload 4, 2) := by decide +kernel
theorem d_Sights_leftAtMost_46 : decode Y_Sights_leftAtMost.2.1 46 = .ok (.bipush 10, 2) := by decide +kernel
theorem d_Sights_leftAtMost_48 : decode Y_Sights_leftAtMost.2.1 48 = .ok (.if_icmp .ge 26, 3) := by decide +kernel
theorem d_Sights_leftAtMost_51 : decode Y_Sights_leftAtMost.2.1 51 = .ok (.aload_n 0, 1) := by decide +kernel
theorem d_Sights_leftAtMost_52 : decode Y_Sights_leftAtMost.2.1 52 = .ok (.getfield 34, 3) := by decide +kernel
theorem d_Sights_leftAtMost_55 : decode Y_Sights_leftAtMost.2.1 55 = .ok (.iload 4, 2) := by decide +kernel
theorem d_Sights_leftAtMost_57 : decode Y_Sights_leftAtMost.2.1 57 = .ok (.dup2, 1) := by decide +kernel
theorem d_Sights_leftAtMost_58 : decode Y_Sights_leftAtMost.2.1 58 = .ok (.iaload, 1) := by decide +kernel
theorem d_Sights_leftAtMost_59 : decode Y_Sights_leftAtMost.2.1 59 = .ok (.iconst 1, 1) := by decide +kernel
theorem d_Sights_leftAtMost_60 : decode Y_Sights_leftAtMost.2.1 60 = .ok (.iadd, 1) := by decide +kernel
theorem d_Sights_leftAtMost_61 : decode Y_Sights_leftAtMost.2.1 61 = .ok (.iastore, 1) := by decide +kernel
theorem d_Sights_leftAtMost_62 : decode Y_Sights_leftAtMost.2.1 62 = .ok (.iload_n 2, 1) := by decide +kernel
theorem d_Sights_leftAtMost_63 : decode Y_Sights_leftAtMost.2.1 63 = .ok (.aload_n 0, 1) := by decide +kernel
theorem d_Sights_leftAtMost_64 : decode Y_Sights_leftAtMost.2.1 64 = .ok (.getfield 34, 3) := by decide +kernel
theorem d_Sights_leftAtMost_67 : decode Y_Sights_leftAtMost.2.1 67 = .ok (.iload 4, 2) := by decide +kernel
theorem d_Sights_leftAtMost_69 : decode Y_Sights_leftAtMost.2.1 69 = .ok (.iaload, 1) := by decide +kernel
theorem d_Sights_leftAtMost_70 : decode Y_Sights_leftAtMost.2.1 70 = .ok (.invokestatic 98, 3) := by decide +kernel
theorem d_Sights_leftAtMost_73 : decode Y_Sights_leftAtMost.2.1 73 = .ok (.istore_n 2, 1) := by decide +kernel
theorem d_Sights_leftAtMost_74 : decode Y_Sights_leftAtMost.2.1 74 = .ok (.iinc 3 1, 3) := by decide +kernel
theorem d_Sights_leftAtMost_77 : decode Y_Sights_leftAtMost.2.1 77 = .ok (.goto (-65), 3) := by decide +kernel
theorem d_Sights_leftAtMost_80 : decode Y_Sights_leftAtMost.2.1 80 = .ok (.iload_n 2, 1) := by decide +kernel
theorem d_Sights_leftAtMost_81 : decode Y_Sights_leftAtMost.2.1 81 = .ok (.ireturn, 1) := by decide +kernel
theorem e_Sights_leftAtMost {l : Launch} {G : GT} {d : Nat} {P : Int → MM → Prop} {m : MM} (x1 : Int)  (H : wfM m → inR x1 → ∃ (e1 : Nat) (P2 : MM → Prop), e1 < d ∧ CV l G Y_Arrays_fill e1 [.inr (.inr 63), .inl 0] m P2 ∧ (∀ m8, P2 m8 → wfM m8 → (Wq l G false Y_Sights_leftAtMost d (QI P) 12 [(0, .inr (.inr 55)), (1, .inl x1), (2, .inl 0), (3, .inl 0)] [] m8))) : CI l G Y_Sights_leftAtMost d [.inr (.inr 55), .inl x1] m P := by
  refine CI.of [(0, .inr (.inr 55)), (1, .inl x1)] k_Sights_leftAtMost.1 (Nat.le_of_ble_eq_true rfl) rfl (Wp.wf (fun hw _ hl hs => ?_))
  have H0 := H hw (hl _ (List.mem_of_getElem? (i := 1) rfl))
  refine Wp.aload_n 0 0 d_Sights_leftAtMost_0 rfl rfl ?_
  refine Wp.getP 63 d_Sights_leftAtMost_1 fl_Sights_34 rfl rfl rfl ?_
  refine Wp.iconst d_Sights_leftAtMost_4 (by decide) ?_
  obtain ⟨e1, P2, hd3, ho4, H5⟩ := H0
  refine Wq.SV (st := []) [.inr (.inr 63), .inl 0] d_Sights_leftAtMost_5 k_Arrays_fill ml_Sights_92 rfl  (fun h => by cases h) (Nat.le_of_ble_eq_true rfl) hd3 ho4 (fun m8 hp9 hw11 => ?_)
  have H6 := H5 m8 hp9 hw11
  refine Wp.iconst d_Sights_leftAtMost_8 (by decide) ?_
  refine Wp.istore_n 2 [(0, .inr (.inr 55)), (1, .inl x1), (2, .inl 0)] d_Sights_leftAtMost_9 rfl (by decide) rfl ?_
  refine Wp.iconst d_Sights_leftAtMost_10 (by decide) ?_
  refine Wp.istore_n 3 [(0, .inr (.inr 55)), (1, .inl x1), (2, .inl 0), (3, .inl 0)] d_Sights_leftAtMost_11 rfl (by decide) rfl ?_
  exact H6
theorem s_Sights_leftAtMost_12 {l : Launch} {G : GT} {d : Nat} {P : Int → MM → Prop} {m : MM} (x1 : Int) (x2 : Int) (x3 : Int)  (hd1 : 1 ≤ d) (H : wfM m → inR x1 → inR x2 → inR x3 → (x3 ≥ 31 → (P x2 m)) ∧ (¬ (x3 ≥ 31) → ((inR (x3 * 5)) ∧ ((inR ((x3 * 5) + x1)) ∧ ((0 ≤ ((x3 * 5) + x1) ∧ ((x3 * 5) + x1) < (155 : Int)) ∧ ((0 ≤ x3 ∧ x3 < (31 : Int)) ∧ (((m 62 x3) = 0 → ((inR (x3 + 1)) ∧ (Wq l G false Y_Sights_leftAtMost d (QI P) 12 [(0, .inr (.inr 55)), (1, .inl x1), (2, .inl x2), (3, .inl (x3 + 1))] [] m))) ∧ (¬ ((m 62 x3) = 0) → (((m 61 ((x3 * 5) + x1)) < 0 → ((inR (x3 + 1)) ∧ (Wq l G false Y_Sights_leftAtMost d (QI P) 12 [(0, .inr (.inr 55)), (1, .inl x1), (2, .inl x2), (3, .inl (x3 + 1))] [] m))) ∧ (¬ ((m 61 ((x3 * 5) + x1)) < 0) → (((m 61 ((x3 * 5) + x1)) ≥ 10 → ((inR (x3 + 1)) ∧ (Wq l G false Y_Sights_leftAtMost d (QI P) 12 [(0, .inr (.inr 55)), (1, .inl x1), (2, .inl x2), (3, .inl (x3 + 1))] [] m))) ∧ (¬ ((m 61 ((x3 * 5) + x1)) ≥ 10) → ((0 ≤ (m 61 ((x3 * 5) + x1)) ∧ (m 61 ((x3 * 5) + x1)) < (10 : Int)) ∧ ((inR ((m 63 (m 61 ((x3 * 5) + x1))) + 1)) ∧ ((0 ≤ (m 61 ((x3 * 5) + x1)) ∧ (m 61 ((x3 * 5) + x1)) < (10 : Int)) ∧ (∀ m39, m39 = up m 63 (m 61 ((x3 * 5) + x1)) ((m 63 (m 61 ((x3 * 5) + x1))) + 1) → ((0 ≤ (m 61 ((x3 * 5) + x1)) ∧ (m 61 ((x3 * 5) + x1)) < (10 : Int)) ∧ ((inR (x3 + 1)) ∧ (Wq l G false Y_Sights_leftAtMost d (QI P) 12 [(0, .inr (.inr 55)), (1, .inl x1), (2, .inl (max x2 (m39 63 (m 61 ((x3 * 5) + x1))))), (3, .inl (x3 + 1))] [] m39))))))))))))))))))) : Wq l G false Y_Sights_leftAtMost d (QI P) 12 [(0, .inr (.inr 55)), (1, .inl x1), (2, .inl x2), (3, .inl x3)] [] m := by
  refine Wp.wf (fun hw _ hl hs => ?_)
  have H0 := H hw (hl _ (List.mem_of_getElem? (i := 1) rfl)) (hl _ (List.mem_of_getElem? (i := 2) rfl)) (hl _ (List.mem_of_getElem? (i := 3) rfl))
  refine Wp.iload_n 3 3 d_Sights_leftAtMost_12 rfl rfl ?_
  refine Wp.bipush d_Sights_leftAtMost_13 (by decide) (by decide) ?_
  obtain ⟨H2, H3⟩ := H0
  refine Wp.icmp_ge 80 d_Sights_leftAtMost_15 (by decide) (fun c1 => ?_) (fun c1 => ?_)
  · have H4 := H2 c1
    refine Wp.iload_n 2 2 d_Sights_leftAtMost_80 rfl rfl ?_
    exact Wq.iret d_Sights_leftAtMost_81 rfl H4
  · have H5 := H3 c1
    refine Wp.aload_n 0 0 d_Sights_leftAtMost_18 rfl rfl ?_
    refine Wp.getP 61 d_Sights_leftAtMost_19 fl_Sights_28 rfl rfl rfl ?_
    refine Wp.iload_n 3 3 d_Sights_leftAtMost_22 rfl rfl ?_
    refine Wp.iconst d_Sights_leftAtMost_23 (by decide) ?_
    obtain ⟨s6, H7⟩ := H5
    refine Wp.imul d_Sights_leftAtMost_24 s6 ?_
    refine Wp.iload_n 1 1 d_Sights_leftAtMost_25 rfl rfl ?_
    obtain ⟨s8, H9⟩ := H7
    refine Wp.iadd d_Sights_leftAtMost_26 s8 ?_
    obtain ⟨s10, H11⟩ := H9
    refine Wp.iald d_Sights_leftAtMost_27 rfl (Or.inl rfl) s10.1 s10.2 ?_
    refine Wp.istore 4 [(0, .inr (.inr 55)), (1, .inl x1), (2, .inl x2), (3, .inl x3), (4, .inl (m 61 ((x3 * 5) + x1)))] d_Sights_leftAtMost_28 (by decide) rfl ?_
    refine Wp.aload_n 0 0 d_Sights_leftAtMost_30 rfl rfl ?_
    refine Wp.getP 62 d_Sights_leftAtMost_31 fl_Sights_31 rfl rfl rfl ?_
    refine Wp.iload_n 3 3 d_Sights_leftAtMost_34 rfl rfl ?_
    obtain ⟨s12, H13⟩ := H11
    refine Wp.zald d_Sights_leftAtMost_35 rfl (Or.inl rfl) s12.1 s12.2 ?_
    obtain ⟨H15, H16⟩ := H13
    refine Wp.if_eq 74 d_Sights_leftAtMost_36 (by decide) (fun c14 => ?_) (fun c14 => ?_)
    · have H17 := H15 c14
      obtain ⟨s19, H20⟩ := H17
      refine Wp.iinc 3 3 [(0, .inr (.inr 55)), (1, .inl x1), (2, .inl x2), (3, .inl (x3 + 1)), (4, .inl (m 61 ((x3 * 5) + x1)))] d_Sights_leftAtMost_74 rfl s19 (by decide) rfl ?_
      refine Wp.goto 12 d_Sights_leftAtMost_77 (by decide) ?_
      refine Wp.pick [0, 1, 2, 3] [(0, .inr (.inr 55)), (1, .inl x1), (2, .inl x2), (3, .inl (x3 + 1))] rfl ?_
      exact H20
    · have H18 := H16 c14
      refine Wp.iload 4 4 d_Sights_leftAtMost_39 rfl ?_
      obtain ⟨H22, H23⟩ := H18
      refine Wp.if_lt 74 d_Sights_leftAtMost_41 (by decide) (fun c21 => ?_) (fun c21 => ?_)
      · have H24 := H22 c21
        obtain ⟨s26, H27⟩ := H24
        refine Wp.iinc 3 3 [(0, .inr (.inr 55)), (1, .inl x1), (2, .inl x2), (3, .inl (x3 + 1)), (4, .inl (m 61 ((x3 * 5) + x1)))] d_Sights_leftAtMost_74 rfl s26 (by decide) rfl ?_
        refine Wp.goto 12 d_Sights_leftAtMost_77 (by decide) ?_
        refine Wp.pick [0, 1, 2, 3] [(0, .inr (.inr 55)), (1, .inl x1), (2, .inl x2), (3, .inl (x3 + 1))] rfl ?_
        exact H27
      · have H25 := H23 c21
        refine Wp.iload 4 4 d_Sights_leftAtMost_44 rfl ?_
        refine Wp.bipush d_Sights_leftAtMost_46 (by decide) (by decide) ?_
        obtain ⟨H29, H30⟩ := H25
        refine Wp.icmp_ge 74 d_Sights_leftAtMost_48 (by decide) (fun c28 => ?_) (fun c28 => ?_)
        · have H31 := H29 c28
          obtain ⟨s33, H34⟩ := H31
          refine Wp.iinc 3 3 [(0, .inr (.inr 55)), (1, .inl x1), (2, .inl x2), (3, .inl (x3 + 1)), (4, .inl (m 61 ((x3 * 5) + x1)))] d_Sights_leftAtMost_74 rfl s33 (by decide) rfl ?_
          refine Wp.goto 12 d_Sights_leftAtMost_77 (by decide) ?_
          refine Wp.pick [0, 1, 2, 3] [(0, .inr (.inr 55)), (1, .inl x1), (2, .inl x2), (3, .inl (x3 + 1))] rfl ?_
          exact H34
        · have H32 := H30 c28
          refine Wp.aload_n 0 0 d_Sights_leftAtMost_51 rfl rfl ?_
          refine Wp.getP 63 d_Sights_leftAtMost_52 fl_Sights_34 rfl rfl rfl ?_
          refine Wp.iload 4 4 d_Sights_leftAtMost_55 rfl ?_
          refine Wp.dup2 d_Sights_leftAtMost_57 rfl rfl ?_
          obtain ⟨s35, H36⟩ := H32
          refine Wp.iald d_Sights_leftAtMost_58 rfl (Or.inl rfl) s35.1 s35.2 ?_
          refine Wp.iconst d_Sights_leftAtMost_59 (by decide) ?_
          obtain ⟨s37, H38⟩ := H36
          refine Wp.iadd d_Sights_leftAtMost_60 s37 ?_
          obtain ⟨s48, H49⟩ := H38
          refine Wq.iast d_Sights_leftAtMost_61 rfl s48.1 s48.2 (fun m39 hm40 => ?_)
          have H41 := H49 m39 hm40
          refine Wp.iload_n 2 2 d_Sights_leftAtMost_62 rfl rfl ?_
          refine Wp.aload_n 0 0 d_Sights_leftAtMost_63 rfl rfl ?_
          refine Wp.getP 63 d_Sights_leftAtMost_64 fl_Sights_34 rfl rfl rfl ?_
          refine Wp.iload 4 4 d_Sights_leftAtMost_67 rfl ?_
          obtain ⟨s44, H45⟩ := H41
          refine Wp.iald d_Sights_leftAtMost_69 rfl (Or.inl rfl) s44.1 s44.2 ?_
          refine Wp.mmax d_Sights_leftAtMost_70 ml_Sights_98 k_mmax hd1 (Nat.le_of_ble_eq_true rfl) ?_
          refine Wp.istore_n 2 [(0, .inr (.inr 55)), (1, .inl x1), (2, .inl (max x2 (m39 63 (m 61 ((x3 * 5) + x1))))), (3, .inl x3), (4, .inl (m 61 ((x3 * 5) + x1)))] d_Sights_leftAtMost_73 rfl (by decide) rfl ?_
          obtain ⟨s46, H47⟩ := H45
          refine Wp.iinc 3 3 [(0, .inr (.inr 55)), (1, .inl x1), (2, .inl (max x2 (m39 63 (m 61 ((x3 * 5) + x1))))), (3, .inl (x3 + 1)), (4, .inl (m 61 ((x3 * 5) + x1)))] d_Sights_leftAtMost_74 rfl s46 (by decide) rfl ?_
          refine Wp.goto 12 d_Sights_leftAtMost_77 (by decide) ?_
          refine Wp.pick [0, 1, 2, 3] [(0, .inr (.inr 55)), (1, .inl x1), (2, .inl (max x2 (m39 63 (m 61 ((x3 * 5) + x1))))), (3, .inl (x3 + 1))] rfl ?_
          exact H47
theorem d_Arrays_fill_0 : decode Y_Arrays_fill.2.1 0 = .ok (.iconst 0, 1) := by decide +kernel
theorem d_Arrays_fill_1 : decode Y_Arrays_fill.2.1 1 = .ok (.istore_n 2, 1) := by decide +kernel
theorem d_Arrays_fill_2 : decode Y_Arrays_fill.2.1 2 = .ok (.aload_n 0, 1) := by decide +kernel
theorem d_Arrays_fill_3 : decode Y_Arrays_fill.2.1 3 = .ok (.arraylength, 1) := by decide +kernel
theorem d_Arrays_fill_4 : decode Y_Arrays_fill.2.1 4 = .ok (.istore_n 3, 1) := by decide +kernel
theorem d_Arrays_fill_5 : decode Y_Arrays_fill.2.1 5 = .ok (.iload_n 2, 1) := by decide +kernel
theorem d_Arrays_fill_6 : decode Y_Arrays_fill.2.1 6 = .ok (.iload_n 3, 1) := by decide +kernel
theorem d_Arrays_fill_7 : decode Y_Arrays_fill.2.1 7 = .ok (.if_icmp .ge 13, 3) := by decide +kernel
theorem d_Arrays_fill_10 : decode Y_Arrays_fill.2.1 10 = .ok (.aload_n 0, 1) := by decide +kernel
theorem d_Arrays_fill_11 : decode Y_Arrays_fill.2.1 11 = .ok (.iload_n 2, 1) := by decide +kernel
theorem d_Arrays_fill_12 : decode Y_Arrays_fill.2.1 12 = .ok (.iload_n 1, 1) := by decide +kernel
theorem d_Arrays_fill_13 : decode Y_Arrays_fill.2.1 13 = .ok (.iastore, 1) := by decide +kernel
theorem d_Arrays_fill_14 : decode Y_Arrays_fill.2.1 14 = .ok (.iinc 2 1, 3) := by decide +kernel
theorem d_Arrays_fill_17 : decode Y_Arrays_fill.2.1 17 = .ok (.goto (-12), 3) := by decide +kernel
theorem d_Arrays_fill_20 : decode Y_Arrays_fill.2.1 20 = .ok (.return_, 1) := by decide +kernel
theorem e_Arrays_fill {l : Launch} {G : GT} {d : Nat} {P : MM → Prop} {m : MM} (x1 : Int) (h0 : Nat) (n0 : Nat) (hl0 : q_lay h0 = .inr (0, n0)) (hlt_h0 : n0 < 2147483648) (H : wfM m → inR x1 → (0 < n0 ∧ n0 < 2147483648) ∧ (Wq l G false Y_Arrays_fill d (QV P) 5 [(0, .inr (.inr h0)), (1, .inl x1), (2, .inl 0), (3, .inl (n0 : Int))] [] m)) : CV l G Y_Arrays_fill d [.inr (.inr h0), .inl x1] m P := by
  refine CV.of [(0, .inr (.inr h0)), (1, .inl x1)] k_Arrays_fill.1 (Nat.le_of_ble_eq_true rfl) rfl (Wp.wf (fun hw _ hl hs => ?_))
  have H0 := H hw (hl _ (List.mem_of_getElem? (i := 1) rfl))
  refine Wp.iconst d_Arrays_fill_0 (by decide) ?_
  refine Wp.istore_n 2 [(0, .inr (.inr h0)), (1, .inl x1), (2, .inl 0)] d_Arrays_fill_1 rfl (by decide) rfl ?_
  refine Wp.aload_n 0 0 d_Arrays_fill_2 rfl rfl ?_
  obtain ⟨s1, H2⟩ := H0
  refine Wp.alen d_Arrays_fill_3 hl0 (by decide) s1.1 s1.2 (Or.inl rfl) ?_
  refine Wp.istore_n 3 [(0, .inr (.inr h0)), (1, .inl x1), (2, .inl 0), (3, .inl (n0 : Int))] d_Arrays_fill_4 rfl (by decide) rfl ?_
  exact H2
theorem s_Arrays_fill_5 {l : Launch} {G : GT} {d : Nat} {P : MM → Prop} {m : MM} (x1 : Int) (x2 : Int) (x3 : Int) (h0 : Nat) (n0 : Nat) (hl0 : q_lay h0 = .inr (0, n0)) (hlt_h0 : n0 < 2147483648) (H : wfM m → inR x1 → inR x2 → inR x3 → (x2 ≥ x3 → (P m)) ∧ (¬ (x2 ≥ x3) → ((0 ≤ x2 ∧ x2 < (n0 : Int)) ∧ (∀ m6, m6 = up m h0 x2 x1 → ((inR (x2 + 1)) ∧ (Wq l G false Y_Arrays_fill d (QV P) 5 [(0, .inr (.inr h0)), (1, .inl x1), (2, .inl (x2 + 1)), (3, .inl x3)] [] m6)))))) : Wq l G false Y_Arrays_fill d (QV P) 5 [(0, .inr (.inr h0)), (1, .inl x1), (2, .inl x2), (3, .inl x3)] [] m := by
  refine Wp.wf (fun hw _ hl hs => ?_)
  have H0 := H hw (hl _ (List.mem_of_getElem? (i := 1) rfl)) (hl _ (List.mem_of_getElem? (i := 2) rfl)) (hl _ (List.mem_of_getElem? (i := 3) rfl))
  refine Wp.iload_n 2 2 d_Arrays_fill_5 rfl rfl ?_
  refine Wp.iload_n 3 3 d_Arrays_fill_6 rfl rfl ?_
  obtain ⟨H2, H3⟩ := H0
  refine Wp.icmp_ge 20 d_Arrays_fill_7 (by decide) (fun c1 => ?_) (fun c1 => ?_)
  · have H4 := H2 c1
    exact Wq.vret d_Arrays_fill_20 rfl H4
  · have H5 := H3 c1
    refine Wp.aload_n 0 0 d_Arrays_fill_10 rfl rfl ?_
    refine Wp.iload_n 2 2 d_Arrays_fill_11 rfl rfl ?_
    refine Wp.iload_n 1 1 d_Arrays_fill_12 rfl rfl ?_
    obtain ⟨s13, H14⟩ := H5
    refine Wq.iast d_Arrays_fill_13 hl0 s13.1 s13.2 (fun m6 hm7 => ?_)
    have H8 := H14 m6 hm7
    obtain ⟨s11, H12⟩ := H8
    refine Wp.iinc 2 2 [(0, .inr (.inr h0)), (1, .inl x1), (2, .inl (x2 + 1)), (3, .inl x3)] d_Arrays_fill_14 rfl s11 (by decide) rfl ?_
    refine Wp.goto 5 d_Arrays_fill_17 (by decide) ?_
    exact H12
theorem d_Integer_bitCount_0 : decode Y_Integer_bitCount.2.1 0 = .ok (.iload_n 0, 1) := by decide +kernel
theorem d_Integer_bitCount_1 : decode Y_Integer_bitCount.2.1 1 = .ok (.iload_n 0, 1) := by decide +kernel
theorem d_Integer_bitCount_2 : decode Y_Integer_bitCount.2.1 2 = .ok (.iconst 1, 1) := by decide +kernel
theorem d_Integer_bitCount_3 : decode Y_Integer_bitCount.2.1 3 = .ok (.iushr, 1) := by decide +kernel
theorem d_Integer_bitCount_4 : decode Y_Integer_bitCount.2.1 4 = .ok (.ldc_w 265, 3) := by decide +kernel
theorem d_Integer_bitCount_7 : decode Y_Integer_bitCount.2.1 7 = .ok (.iand, 1) := by decide +kernel
theorem d_Integer_bitCount_8 : decode Y_Integer_bitCount.2.1 8 = .ok (.isub, 1) := by decide +kernel
theorem d_Integer_bitCount_9 : decode Y_Integer_bitCount.2.1 9 = .ok (.istore_n 0, 1) := by decide +kernel
theorem d_Integer_bitCount_10 : decode Y_Integer_bitCount.2.1 10 = .ok (.iload_n 0, 1) := by decide +kernel
theorem d_Integer_bitCount_11 : decode Y_Integer_bitCount.2.1 11 = .ok (.ldc_w 266, 3) := by decide +kernel
theorem d_Integer_bitCount_14 : decode Y_Integer_bitCount.2.1 14 = .ok (.iand, 1) := by decide +kernel
theorem d_Integer_bitCount_15 : decode Y_Integer_bitCount.2.1 15 = .ok (.iload_n 0, 1) := by decide +kernel
theorem d_Integer_bitCount_16 : decode Y_Integer_bitCount.2.1 16 = .ok (.iconst 2, 1) := by decide +kernel
theorem d_Integer_bitCount_17 : decode Y_Integer_bitCount.2.1 17 = .ok (.iushr, 1) := by decide +kernel
theorem d_Integer_bitCount_18 : decode Y_Integer_bitCount.2.1 18 = .ok (.ldc_w 266, 3) := by decide +kernel
theorem d_Integer_bitCount_21 : decode Y_Integer_bitCount.2.1 21 = .ok (.iand, 1) := by decide +kernel
theorem d_Integer_bitCount_22 : decode Y_Integer_bitCount.2.1 22 = .ok (.iadd, 1) := by decide +kernel
theorem d_Integer_bitCount_23 : decode Y_Integer_bitCount.2.1 23 = .ok (.istore_n 0, 1) := by decide +kernel
theorem d_Integer_bitCount_24 : decode Y_Integer_bitCount.2.1 24 = .ok (.iload_n 0, 1) := by decide +kernel
theorem d_Integer_bitCount_25 : decode Y_Integer_bitCount.2.1 25 = .ok (.iload_n 0, 1) := by decide +kernel
theorem d_Integer_bitCount_26 : decode Y_Integer_bitCount.2.1 26 = .ok (.iconst 4, 1) := by decide +kernel
theorem d_Integer_bitCount_27 : decode Y_Integer_bitCount.2.1 27 = .ok (.iushr, 1) := by decide +kernel
theorem d_Integer_bitCount_28 : decode Y_Integer_bitCount.2.1 28 = .ok (.iadd, 1) := by decide +kernel
theorem d_Integer_bitCount_29 : decode Y_Integer_bitCount.2.1 29 = .ok (.ldc_w 267, 3) := by decide +kernel
theorem d_Integer_bitCount_32 : decode Y_Integer_bitCount.2.1 32 = .ok (.iand, 1) := by decide +kernel
theorem d_Integer_bitCount_33 : decode Y_Integer_bitCount.2.1 33 = .ok (.istore_n 0, 1) := by decide +kernel
theorem d_Integer_bitCount_34 : decode Y_Integer_bitCount.2.1 34 = .ok (.iload_n 0, 1) := by decide +kernel
theorem d_Integer_bitCount_35 : decode Y_Integer_bitCount.2.1 35 = .ok (.iload_n 0, 1) := by decide +kernel
theorem d_Integer_bitCount_36 : decode Y_Integer_bitCount.2.1 36 = .ok (.bipush 8, 2) := by decide +kernel
theorem d_Integer_bitCount_38 : decode Y_Integer_bitCount.2.1 38 = .ok (.iushr, 1) := by decide +kernel
theorem d_Integer_bitCount_39 : decode Y_Integer_bitCount.2.1 39 = .ok (.iadd, 1) := by decide +kernel
theorem d_Integer_bitCount_40 : decode Y_Integer_bitCount.2.1 40 = .ok (.istore_n 0, 1) := by decide +kernel
theorem d_Integer_bitCount_41 : decode Y_Integer_bitCount.2.1 41 = .ok (.iload_n 0, 1) := by decide +kernel
theorem d_Integer_bitCount_42 : decode Y_Integer_bitCount.2.1 42 = .ok (.iload_n 0, 1) := by decide +kernel
theorem d_Integer_bitCount_43 : decode Y_Integer_bitCount.2.1 43 = .ok (.bipush 16, 2) := by decide +kernel
theorem d_Integer_bitCount_45 : decode Y_Integer_bitCount.2.1 45 = .ok (.iushr, 1) := by decide +kernel
theorem d_Integer_bitCount_46 : decode Y_Integer_bitCount.2.1 46 = .ok (.iadd, 1) := by decide +kernel
theorem d_Integer_bitCount_47 : decode Y_Integer_bitCount.2.1 47 = .ok (.istore_n 0, 1) := by decide +kernel
theorem d_Integer_bitCount_48 : decode Y_Integer_bitCount.2.1 48 = .ok (.iload_n 0, 1) := by decide +kernel
theorem d_Integer_bitCount_49 : decode Y_Integer_bitCount.2.1 49 = .ok (.bipush 63, 2) := by decide +kernel
theorem d_Integer_bitCount_51 : decode Y_Integer_bitCount.2.1 51 = .ok (.iand, 1) := by decide +kernel
theorem d_Integer_bitCount_52 : decode Y_Integer_bitCount.2.1 52 = .ok (.ireturn, 1) := by decide +kernel
theorem e_Integer_bitCount {l : Launch} {G : GT} {d : Nat} {P : Int → MM → Prop} {m : MM} (x0 : Int)  (H : wfM m → inR x0 → (inR (x0 - (bAnd (bUshr x0 1) 1431655765))) ∧ ((inR ((bAnd (x0 - (bAnd (bUshr x0 1) 1431655765)) 858993459) + (bAnd (bUshr (x0 - (bAnd (bUshr x0 1) 1431655765)) 2) 858993459))) ∧ ((inR (((bAnd (x0 - (bAnd (bUshr x0 1) 1431655765)) 858993459) + (bAnd (bUshr (x0 - (bAnd (bUshr x0 1) 1431655765)) 2) 858993459)) + (bUshr ((bAnd (x0 - (bAnd (bUshr x0 1) 1431655765)) 858993459) + (bAnd (bUshr (x0 - (bAnd (bUshr x0 1) 1431655765)) 2) 858993459)) 4))) ∧ ((inR ((bAnd (((bAnd (x0 - (bAnd (bUshr x0 1) 1431655765)) 858993459) + (bAnd (bUshr (x0 - (bAnd (bUshr x0 1) 1431655765)) 2) 858993459)) + (bUshr ((bAnd (x0 - (bAnd (bUshr x0 1) 1431655765)) 858993459) + (bAnd (bUshr (x0 - (bAnd (bUshr x0 1) 1431655765)) 2) 858993459)) 4)) 252645135) + (bUshr (bAnd (((bAnd (x0 - (bAnd (bUshr x0 1) 1431655765)) 858993459) + (bAnd (bUshr (x0 - (bAnd (bUshr x0 1) 1431655765)) 2) 858993459)) + (bUshr ((bAnd (x0 - (bAnd (bUshr x0 1) 1431655765)) 858993459) + (bAnd (bUshr (x0 - (bAnd (bUshr x0 1) 1431655765)) 2) 858993459)) 4)) 252645135) 8))) ∧ ((inR (((bAnd (((bAnd (x0 - (bAnd (bUshr x0 1) 1431655765)) 858993459) + (bAnd (bUshr (x0 - (bAnd (bUshr x0 1) 1431655765)) 2) 858993459)) + (bUshr ((bAnd (x0 - (bAnd (bUshr x0 1) 1431655765)) 858993459) + (bAnd (bUshr (x0 - (bAnd (bUshr x0 1) 1431655765)) 2) 858993459)) 4)) 252645135) + (bUshr (bAnd (((bAnd (x0 - (bAnd (bUshr x0 1) 1431655765)) 858993459) + (bAnd (bUshr (x0 - (bAnd (bUshr x0 1) 1431655765)) 2) 858993459)) + (bUshr ((bAnd (x0 - (bAnd (bUshr x0 1) 1431655765)) 858993459) + (bAnd (bUshr (x0 - (bAnd (bUshr x0 1) 1431655765)) 2) 858993459)) 4)) 252645135) 8)) + (bUshr ((bAnd (((bAnd (x0 - (bAnd (bUshr x0 1) 1431655765)) 858993459) + (bAnd (bUshr (x0 - (bAnd (bUshr x0 1) 1431655765)) 2) 858993459)) + (bUshr ((bAnd (x0 - (bAnd (bUshr x0 1) 1431655765)) 858993459) + (bAnd (bUshr (x0 - (bAnd (bUshr x0 1) 1431655765)) 2) 858993459)) 4)) 252645135) + (bUshr (bAnd (((bAnd (x0 - (bAnd (bUshr x0 1) 1431655765)) 858993459) + (bAnd (bUshr (x0 - (bAnd (bUshr x0 1) 1431655765)) 2) 858993459)) + (bUshr ((bAnd (x0 - (bAnd (bUshr x0 1) 1431655765)) 858993459) + (bAnd (bUshr (x0 - (bAnd (bUshr x0 1) 1431655765)) 2) 858993459)) 4)) 252645135) 8)) 16))) ∧ (P (bAnd (((bAnd (((bAnd (x0 - (bAnd (bUshr x0 1) 1431655765)) 858993459) + (bAnd (bUshr (x0 - (bAnd (bUshr x0 1) 1431655765)) 2) 858993459)) + (bUshr ((bAnd (x0 - (bAnd (bUshr x0 1) 1431655765)) 858993459) + (bAnd (bUshr (x0 - (bAnd (bUshr x0 1) 1431655765)) 2) 858993459)) 4)) 252645135) + (bUshr (bAnd (((bAnd (x0 - (bAnd (bUshr x0 1) 1431655765)) 858993459) + (bAnd (bUshr (x0 - (bAnd (bUshr x0 1) 1431655765)) 2) 858993459)) + (bUshr ((bAnd (x0 - (bAnd (bUshr x0 1) 1431655765)) 858993459) + (bAnd (bUshr (x0 - (bAnd (bUshr x0 1) 1431655765)) 2) 858993459)) 4)) 252645135) 8)) + (bUshr ((bAnd (((bAnd (x0 - (bAnd (bUshr x0 1) 1431655765)) 858993459) + (bAnd (bUshr (x0 - (bAnd (bUshr x0 1) 1431655765)) 2) 858993459)) + (bUshr ((bAnd (x0 - (bAnd (bUshr x0 1) 1431655765)) 858993459) + (bAnd (bUshr (x0 - (bAnd (bUshr x0 1) 1431655765)) 2) 858993459)) 4)) 252645135) + (bUshr (bAnd (((bAnd (x0 - (bAnd (bUshr x0 1) 1431655765)) 858993459) + (bAnd (bUshr (x0 - (bAnd (bUshr x0 1) 1431655765)) 2) 858993459)) + (bUshr ((bAnd (x0 - (bAnd (bUshr x0 1) 1431655765)) 858993459) + (bAnd (bUshr (x0 - (bAnd (bUshr x0 1) 1431655765)) 2) 858993459)) 4)) 252645135) 8)) 16)) 63) m)))))) : CI l G Y_Integer_bitCount d [.inl x0] m P := by
  refine CI.of [(0, .inl x0)] k_Integer_bitCount.1 (Nat.le_of_ble_eq_true rfl) rfl (Wp.wf (fun hw _ hl hs => ?_))
  have H0 := H hw (hl _ (List.mem_of_getElem? (i := 0) rfl))
  refine Wp.iload_n 0 0 d_Integer_bitCount_0 rfl rfl ?_
  refine Wp.iload_n 0 0 d_Integer_bitCount_1 rfl rfl ?_
  refine Wp.iconst d_Integer_bitCount_2 (by decide) ?_
  refine Wp.iushr d_Integer_bitCount_3 ?_
  refine Wp.ldcw (z := 1431655765) d_Integer_bitCount_4 kc_Integer_265 (by decide) (by decide) ?_
  refine Wp.iand d_Integer_bitCount_7 ?_
  obtain ⟨s1, H2⟩ := H0
  refine Wp.isub d_Integer_bitCount_8 s1 ?_
  refine Wp.istore_n 0 [(0, .inl (x0 - (bAnd (bUshr x0 1) 1431655765)))] d_Integer_bitCount_9 rfl (by decide) rfl ?_
  refine Wp.iload_n 0 0 d_Integer_bitCount_10 rfl rfl ?_
  refine Wp.ldcw (z := 858993459) d_Integer_bitCount_11 kc_Integer_266 (by decide) (by decide) ?_
  refine Wp.iand d_Integer_bitCount_14 ?_
  refine Wp.iload_n 0 0 d_Integer_bitCount_15 rfl rfl ?_
  refine Wp.iconst d_Integer_bitCount_16 (by decide) ?_
  refine Wp.iushr d_Integer_bitCount_17 ?_
  refine Wp.ldcw (z := 858993459) d_Integer_bitCount_18 kc_Integer_266 (by decide) (by decide) ?_
  refine Wp.iand d_Integer_bitCount_21 ?_
  obtain ⟨s3, H4⟩ := H2
  refine Wp.iadd d_Integer_bitCount_22 s3 ?_
  refine Wp.istore_n 0 [(0, .inl ((bAnd (x0 - (bAnd (bUshr x0 1) 1431655765)) 858993459) + (bAnd (bUshr (x0 - (bAnd (bUshr x0 1) 1431655765)) 2) 858993459)))] d_Integer_bitCount_23 rfl (by decide) rfl ?_
  refine Wp.iload_n 0 0 d_Integer_bitCount_24 rfl rfl ?_
  refine Wp.iload_n 0 0 d_Integer_bitCount_25 rfl rfl ?_
  refine Wp.iconst d_Integer_bitCount_26 (by decide) ?_
  refine Wp.iushr d_Integer_bitCount_27 ?_
  obtain ⟨s5, H6⟩ := H4
  refine Wp.iadd d_Integer_bitCount_28 s5 ?_
  refine Wp.ldcw (z := 252645135) d_Integer_bitCount_29 kc_Integer_267 (by decide) (by decide) ?_
  refine Wp.iand d_Integer_bitCount_32 ?_
  refine Wp.istore_n 0 [(0, .inl (bAnd (((bAnd (x0 - (bAnd (bUshr x0 1) 1431655765)) 858993459) + (bAnd (bUshr (x0 - (bAnd (bUshr x0 1) 1431655765)) 2) 858993459)) + (bUshr ((bAnd (x0 - (bAnd (bUshr x0 1) 1431655765)) 858993459) + (bAnd (bUshr (x0 - (bAnd (bUshr x0 1) 1431655765)) 2) 858993459)) 4)) 252645135))] d_Integer_bitCount_33 rfl (by decide) rfl ?_
  refine Wp.iload_n 0 0 d_Integer_bitCount_34 rfl rfl ?_
  refine Wp.iload_n 0 0 d_Integer_bitCount_35 rfl rfl ?_
  refine Wp.bipush d_Integer_bitCount_36 (by decide) (by decide) ?_
  refine Wp.iushr d_Integer_bitCount_38 ?_
  obtain ⟨s7, H8⟩ := H6
  refine Wp.iadd d_Integer_bitCount_39 s7 ?_
  refine Wp.istore_n 0 [(0, .inl ((bAnd (((bAnd (x0 - (bAnd (bUshr x0 1) 1431655765)) 858993459) + (bAnd (bUshr (x0 - (bAnd (bUshr x0 1) 1431655765)) 2) 858993459)) + (bUshr ((bAnd (x0 - (bAnd (bUshr x0 1) 1431655765)) 858993459) + (bAnd (bUshr (x0 - (bAnd (bUshr x0 1) 1431655765)) 2) 858993459)) 4)) 252645135) + (bUshr (bAnd (((bAnd (x0 - (bAnd (bUshr x0 1) 1431655765)) 858993459) + (bAnd (bUshr (x0 - (bAnd (bUshr x0 1) 1431655765)) 2) 858993459)) + (bUshr ((bAnd (x0 - (bAnd (bUshr x0 1) 1431655765)) 858993459) + (bAnd (bUshr (x0 - (bAnd (bUshr x0 1) 1431655765)) 2) 858993459)) 4)) 252645135) 8)))] d_Integer_bitCount_40 rfl (by decide) rfl ?_
  refine Wp.iload_n 0 0 d_Integer_bitCount_41 rfl rfl ?_
  refine Wp.iload_n 0 0 d_Integer_bitCount_42 rfl rfl ?_
  refine Wp.bipush d_Integer_bitCount_43 (by decide) (by decide) ?_
  refine Wp.iushr d_Integer_bitCount_45 ?_
  obtain ⟨s9, H10⟩ := H8
  refine Wp.iadd d_Integer_bitCount_46 s9 ?_
  refine Wp.istore_n 0 [(0, .inl (((bAnd (((bAnd (x0 - (bAnd (bUshr x0 1) 1431655765)) 858993459) + (bAnd (bUshr (x0 - (bAnd (bUshr x0 1) 1431655765)) 2) 858993459)) + (bUshr ((bAnd (x0 - (bAnd (bUshr x0 1) 1431655765)) 858993459) + (bAnd (bUshr (x0 - (bAnd (bUshr x0 1) 1431655765)) 2) 858993459)) 4)) 252645135) + (bUshr (bAnd (((bAnd (x0 - (bAnd (bUshr x0 1) 1431655765)) 858993459) + (bAnd (bUshr (x0 - (bAnd (bUshr x0 1) 1431655765)) 2) 858993459)) + (bUshr ((bAnd (x0 - (bAnd (bUshr x0 1) 1431655765)) 858993459) + (bAnd (bUshr (x0 - (bAnd (bUshr x0 1) 1431655765)) 2) 858993459)) 4)) 252645135) 8)) + (bUshr ((bAnd (((bAnd (x0 - (bAnd (bUshr x0 1) 1431655765)) 858993459) + (bAnd (bUshr (x0 - (bAnd (bUshr x0 1) 1431655765)) 2) 858993459)) + (bUshr ((bAnd (x0 - (bAnd (bUshr x0 1) 1431655765)) 858993459) + (bAnd (bUshr (x0 - (bAnd (bUshr x0 1) 1431655765)) 2) 858993459)) 4)) 252645135) + (bUshr (bAnd (((bAnd (x0 - (bAnd (bUshr x0 1) 1431655765)) 858993459) + (bAnd (bUshr (x0 - (bAnd (bUshr x0 1) 1431655765)) 2) 858993459)) + (bUshr ((bAnd (x0 - (bAnd (bUshr x0 1) 1431655765)) 858993459) + (bAnd (bUshr (x0 - (bAnd (bUshr x0 1) 1431655765)) 2) 858993459)) 4)) 252645135) 8)) 16)))] d_Integer_bitCount_47 rfl (by decide) rfl ?_
  refine Wp.iload_n 0 0 d_Integer_bitCount_48 rfl rfl ?_
  refine Wp.bipush d_Integer_bitCount_49 (by decide) (by decide) ?_
  refine Wp.iand d_Integer_bitCount_51 ?_
  exact Wq.iret d_Integer_bitCount_52 rfl H10
theorem d_Integer_numberOfTrailingZeros_0 : decode Y_Integer_numberOfTrailingZeros.2.1 0 = .ok (.iload_n 0, 1) := by decide +kernel
theorem d_Integer_numberOfTrailingZeros_1 : decode Y_Integer_numberOfTrailingZeros.2.1 1 = .ok (.iconst (-1), 1) := by decide +kernel
theorem d_Integer_numberOfTrailingZeros_2 : decode Y_Integer_numberOfTrailingZeros.2.1 2 = .ok (.ixor, 1) := by decide +kernel
theorem d_Integer_numberOfTrailingZeros_3 : decode Y_Integer_numberOfTrailingZeros.2.1 3 = .ok (.iload_n 0, 1) := by decide +kernel
theorem d_Integer_numberOfTrailingZeros_4 : decode Y_Integer_numberOfTrailingZeros.2.1 4 = .ok (.iconst 1, 1) := by decide +kernel
theorem d_Integer_numberOfTrailingZeros_5 : decode Y_Integer_numberOfTrailingZeros.2.1 5 = .ok (.isub, 1) := by decide +kernel
theorem d_Integer_numberOfTrailingZeros_6 : decode Y_Integer_numberOfTrailingZeros.2.1 6 = .ok (.iand, 1) := by decide +kernel
theorem d_Integer_numberOfTrailingZeros_7 : decode Y_Integer_numberOfTrailingZeros.2.1 7 = .ok (.istore_n 0, 1) := by decide +kernel
theorem d_Integer_numberOfTrailingZeros_8 : decode Y_Integer_numberOfTrailingZeros.2.1 8 = .ok (.iload_n 0, 1) := by decide +kernel
theorem d_Integer_numberOfTrailingZeros_9 : decode Y_Integer_numberOfTrailingZeros.2.1 9 = .ok (.ifCond .gt 8, 3) := by decide +kernel
theorem d_Integer_numberOfTrailingZeros_12 : decode Y_Integer_numberOfTrailingZeros.2.1 12 = .ok (.iload_n 0, 1) := by decide +kernel
theorem d_Integer_numberOfTrailingZeros_13 : decode Y_Integer_numberOfTrailingZeros.2.1 13 = .ok (.bipush 32, 2) := by decide +kernel
theorem d_Integer_numberOfTrailingZeros_15 : decode Y_Integer_numberOfTrailingZeros.2.1 15 = .ok (.iand, 1) := by decide +kernel
theorem d_Integer_numberOfTrailingZeros_16 : decode Y_Integer_numberOfTrailingZeros.2.1 16 = .ok (.ireturn, 1) := by decide +kernel
theorem d_Integer_numberOfTrailingZeros_17 : decode Y_Integer_numberOfTrailingZeros.2.1 17 = .ok (.iconst 1, 1) := by decide +kernel
theorem d_Integer_numberOfTrailingZeros_18 : decode Y_Integer_numberOfTrailingZeros.2.1 18 = .ok (.istore_n 1, 1) := by decide +kernel
theorem d_Integer_numberOfTrailingZeros_19 : decode Y_Integer_numberOfTrailingZeros.2.1 19 = .ok (.iload_n 0, 1) := by decide +kernel
theorem d_Integer_numberOfTrailingZeros_20 : decode Y_Integer_numberOfTrailingZeros.2.1 20 = .ok (.ldc_w 264, 3) := by decide +kernel
theorem d_Integer_numberOfTrailingZeros_23 : decode Y_Integer_numberOfTrailingZeros.2.1 23 = .ok (.if_icmp .le 11, 3) := by decide +kernel
theorem d_Integer_numberOfTrailingZeros_26 : decode Y_Integer_numberOfTrailingZeros.2.1 26 = .ok (.iinc 1 16, 3) := by decide +kernel
theorem d_Integer_numberOfTrailingZeros_29 : decode Y_Integer_numberOfTrailingZeros.2.1 29 = .ok (.iload_n 0, 1) := by decide +kernel
theorem d_Integer_numberOfTrailingZeros_30 : decode Y_Integer_numberOfTrailingZeros.2.1 30 = .ok (.bipush 16, 2) := by decide +kernel
theorem d_Integer_numberOfTrailingZeros_32 : decode Y_Integer_numberOfTrailingZeros.2.1 32 = .ok (.iushr, 1) := by decide +kernel
theorem d_Integer_numberOfTrailingZeros_33 : decode Y_Integer_numberOfTrailingZeros.2.1 33 = .ok (.istore_n 0, 1) := by decide +kernel
theorem d_Integer_numberOfTrailingZeros_34 : decode Y_Integer_numberOfTrailingZeros.2.1 34 = .ok (.iload_n 0, 1) := by decide +kernel
theorem d_Integer_numberOfTrailingZeros_35 : decode Y_Integer_numberOfTrailingZeros.2.1 35 = .ok (.sipush 256, 3) := by decide +kernel
theorem d_Integer_numberOfTrailingZeros_38 : decode Y_Integer_numberOfTrailingZeros.2.1 38 = .ok (.if_icmp .le 11, 3) := by decide +kernel
theorem d_Integer_numberOfTrailingZeros_41 : decode Y_Integer_numberOfTrailingZeros.2.1 41 = .ok (.iinc 1 8, 3) := by decide +kernel
theorem d_Integer_numberOfTrailingZeros_44 : decode Y_Integer_numberOfTrailingZeros.2.1 44 = .ok (.iload_n 0, 1) := by decide +kernel
theorem d_Integer_numberOfTrailingZeros_45 : decode Y_Integer_numberOfTrailingZeros.2.1 45 = .ok (.bipush 8, 2) := by decide +kernel
theorem d_Integer_numberOfTrailingZeros_47 : decode Y_Integer_numberOfTrailingZeros.2.1 47 = .ok (.iushr, 1) := by decide +kernel
theorem d_Integer_numberOfTrailingZeros_48 : decode Y_Integer_numberOfTrailingZeros.2.1 48 = .ok (.istore_n 0, 1) := by decide +kernel
theorem d_Integer_numberOfTrailingZeros_49 : decode Y_Integer_numberOfTrailingZeros.2.1 49 = .ok (.iload_n 0, 1) := by decide +kernel
theorem d_Integer_numberOfTrailingZeros_50 : decode Y_Integer_numberOfTrailingZeros.2.1 50 = .ok (.bipush 16, 2) := by decide +kernel
theorem d_Integer_numberOfTrailingZeros_52 : decode Y_Integer_numberOfTrailingZeros.2.1 52 = .ok (.if_icmp .le 10, 3) := by decide +kernel
theorem d_Integer_numberOfTrailingZeros_55 : decode Y_Integer_numberOfTrailingZeros.2.1 55 = .ok (.iinc 1 4, 3) := by decide +kernel
theorem d_Integer_numberOfTrailingZeros_58 : decode Y_Integer_numberOfTrailingZeros.2.1 58 = .ok (.iload_n 0, 1) := by decide +kernel
theorem d_Integer_numberOfTrailingZeros_59 : decode Y_Integer_numberOfTrailingZeros.2.1 59 = .ok (.iconst 4, 1) := by decide +kernel
theorem d_Integer_numberOfTrailingZeros_60 : decode Y_Integer_numberOfTrailingZeros.2.1 60 = .ok (.iushr, 1) := by decide +kernel
theorem d_Integer_numberOfTrailingZeros_61 : decode Y_Integer_numberOfTrailingZeros.2.1 61 = .ok (.istore_n 0, 1) := by decide +kernel
theorem d_Integer_numberOfTrailingZeros_62 : decode Y_Integer_numberOfTrailingZeros.2.1 62 = .ok (.iload_n 0, 1) := by decide +kernel
theorem d_Integer_numberOfTrailingZeros_63 : decode Y_Integer_numberOfTrailingZeros.2.1 63 = .ok (.iconst 4, 1) := by decide +kernel
theorem d_Integer_numberOfTrailingZeros_64 : decode Y_Integer_numberOfTrailingZeros.2.1 64 = .ok (.if_icmp .le 10, 3) := by decide +kernel
theorem d_Integer_numberOfTrailingZeros_67 : decode Y_Integer_numberOfTrailingZeros.2.1 67 = .ok (.iinc 1 2, 3) := by decide +kernel
theorem d_Integer_numberOfTrailingZeros_70 : decode Y_Integer_numberOfTrailingZeros.2.1 70 = .ok (.iload_n 0, 1) := by decide +kernel
theorem d_Integer_numberOfTrailingZeros_71 : decode Y_Integer_numberOfTrailingZeros.2.1 71 = .ok (.iconst 2, 1) := by decide +kernel
theorem d_Integer_numberOfTrailingZeros_72 : decode Y_Integer_numberOfTrailingZeros.2.1 72 = .ok (.iushr, 1) := by decide +kernel
theorem d_Integer_numberOfTrailingZeros_73 : decode Y_Integer_numberOfTrailingZeros.2.1 73 = .ok (.istore_n 0, 1) := by decide +kernel
theorem d_Integer_numberOfTrailingZeros_74 : decode Y_Integer_numberOfTrailingZeros.2.1 74 = .ok (.iload_n 1, 1) := by decide +kernel
theorem d_Integer_numberOfTrailingZeros_75 : decode Y_Integer_numberOfTrailingZeros.2.1 75 = .ok (.iload_n 0, 1) := by decide +kernel
theorem d_Integer_numberOfTrailingZeros_76 : decode Y_Integer_numberOfTrailingZeros.2.1 76 = .ok (.iconst 1, 1) := by decide +kernel
theorem d_Integer_numberOfTrailingZeros_77 : decode Y_Integer_numberOfTrailingZeros.2.1 77 = .ok (.iushr, 1) := by decide +kernel
theorem d_Integer_numberOfTrailingZeros_78 : decode Y_Integer_numberOfTrailingZeros.2.1 78 = .ok (.iadd, 1) := by decide +kernel
theorem d_Integer_numberOfTrailingZeros_79 : decode Y_Integer_numberOfTrailingZeros.2.1 79 = .ok (.ireturn, 1) := by decide +kernel
theorem e_Integer_numberOfTrailingZeros {l : Launch} {G : GT} {d : Nat} {P : Int → MM → Prop} {m : MM} (x0 : Int)  (H : wfM m → inR x0 → (inR (x0 - 1)) ∧ (((bAnd (bXor x0 (-1)) (x0 - 1)) > 0 → (((bAnd (bXor x0 (-1)) (x0 - 1)) ≤ 65536 → (Wq l G false Y_Integer_numberOfTrailingZeros d (QI P) 34 [(0, .inl (bAnd (bXor x0 (-1)) (x0 - 1))), (1, .inl 1)] [] m)) ∧ (¬ ((bAnd (bXor x0 (-1)) (x0 - 1)) ≤ 65536) → (Wq l G false Y_Integer_numberOfTrailingZeros d (QI P) 34 [(0, .inl (bUshr (bAnd (bXor x0 (-1)) (x0 - 1)) 16)), (1, .inl (1 + 16))] [] m)))) ∧ (¬ ((bAnd (bXor x0 (-1)) (x0 - 1)) > 0) → (P (bAnd (bAnd (bXor x0 (-1)) (x0 - 1)) 32) m)))) : CI l G Y_Integer_numberOfTrailingZeros d [.inl x0] m P := by
  refine CI.of [(0, .inl x0)] k_Integer_numberOfTrailingZeros.1 (Nat.le_of_ble_eq_true rfl) rfl (Wp.wf (fun hw _ hl hs => ?_))
  have H0 := H hw (hl _ (List.mem_of_getElem? (i := 0) rfl))
  refine Wp.iload_n 0 0 d_Integer_numberOfTrailingZeros_0 rfl rfl ?_
  refine Wp.iconst d_Integer_numberOfTrailingZeros_1 (by decide) ?_
  refine Wp.ixor d_Integer_numberOfTrailingZeros_2 ?_
  refine Wp.iload_n 0 0 d_Integer_numberOfTrailingZeros_3 rfl rfl ?_
  refine Wp.iconst d_Integer_numberOfTrailingZeros_4 (by decide) ?_
  obtain ⟨s1, H2⟩ := H0
  refine Wp.isub d_Integer_numberOfTrailingZeros_5 s1 ?_
  refine Wp.iand d_Integer_numberOfTrailingZeros_6 ?_
  refine Wp.istore_n 0 [(0, .inl (bAnd (bXor x0 (-1)) (x0 - 1)))] d_Integer_numberOfTrailingZeros_7 rfl (by decide) rfl ?_
  refine Wp.iload_n 0 0 d_Integer_numberOfTrailingZeros_8 rfl rfl ?_
  obtain ⟨H4, H5⟩ := H2
  refine Wp.if_gt 17 d_Integer_numberOfTrailingZeros_9 (by decide) (fun c3 => ?_) (fun c3 => ?_)
  · have H6 := H4 c3
    refine Wp.iconst d_Integer_numberOfTrailingZeros_17 (by decide) ?_
    refine Wp.istore_n 1 [(0, .inl (bAnd (bXor x0 (-1)) (x0 - 1))), (1, .inl 1)] d_Integer_numberOfTrailingZeros_18 rfl (by decide) rfl ?_
    refine Wp.iload_n 0 0 d_Integer_numberOfTrailingZeros_19 rfl rfl ?_
    refine Wp.ldcw (z := 65536) d_Integer_numberOfTrailingZeros_20 kc_Integer_264 (by decide) (by decide) ?_
    obtain ⟨H9, H10⟩ := H6
    refine Wp.icmp_le 34 d_Integer_numberOfTrailingZeros_23 (by decide) (fun c8 => ?_) (fun c8 => ?_)
    · have H11 := H9 c8
      exact H11
    · have H12 := H10 c8
      refine Wp.iinc 1 1 [(0, .inl (bAnd (bXor x0 (-1)) (x0 - 1))), (1, .inl (1 + 16))] d_Integer_numberOfTrailingZeros_26 rfl (by decide) (by decide) rfl ?_
      refine Wp.iload_n 0 0 d_Integer_numberOfTrailingZeros_29 rfl rfl ?_
      refine Wp.bipush d_Integer_numberOfTrailingZeros_30 (by decide) (by decide) ?_
      refine Wp.iushr d_Integer_numberOfTrailingZeros_32 ?_
      refine Wp.istore_n 0 [(0, .inl (bUshr (bAnd (bXor x0 (-1)) (x0 - 1)) 16)), (1, .inl (1 + 16))] d_Integer_numberOfTrailingZeros_33 rfl (by decide) rfl ?_
      exact H12
  · have H7 := H5 c3
    refine Wp.iload_n 0 0 d_Integer_numberOfTrailingZeros_12 rfl rfl ?_
    refine Wp.bipush d_Integer_numberOfTrailingZeros_13 (by decide) (by decide) ?_
    refine Wp.iand d_Integer_numberOfTrailingZeros_15 ?_
    exact Wq.iret d_Integer_numberOfTrailingZeros_16 rfl H7
theorem s_Integer_numberOfTrailingZeros_34 {l : Launch} {G : GT} {d : Nat} {P : Int → MM → Prop} {m : MM} (x0 : Int) (x1 : Int)  (H : wfM m → inR x0 → inR x1 → (x0 ≤ 256 → ((x0 ≤ 16 → ((x0 ≤ 4 → ((inR (x1 + (bUshr x0 1))) ∧ (P (x1 + (bUshr x0 1)) m))) ∧ (¬ (x0 ≤ 4) → ((inR (x1 + 2)) ∧ ((inR ((x1 + 2) + (bUshr (bUshr x0 2) 1))) ∧ (P ((x1 + 2) + (bUshr (bUshr x0 2) 1)) m)))))) ∧ (¬ (x0 ≤ 16) → ((inR (x1 + 4)) ∧ (((bUshr x0 4) ≤ 4 → ((inR ((x1 + 4) + (bUshr (bUshr x0 4) 1))) ∧ (P ((x1 + 4) + (bUshr (bUshr x0 4) 1)) m))) ∧ (¬ ((bUshr x0 4) ≤ 4) → ((inR ((x1 + 4) + 2)) ∧ ((inR (((x1 + 4) + 2) + (bUshr (bUshr (bUshr x0 4) 2) 1))) ∧ (P (((x1 + 4) + 2) + (bUshr (bUshr (bUshr x0 4) 2) 1)) m))))))))) ∧ (¬ (x0 ≤ 256) → ((inR (x1 + 8)) ∧ (((bUshr x0 8) ≤ 16 → (((bUshr x0 8) ≤ 4 → ((inR ((x1 + 8) + (bUshr (bUshr x0 8) 1))) ∧ (P ((x1 + 8) + (bUshr (bUshr x0 8) 1)) m))) ∧ (¬ ((bUshr x0 8) ≤ 4) → ((inR ((x1 + 8) + 2)) ∧ ((inR (((x1 + 8) + 2) + (bUshr (bUshr (bUshr x0 8) 2) 1))) ∧ (P (((x1 + 8) + 2) + (bUshr (bUshr (bUshr x0 8) 2) 1)) m)))))) ∧ (¬ ((bUshr x0 8) ≤ 16) → ((inR ((x1 + 8) + 4)) ∧ (((bUshr (bUshr x0 8) 4) ≤ 4 → ((inR (((x1 + 8) + 4) + (bUshr (bUshr (bUshr x0 8) 4) 1))) ∧ (P (((x1 + 8) + 4) + (bUshr (bUshr (bUshr x0 8) 4) 1)) m))) ∧ (¬ ((bUshr (bUshr x0 8) 4) ≤ 4) → ((inR (((x1 + 8) + 4) + 2)) ∧ ((inR ((((x1 + 8) + 4) + 2) + (bUshr (bUshr (bUshr (bUshr x0 8) 4) 2) 1))) ∧ (P ((((x1 + 8) + 4) + 2) + (bUshr (bUshr (bUshr (bUshr x0 8) 4) 2) 1)) m))))))))))) : Wq l G false Y_Integer_numberOfTrailingZeros d (QI P) 34 [(0, .inl x0), (1, .inl x1)] [] m := by
  refine Wp.wf (fun hw _ hl hs => ?_)
  have H0 := H hw (hl _ (List.mem_of_getElem? (i := 0) rfl)) (hl _ (List.mem_of_getElem? (i := 1) rfl))
  refine Wp.iload_n 0 0 d_Integer_numberOfTrailingZeros_34 rfl rfl ?_
  refine Wp.sipush d_Integer_numberOfTrailingZeros_35 (by decide) (by decide) ?_
  obtain ⟨H2, H3⟩ := H0
  refine Wp.icmp_le 49 d_Integer_numberOfTrailingZeros_38 (by decide) (fun c1 => ?_) (fun c1 => ?_)
  · have H4 := H2 c1
    refine Wp.iload_n 0 0 d_Integer_numberOfTrailingZeros_49 rfl rfl ?_
    refine Wp.bipush d_Integer_numberOfTrailingZeros_50 (by decide) (by decide) ?_
    obtain ⟨H7, H8⟩ := H4
    refine Wp.icmp_le 62 d_Integer_numberOfTrailingZeros_52 (by decide) (fun c6 => ?_) (fun c6 => ?_)
    · have H9 := H7 c6
      refine Wp.iload_n 0 0 d_Integer_numberOfTrailingZeros_62 rfl rfl ?_
      refine Wp.iconst d_Integer_numberOfTrailingZeros_63 (by decide) ?_
      obtain ⟨H12, H13⟩ := H9
      refine Wp.icmp_le 74 d_Integer_numberOfTrailingZeros_64 (by decide) (fun c11 => ?_) (fun c11 => ?_)
      · have H14 := H12 c11
        refine Wp.iload_n 1 1 d_Integer_numberOfTrailingZeros_74 rfl rfl ?_
        refine Wp.iload_n 0 0 d_Integer_numberOfTrailingZeros_75 rfl rfl ?_
        refine Wp.iconst d_Integer_numberOfTrailingZeros_76 (by decide) ?_
        refine Wp.iushr d_Integer_numberOfTrailingZeros_77 ?_
        obtain ⟨s16, H17⟩ := H14
        refine Wp.iadd d_Integer_numberOfTrailingZeros_78 s16 ?_
        exact Wq.iret d_Integer_numberOfTrailingZeros_79 rfl H17
      · have H15 := H13 c11
        obtain ⟨s18, H19⟩ := H15
        refine Wp.iinc 1 1 [(0, .inl x0), (1, .inl (x1 + 2))] d_Integer_numberOfTrailingZeros_67 rfl s18 (by decide) rfl ?_
        refine Wp.iload_n 0 0 d_Integer_numberOfTrailingZeros_70 rfl rfl ?_
        refine Wp.iconst d_Integer_numberOfTrailingZeros_71 (by decide) ?_
        refine Wp.iushr d_Integer_numberOfTrailingZeros_72 ?_
        refine Wp.istore_n 0 [(0, .inl (bUshr x0 2)), (1, .inl (x1 + 2))] d_Integer_numberOfTrailingZeros_73 rfl (by decide) rfl ?_
        refine Wp.iload_n 1 1 d_Integer_numberOfTrailingZeros_74 rfl rfl ?_
        refine Wp.iload_n 0 0 d_Integer_numberOfTrailingZeros_75 rfl rfl ?_
        refine Wp.iconst d_Integer_numberOfTrailingZeros_76 (by decide) ?_
        refine Wp.iushr d_Integer_numberOfTrailingZeros_77 ?_
        obtain ⟨s20, H21⟩ := H19
        refine Wp.iadd d_Integer_numberOfTrailingZeros_78 s20 ?_
        exact Wq.iret d_Integer_numberOfTrailingZeros_79 rfl H21
    · have H10 := H8 c6
      obtain ⟨s22, H23⟩ := H10
      refine Wp.iinc 1 1 [(0, .inl x0), (1, .inl (x1 + 4))] d_Integer_numberOfTrailingZeros_55 rfl s22 (by decide) rfl ?_
      refine Wp.iload_n 0 0 d_Integer_numberOfTrailingZeros_58 rfl rfl ?_
      refine Wp.iconst d_Integer_numberOfTrailingZeros_59 (by decide) ?_
      refine Wp.iushr d_Integer_numberOfTrailingZeros_60 ?_
      refine Wp.istore_n 0 [(0, .inl (bUshr x0 4)), (1, .inl (x1 + 4))] d_Integer_numberOfTrailingZeros_61 rfl (by decide) rfl ?_
      refine Wp.iload_n 0 0 d_Integer_numberOfTrailingZeros_62 rfl rfl ?_
      refine Wp.iconst d_Integer_numberOfTrailingZeros_63 (by decide) ?_
      obtain ⟨H25, H26⟩ := H23
      refine Wp.icmp_le 74 d_Integer_numberOfTrailingZeros_64 (by decide) (fun c24 => ?_) (fun c24 => ?_)
      · have H27 := H25 c24
        refine Wp.iload_n 1 1 d_Integer_numberOfTrailingZeros_74 rfl rfl ?_
        refine Wp.iload_n 0 0 d_Integer_numberOfTrailingZeros_75 rfl rfl ?_
        refine Wp.iconst d_Integer_numberOfTrailingZeros_76 (by decide) ?_
        refine Wp.iushr d_Integer_numberOfTrailingZeros_77 ?_
        obtain ⟨s29, H30⟩ := H27
        refine Wp.iadd d_Integer_numberOfTrailingZeros_78 s29 ?_
        exact Wq.iret d_Integer_numberOfTrailingZeros_79 rfl H30
      · have H28 := H26 c24
        obtain ⟨s31, H32⟩ := H28
        refine Wp.iinc 1 1 [(0, .inl (bUshr x0 4)), (1, .inl ((x1 + 4) + 2))] d_Integer_numberOfTrailingZeros_67 rfl s31 (by decide) rfl ?_
        refine Wp.iload_n 0 0 d_Integer_numberOfTrailingZeros_70 rfl rfl ?_
        refine Wp.iconst d_Integer_numberOfTrailingZeros_71 (by decide) ?_
        refine Wp.iushr d_Integer_numberOfTrailingZeros_72 ?_
        refine Wp.istore_n 0 [(0, .inl (bUshr (bUshr x0 4) 2)), (1, .inl ((x1 + 4) + 2))] d_Integer_numberOfTrailingZeros_73 rfl (by decide) rfl ?_
        refine Wp.iload_n 1 1 d_Integer_numberOfTrailingZeros_74 rfl rfl ?_
        refine Wp.iload_n 0 0 d_Integer_numberOfTrailingZeros_75 rfl rfl ?_
        refine Wp.iconst d_Integer_numberOfTrailingZeros_76 (by decide) ?_
        refine Wp.iushr d_Integer_numberOfTrailingZeros_77 ?_
        obtain ⟨s33, H34⟩ := H32
        refine Wp.iadd d_Integer_numberOfTrailingZeros_78 s33 ?_
        exact Wq.iret d_Integer_numberOfTrailingZeros_79 rfl H34
  · have H5 := H3 c1
    obtain ⟨s35, H36⟩ := H5
    refine Wp.iinc 1 1 [(0, .inl x0), (1, .inl (x1 + 8))] d_Integer_numberOfTrailingZeros_41 rfl s35 (by decide) rfl ?_
    refine Wp.iload_n 0 0 d_Integer_numberOfTrailingZeros_44 rfl rfl ?_
    refine Wp.bipush d_Integer_numberOfTrailingZeros_45 (by decide) (by decide) ?_
    refine Wp.iushr d_Integer_numberOfTrailingZeros_47 ?_
    refine Wp.istore_n 0 [(0, .inl (bUshr x0 8)), (1, .inl (x1 + 8))] d_Integer_numberOfTrailingZeros_48 rfl (by decide) rfl ?_
    refine Wp.iload_n 0 0 d_Integer_numberOfTrailingZeros_49 rfl rfl ?_
    refine Wp.bipush d_Integer_numberOfTrailingZeros_50 (by decide) (by decide) ?_
    obtain ⟨H38, H39⟩ := H36
    refine Wp.icmp_le 62 d_Integer_numberOfTrailingZeros_52 (by decide) (fun c37 => ?_) (fun c37 => ?_)
    · have H40 := H38 c37
      refine Wp.iload_n 0 0 d_Integer_numberOfTrailingZeros_62 rfl rfl ?_
      refine Wp.iconst d_Integer_numberOfTrailingZeros_63 (by decide) ?_
      obtain ⟨H43, H44⟩ := H40
      refine Wp.icmp_le 74 d_Integer_numberOfTrailingZeros_64 (by decide) (fun c42 => ?_) (fun c42 => ?_)
      · have H45 := H43 c42
        refine Wp.iload_n 1 1 d_Integer_numberOfTrailingZeros_74 rfl rfl ?_
        refine Wp.iload_n 0 0 d_Integer_numberOfTrailingZeros_75 rfl rfl ?_
        refine Wp.iconst d_Integer_numberOfTrailingZeros_76 (by decide) ?_
        refine Wp.iushr d_Integer_numberOfTrailingZeros_77 ?_
        obtain ⟨s47, H48⟩ := H45
        refine Wp.iadd d_Integer_numberOfTrailingZeros_78 s47 ?_
        exact Wq.iret d_Integer_numberOfTrailingZeros_79 rfl H48
      · have H46 := H44 c42
        obtain ⟨s49, H50⟩ := H46
        refine Wp.iinc 1 1 [(0, .inl (bUshr x0 8)), (1, .inl ((x1 + 8) + 2))] d_Integer_numberOfTrailingZeros_67 rfl s49 (by decide) rfl ?_
        refine Wp.iload_n 0 0 d_Integer_numberOfTrailingZeros_70 rfl rfl ?_
        refine Wp.iconst d_Integer_numberOfTrailingZeros_71 (by decide) ?_
        refine Wp.iushr d_Integer_numberOfTrailingZeros_72 ?_
        refine Wp.istore_n 0 [(0, .inl (bUshr (bUshr x0 8) 2)), (1, .inl ((x1 + 8) + 2))] d_Integer_numberOfTrailingZeros_73 rfl (by decide) rfl ?_
        refine Wp.iload_n 1 1 d_Integer_numberOfTrailingZeros_74 rfl rfl ?_
        refine Wp.iload_n 0 0 d_Integer_numberOfTrailingZeros_75 rfl rfl ?_
        refine Wp.iconst d_Integer_numberOfTrailingZeros_76 (by decide) ?_
        refine Wp.iushr d_Integer_numberOfTrailingZeros_77 ?_
        obtain ⟨s51, H52⟩ := H50
        refine Wp.iadd d_Integer_numberOfTrailingZeros_78 s51 ?_
        exact Wq.iret d_Integer_numberOfTrailingZeros_79 rfl H52
    · have H41 := H39 c37
      obtain ⟨s53, H54⟩ := H41
      refine Wp.iinc 1 1 [(0, .inl (bUshr x0 8)), (1, .inl ((x1 + 8) + 4))] d_Integer_numberOfTrailingZeros_55 rfl s53 (by decide) rfl ?_
      refine Wp.iload_n 0 0 d_Integer_numberOfTrailingZeros_58 rfl rfl ?_
      refine Wp.iconst d_Integer_numberOfTrailingZeros_59 (by decide) ?_
      refine Wp.iushr d_Integer_numberOfTrailingZeros_60 ?_
      refine Wp.istore_n 0 [(0, .inl (bUshr (bUshr x0 8) 4)), (1, .inl ((x1 + 8) + 4))] d_Integer_numberOfTrailingZeros_61 rfl (by decide) rfl ?_
      refine Wp.iload_n 0 0 d_Integer_numberOfTrailingZeros_62 rfl rfl ?_
      refine Wp.iconst d_Integer_numberOfTrailingZeros_63 (by decide) ?_
      obtain ⟨H56, H57⟩ := H54
      refine Wp.icmp_le 74 d_Integer_numberOfTrailingZeros_64 (by decide) (fun c55 => ?_) (fun c55 => ?_)
      · have H58 := H56 c55
        refine Wp.iload_n 1 1 d_Integer_numberOfTrailingZeros_74 rfl rfl ?_
        refine Wp.iload_n 0 0 d_Integer_numberOfTrailingZeros_75 rfl rfl ?_
        refine Wp.iconst d_Integer_numberOfTrailingZeros_76 (by decide) ?_
        refine Wp.iushr d_Integer_numberOfTrailingZeros_77 ?_
        obtain ⟨s60, H61⟩ := H58
        refine Wp.iadd d_Integer_numberOfTrailingZeros_78 s60 ?_
        exact Wq.iret d_Integer_numberOfTrailingZeros_79 rfl H61
      · have H59 := H57 c55
        obtain ⟨s62, H63⟩ := H59
        refine Wp.iinc 1 1 [(0, .inl (bUshr (bUshr x0 8) 4)), (1, .inl (((x1 + 8) + 4) + 2))] d_Integer_numberOfTrailingZeros_67 rfl s62 (by decide) rfl ?_
        refine Wp.iload_n 0 0 d_Integer_numberOfTrailingZeros_70 rfl rfl ?_
        refine Wp.iconst d_Integer_numberOfTrailingZeros_71 (by decide) ?_
        refine Wp.iushr d_Integer_numberOfTrailingZeros_72 ?_
        refine Wp.istore_n 0 [(0, .inl (bUshr (bUshr (bUshr x0 8) 4) 2)), (1, .inl (((x1 + 8) + 4) + 2))] d_Integer_numberOfTrailingZeros_73 rfl (by decide) rfl ?_
        refine Wp.iload_n 1 1 d_Integer_numberOfTrailingZeros_74 rfl rfl ?_
        refine Wp.iload_n 0 0 d_Integer_numberOfTrailingZeros_75 rfl rfl ?_
        refine Wp.iconst d_Integer_numberOfTrailingZeros_76 (by decide) ?_
        refine Wp.iushr d_Integer_numberOfTrailingZeros_77 ?_
        obtain ⟨s64, H65⟩ := H63
        refine Wp.iadd d_Integer_numberOfTrailingZeros_78 s64 ?_
        exact Wq.iret d_Integer_numberOfTrailingZeros_79 rfl H65
